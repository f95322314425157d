/-! ===== the class's objects beside the reference's arrays ===== -/
abbrev nF (h : aH) : Nat := (hI h 63 8).toNatClampNeg
/-! h: where the class's objects are; g: where the reference's data are -/
abbrev cCh2 (h g : aH) (i : Nat) (r : aR) : Prop := chn h (fun k => hA g 69 k = 0 ∧ hA g 70 k = nI i) (hA g 71) (hA g 72) (hA g 73) (nF g) r
abbrev cFe2 (h g : aH) (i : Nat) (r : aR) : Prop := chn h (fun k => hA g 69 k = nI 1 ∧ hA g 70 k = nI i) (hA g 71) (hA g 71) (hA g 73) (nF g) r
abbrev cBu2 (h g : aH) (p : Nat) (r : aR) : Prop := chn h (fun k => hA g 69 k = nI 2 ∧ hA g 70 k = nI p) (hA g 71) (hA g 72) (hA g 73) (nF g) r
abbrev cCa2 (h g : aH) (s : Nat) (r : aR) : Prop := chn h (fun k => hA g 69 k = nI 3 ∧ hA g 71 k = nI s) (hA g 70) (hA g 72) (hA g 73) (nF g) r
/-- o is an object of class c that came after the constructors -/
abbrev isO (h : aH) (o c : Nat) : Prop := 99 ≤ o ∧ o < hN h ∧ hT h o = (0, c)
/-- o is the object of land i; of person p, with its cells at a -/
def LdAt2 (h g : aH) (i o : Nat) : Prop := hQ h 1 i = some (0, 4, o) ∧ hI h o 0 = hA g 64 i ∧ cCh2 h g i (hR h o 1) ∧ cFe2 h g i (hR h o 2) ∧ isO h o 4
def PeAt2 (h g : aH) (p o a : Nat) : Prop := hQ h 2 p = some (0, 6, o) ∧ hR h o 0 = hQ h 1 (hA g 65 p).toNatClampNeg ∧ hI h o 1 = hA g 66 p ∧ hR h o 2 = some (3, 48, a) ∧ hI h o 3 = (if hA g 67 p = -1 then nI 0 else hA g 67 p) ∧ (¬ hA g 67 p = -1 → ∀ i : Nat, i < 48 → hA h a i = hA g 68 (48 * p + i)) ∧ cBu2 h g p (hR h o 4) ∧ isO h o 6 ∧ (99 ≤ a ∧ a < hN h ∧ hT h a = (3, 48))
def LdAt (h : aH) (i o : Nat) : Prop := LdAt2 h h i o
def PeAt (h : aH) (p o a : Nat) : Prop := PeAt2 h h p o a
def CLn2 (h g : aH) : Prop := hI h 0 9 = hI g 63 1 ∧ hI h 0 10 = hI g 63 3 ∧ hI h 0 11 = hI g 63 8 ∧ hI h 0 12 = hI g 63 14
def CLl2 (h g : aH) : Prop := ∀ i : Nat, (i : Int) < (hI g 63 1).toInt → ∃ o, LdAt2 h g i o
def CLp2 (h g : aH) : Prop := ∀ p : Nat, (p : Int) < (hI g 63 3).toInt → ∃ o a, PeAt2 h g p o a
/-- lands, persons and their cells are apart -/
def CLd (h g : aH) : Prop := (∀ i j : Nat, (i : Int) < (hI g 63 1).toInt → (j : Int) < (hI g 63 1).toInt → hQ h 1 i = hQ h 1 j → i = j) ∧
  (∀ p q : Nat, (p : Int) < (hI g 63 3).toInt → (q : Int) < (hI g 63 3).toInt → hQ h 2 p = hQ h 2 q → p = q) ∧
  (∀ p q o o' : Nat, (p : Int) < (hI g 63 3).toInt → (q : Int) < (hI g 63 3).toInt → hQ h 2 p = some (0, 6, o) → hQ h 2 q = some (0, 6, o') → hR h o 2 = hR h o' 2 → p = q)
/-- clocks and persons are alike on both sides -/
def SK2 (h g : aH) : Prop := CLn2 h g ∧ CLl2 h g ∧ CLp2 h g
def SK (h : aH) : Prop := SR h ∧ SK2 h h
theorem SK.n {h : aH} (S : SK h) : RIn h := S.1.2.1
theorem nF_eq {h : aH} (S : SR h) : (nF h : Int) = (hI h 63 8).toInt := i32_clamp S.2.1.2.2.1.1
theorem i32_lt {x : Int32} {n : Nat} (h0 : 0 ≤ x.toInt) (h1 : x.toInt < n) : ∃ j : Nat, j < n ∧ x = nI j := ⟨x.toNatClampNeg, by have := i32_clamp h0; omega, i32_nn h0⟩
/-- Land.offsetAt of land i -/
theorem k_offL {l : Launch} {E : eE} {d bc bs : Nat} {h : aH} {K : Int32 → aH → Prop} {i o : Nat} {t x : Int32} (S : SR h) (hl : LdAt h i o) (hi : (i : Int) < (hI h 63 1).toInt) (hx : 0 ≤ x.toInt ∧ x.toInt ≤ (hI h 63 8).toInt) (k : K (rOff h (nI i) t x.toNatClampNeg) h) : CI l E d bc bs mX4_offsetAt [.inr (some (0, 4, o)), .inl t, .inl x] h K := by
  have e := i32_nn hx.1
  have e2 := i32_clamp hx.1
  have hN := S.2.1
  unfold RIn at hN
  have hm := nF_eq S
  rw [e]
  refine k_off S.1 (m := nF h) (by omega) (by omega) (by rw [hl.2.1, nI_clamp (by omega)]) (fun j hj hz => ?_) hl.2.2.1 k
  rcases (S.2.2.2.2.2.1 j (by omega)).1 with z | z | z | z
  · exact z.2.2.1.1
  · exact z.2.2.1
  · exact z.2.2.1
  · exact z.2.2.1.1
theorem c_min {l : Launch} {E : eE} {d bc bs : Nat} {h : aH} {K : Int32 → aH → Prop} {x y : Int32} (S : SH h) (k : K (if y < x then y else x) h) : CI l E d bc bs mJ9_min_7cf53 [.inl x, .inl y] h K := by
  refine bJ9_min_7cf53_0 S ⟨fun c => ?_, fun c => ?_⟩
  · rw [if_pos c] at k; exact k
  · rw [if_neg c] at k; exact k
theorem c_max {l : Launch} {E : eE} {d bc bs : Nat} {h : aH} {K : Int32 → aH → Prop} {x y : Int32} (S : SH h) (k : K (if x < y then y else x) h) : CI l E d bc bs mJ9_max_7cf53 [.inl x, .inl y] h K := by
  refine bJ9_max_7cf53_0 S ⟨fun c => ?_, fun c => ?_⟩
  · rw [if_pos c] at k; exact k
  · rw [if_neg c] at k; exact k
/-- Person.cellAt -/
theorem k_cellAt {l : Launch} {E : eE} {d bc bs : Nat} {h : aH} {K : Int32 → aH → Prop} {p o a : Nat} {x : Int32} (S : SR h) (hd : 1 ≤ d) (hp : PeAt h p o a) (hpp : (p : Int) < (hI h 63 3).toInt) (hx : -1000000 ≤ x.toInt ∧ x.toInt ≤ 1000000) (k : K (rCost h (nI p) (x - nI 48 * rDown x (nI 48))) h) : CI l E d bc bs mX6_cellAt [.inr (some (0, 6, o)), .inl x] h K := by
  obtain ⟨d, rfl⟩ : ∃ d', d = d' + 1 := ⟨d - 1, by omega⟩
  obtain ⟨-, -, -, ha, hc, hcell, -⟩ := hp
  have hN := S.2.1
  unfold RIn at hN
  have hm := rMod48 hx.1 hx.2
  have hpc : (nI p).toNatClampNeg = p := nI_clamp (by omega)
  have hcc := (S.2.2.2.1 p hpp).2.2
  unfold rCost at k
  rw [hpc] at k
  refine bX6_cellAt_0 S.1 ⟨fun c => ⟨a, ha, c_fmod48 S.1 hx ⟨S.1, c_min S.1 ⟨S.1, ?_⟩⟩⟩, fun c => ?_⟩
  · have g : ¬ hA h 67 p = -1 := fun q => c (by rw [hc, if_pos q]; decide)
    rw [if_neg g] at hc k
    have hcc := hcc.resolve_left g
    have hcell := hcell g
    rw [hc]
    have e1 : (hA h 67 p - nI 1).toInt = (hA h 67 p).toInt - 1 := by rw [i_sub (by rw [ti_1]; omega) (by rw [ti_1]; omega), ti_1]
    have e48 : (nI 48 * nI p).toInt = 48 * p := by rw [i_mul (by rw [ti_48, nI_toInt (by omega)]; omega) (by rw [ti_48, nI_toInt (by omega)]; omega), ti_48, nI_toInt (by omega)]
    have key : ∀ v : Int32, 0 ≤ v.toInt → v.toInt < 48 → hA h a v.toNatClampNeg = hA h 68 (nI 48 * nI p + v).toNatClampNeg := by
      intro v v0 v1
      have ev := i32_clamp v0
      have e2 : (nI 48 * nI p + v).toInt = 48 * p + v.toInt := by rw [i_add (by rw [e48]; omega) (by rw [e48]; omega), e48]
      have e3 := i32_clamp (x := nI 48 * nI p + v) (by omega)
      rw [hcell v.toNatClampNeg (by omega), show (nI 48 * nI p + v).toNatClampNeg = 48 * p + v.toNatClampNeg by omega]
    by_cases g2 : hA h 67 p - nI 1 < x - nI 48 * rDown x (nI 48)
    · rw [if_pos g2]
      have g3 := g2
      rw [Int32.lt_iff_toInt_lt] at g3
      refine ⟨vp_of (by omega) (by omega), ?_⟩
      rw [if_pos (by rw [Int32.le_iff_toInt_le]; omega)] at k
      rw [key _ (by omega) (by omega)]
      exact k
    · rw [if_neg g2]
      have g3 := g2
      rw [Int32.lt_iff_toInt_lt] at g3
      refine ⟨vp_of (by omega) (by omega), ?_⟩
      rw [if_neg (by rw [Int32.le_iff_toInt_le]; omega)] at k
      rw [key _ (by omega) (by omega)]
      exact k
  · have g : hA h 67 p = -1 := by
      refine Decidable.byContradiction fun q => ?_
      rw [hc, if_neg q] at c
      have := hcc.resolve_left q
      rw [c, ti_z] at this
      omega
    rw [if_pos g] at k
    exact k
/-- Land.celebrates -/
theorem w_kcel {l : Launch} {E : eE} {d bc bs : Nat} {h : aH} {K : Int32 → aH → Prop} {o i : Nat} {day : Int32} {n : Nat} (S : SH h) (hn : n < 2 ^ 31) (k1 : rFeast h (nI i) day n → K (nI 1) h) (k0 : ¬ rFeast h (nI i) day n → K (nI 0) h) : ∀ (m : Nat) (r : aR), m < 2 ^ 31 → chn h (fun k => hA h 69 k = nI 1 ∧ hA h 70 k = nI i) (hA h 71) (hA h 71) (hA h 73) m r → (∀ j, m ≤ j → j < n → ¬ (hA h 69 j = nI 1 ∧ hA h 70 j = nI i ∧ hA h 71 j = day)) → LX4_celebrates_5 l E d bc bs o day (nI n) r h K := by
  intro m
  induction m with
  | zero =>
    intro r _ hc hno
    have hc : r = none := hc
    subst hc
    exact bX4_celebrates_5 S ⟨fun _ => k0 (fun ⟨j, hj, q⟩ => hno j (Nat.zero_le j) hj q), fun q e => by cases e⟩
  | succ m ih =>
    intro r hm hc hno
    rcases hc with ⟨hP, p, rfl, f0, f1, f2, f3, hc, -⟩ | ⟨hP, hc⟩
    · refine bX4_celebrates_5 S ⟨fun e => (by cases e), fun q _ => ⟨p, rfl, ?_⟩⟩
      rw [f0, f1]
      refine ⟨fun c => ih _ (by omega) hc (fun j h1 h2 => ?_), fun c => ⟨fun c1 => ih _ (by omega) hc (fun j h1 h2 => ?_), fun c1 => k1 ⟨m, ?_, hP.1, hP.2, c1⟩⟩⟩
      · have hnm : n ≤ m := (nI_leI hn (by omega)).mp c
        exact absurd h2 (by omega)
      · rcases Nat.lt_or_ge m j with g | g
        · exact hno j g h2
        · rw [show j = m by omega]; exact fun q => c1 q.2.2
      · have : ¬ n ≤ m := fun q => c ((nI_leI hn (by omega)).mpr q)
        omega
    · refine ih r (by omega) hc (fun j h1 h2 => ?_)
      rcases Nat.lt_or_ge m j with g | g
      · exact hno j g h2
      · rw [show j = m by omega]; exact fun q => hP ⟨q.1, q.2.1⟩
/-- Person.spanAt: the latest told busy span, its object -/
theorem w_kspan {l : Launch} {E : eE} {d bc bs : Nat} {h : aH} {K : aR → aH → Prop} {o p : Nat} {t : Int32} {n : Nat} (S : SH h) (hn : n < 2 ^ 31)
    (k1 : ∀ j q, j < n → (hA h 69 j = nI 2 ∧ hA h 70 j = nI p ∧ ¬ t < hA h 71 j ∧ ¬ hA h 72 j ≤ t) → (∀ a, j < a → a < n → ¬ (hA h 69 a = nI 2 ∧ hA h 70 a = nI p ∧ ¬ t < hA h 71 a ∧ ¬ hA h 72 a ≤ t)) → hI h q 0 = nI j → hI h q 3 = hA h 73 j → K (some (0, 3, q)) h) (k0 : ¬ rBusy h (nI p) t n → K none h) :
    ∀ (m : Nat) (r : aR), m < 2 ^ 31 → chn h (fun k => hA h 69 k = nI 2 ∧ hA h 70 k = nI p) (hA h 71) (hA h 72) (hA h 73) m r → (∀ j, m ≤ j → j < n → ¬ (hA h 69 j = nI 2 ∧ hA h 70 j = nI p ∧ ¬ t < hA h 71 j ∧ ¬ hA h 72 j ≤ t)) → LX6_spanAt_5 l E d bc bs o t (nI n) r h K := by
  intro m
  induction m with
  | zero =>
    intro r _ hc hno
    have hc : r = none := hc
    subst hc
    exact bX6_spanAt_5 S ⟨fun _ => k0 (fun ⟨j, hj, q⟩ => hno j (Nat.zero_le j) hj q), fun q e => by cases e⟩
  | succ m ih =>
    intro r hm hc hno
    rcases hc with ⟨hP, q, rfl, f0, f1, f2, f3, hc, -⟩ | ⟨hP, hc⟩
    · refine bX6_spanAt_5 S ⟨fun e => (by cases e), fun _ _ => ⟨q, rfl, ?_⟩⟩
      rw [f0, f1, f2]
      have st : (m < n → ¬ (¬ t < hA h 71 m ∧ ¬ hA h 72 m ≤ t)) → LX6_spanAt_5 l E d bc bs o t (nI n) (hR h q 4) h K := fun z => ih _ (by omega) hc (fun j h1 h2 => by
        rcases Nat.lt_or_ge m j with g | g
        · exact hno j g h2
        · have e : j = m := by omega
          subst e
          exact fun y => z h2 ⟨y.2.2.1, y.2.2.2⟩)
      refine ⟨fun c => st (fun z => absurd ((nI_leI hn (by omega)).mp c) (by omega)), fun c => ⟨fun c1 => st (fun _ y => y.1 c1), fun c1 => ⟨fun c2 => st (fun _ y => y.2 c2), fun c2 => ?_⟩⟩⟩
      have hmn : ¬ n ≤ m := fun z => c ((nI_leI hn (by omega)).mpr z)
      exact k1 m q (by omega) ⟨hP.1, hP.2, c1, c2⟩ (fun a h1 h2 => hno a h1 h2) f0 f3
    · refine ih r (by omega) hc (fun j h1 h2 => ?_)
      rcases Nat.lt_or_ge m j with g | g
      · exact hno j g h2
      · rw [show j = m by omega]; exact fun z => hP ⟨z.1, z.2.1⟩
