/-! ===== the choices of a series, in order ===== -/
def clsP (ch : Int32) (no c : Nat) : Bool := if ch = -1 then decide (c < no) else decide ((tb2.getD c 0).toNatClampNeg < no)
def cls (ch : Int32) (no : Nat) : List Nat := (List.range 15).filter (clsP ch no)
/-- how many pairs come before i, j -/
def rk (no i j : Nat) : Nat := i * (2 * no - i - 1) / 2 + (j - i - 1)
theorem cls_one : ∀ no, no < 7 → (cls (-1) no).length = no ∧ ∀ q, q < no → (cls (-1) no).getD q 0 = q := by decide +kernel
theorem cls_t1 : ∀ no, no < 7 → (cls 0 no).length = rk no no (no + 1) ∧ (cls 0 no).length ≤ 15 := by decide +kernel
theorem cls_t2 : ∀ no, no < 7 → ∀ i, i < no → rk no i no = rk no (i + 1) (i + 2) := by decide +kernel
theorem cls_t3 : ∀ no, no < 7 → ∀ i, i < no → ∀ j, j < no → i < j → (rk no i j < (cls 0 no).length ∧ (cls 0 no).getD (rk no i j) 0 = rk 6 i j ∧ rk no i (j + 1) = rk no i j + 1) := by decide +kernel
theorem cls_t4 : ∀ i, i < 6 → ∀ j, j < 6 → i < j → (tb1.getD (rk 6 i j) 0 = nI i ∧ tb2.getD (rk 6 i j) 0 = nI j ∧ rk 6 i j < 15) := by decide +kernel
theorem cls_two0 : ∀ no, no < 7 → (cls 0 no).length = rk no no (no + 1) ∧ (cls 0 no).length ≤ 15 ∧ ∀ i, i < no → rk no i no = rk no (i + 1) (i + 2) ∧ ∀ j, j < no → i < j → (rk no i j < (cls 0 no).length ∧ (cls 0 no).getD (rk no i j) 0 = rk 6 i j ∧ rk no i (j + 1) = rk no i j + 1 ∧ tb1.getD (rk 6 i j) 0 = nI i ∧ tb2.getD (rk 6 i j) 0 = nI j ∧ rk 6 i j < 15) := fun no hn => ⟨(cls_t1 no hn).1, (cls_t1 no hn).2, fun i hi => ⟨cls_t2 no hn i hi, fun j hj hij => by
  obtain ⟨a, b, c⟩ := cls_t3 no hn i hi j hj hij
  obtain ⟨d, e, f⟩ := cls_t4 i (by omega) j (by omega) hij
  exact ⟨a, b, c, d, e, f⟩⟩⟩
theorem cls_ch {ch : Int32} (c : ¬ ch = -1) (no : Nat) : cls ch no = cls 0 no := by
  have : clsP ch no = clsP 0 no := by
    funext x
    unfold clsP
    rw [if_neg c, if_neg (show ¬ (0 : Int32) = -1 by decide)]
  unfold cls
  rw [this]
theorem cls_len {ch : Int32} {no : Nat} (h : no < 7) : (cls ch no).length ≤ 15 := by
  by_cases c : ch = -1
  · rw [c, (cls_one no h).1]; omega
  · rw [cls_ch c]; exact (cls_two0 no h).2.1
theorem cls_lt {ch : Int32} {no q : Nat} (h : q < (cls ch no).length) : (cls ch no).getD q 0 < 15 ∧ clsP ch no ((cls ch no).getD q 0) = true := by
  have : (cls ch no).getD q 0 ∈ cls ch no := by
    rw [List.getD_eq_getElem?_getD, List.getElem?_eq_getElem h]
    exact List.getElem_mem h
  unfold cls at this ⊢
  rw [List.mem_filter, List.mem_range] at this
  exact this
/-- the reference's list of choices -/
def LsO (g h : aH) (s : Nat) : Prop := hA h 87 s = nI (cls (hA g 76 s) (hA g 77 s).toNatClampNeg).length ∧ ∀ q, q < (cls (hA g 76 s) (hA g 77 s).toNatClampNeg).length → hA h 85 (15 * s + q) = fO (hA g 76 s) (nI ((cls (hA g 76 s) (hA g 77 s).toNatClampNeg).getD q 0)) ∧ hA h 86 (15 * s + q) = sO (hA g 76 s) (nI ((cls (hA g 76 s) (hA g 77 s).toNatClampNeg).getD q 0))
/-- a change of the list of series s alone -/
def LsC (s : Nat) (h h' : aH) : Prop := MO h h' ∧ hI h' 63 = hI h 63 ∧ (∀ a, 64 ≤ a → a ≤ 98 → a ≠ 85 → a ≠ 86 → a ≠ 87 → hA h' a = hA h a) ∧ (∀ j, (j < 15 * s ∨ 15 * s + 15 ≤ j) → hA h' 85 j = hA h 85 j ∧ hA h' 86 j = hA h 86 j) ∧ (∀ r, r ≠ s → hA h' 87 r = hA h 87 r)
theorem LsC.rf (s : Nat) (h : aH) : LsC s h h := ⟨MO.rf h, rfl, fun _ _ _ _ _ _ => rfl, fun _ _ => ⟨rfl, rfl⟩, fun _ _ => rfl⟩
theorem LsC.p {s : Nat} {g h h' : aH} (c : LsC s h h') (e : REp g h) : REp g h' := by
  obtain ⟨c1, c2, c3, -⟩ := c
  refine e.tr ⟨⟨by rw [c2], by rw [c2], by rw [c2], by rw [c2], by rw [c2]⟩, fun a h1 h2 => c3 a h1 (by omega) (by omega) (by omega) (by omega)⟩
/-- one more choice written -/
theorem LsC.put {s q : Nat} {h h' : aH} (c : LsC s h h') (hq : q < 15) (x y z : Int32) : LsC s h (stA (stA (stA h' 85 (15 * s + q) x) 86 (15 * s + q) y) 87 s z) := by
  obtain ⟨c1, c2, c3, c4, c5⟩ := c
  refine ⟨((c1.tr (mo_A h' (15 * s + q) x (by decide))).tr (mo_A _ (15 * s + q) y (by decide))).tr (mo_A _ s z (by decide)), c2, fun a h1 h2 h3 h4 h5 => ?_, fun j hj => ?_, fun r hr => ?_⟩
  · rw [← c3 a h1 h2 h3 h4 h5]
    exact (up2_ne h5).trans ((up2_ne h4).trans (up2_ne h3))
  · obtain ⟨u, v⟩ := c4 j hj
    rw [← u, ← v]
    have e : ¬ j = 15 * s + q := by omega
    exact ⟨by simp [hA_st, e], by simp [hA_st, e]⟩
  · rw [← c5 r hr]
    simp [hA_st, hr]
theorem c_lists {l : Launch} {E : eE} {d bc bs : Nat} {h : aH} {K : aH → Prop} {g : aH} {s : Nat} (S : SH h) (ri : RI g) (e : REp g h) (hs : (s : Int) < (hI g 63 14).toInt) (k : ∀ h1, LsC s h h1 → LsO g h1 s → K h1) : CV l E d bc bs mX12_lists [.inr (some (0, 12, 63)), .inl (nI s)] h K := by
  have hN := ri.1
  unfold RIn at hN
  have h6 := op6 ri hs
  obtain ⟨no, hno, eno⟩ : ∃ no : Nat, (no : Int) = (hA g 77 s).toInt ∧ hA g 77 s = nI no := ⟨_, i32_clamp h6.1, i32_nn h6.1⟩
  have ec : (hA g 77 s).toNatClampNeg = no := by rw [eno, nI_clamp (by omega)]
  have kk : ∀ h1, LsC s h h1 → hA h1 87 s = nI (cls (hA g 76 s) no).length → (∀ q, q < (cls (hA g 76 s) no).length → hA h1 85 (15 * s + q) = fO (hA g 76 s) (nI ((cls (hA g 76 s) no).getD q 0)) ∧ hA h1 86 (15 * s + q) = sO (hA g 76 s) (nI ((cls (hA g 76 s) no).getD q 0))) → K h1 := fun h1 c q1 q2 => k h1 c (by unfold LsO; rw [ec]; exact ⟨q1, q2⟩)
  have rd : ∀ h1, LsC s h h1 → hA h1 77 s = nI no ∧ hA h1 76 s = hA g 76 s := fun h1 c => by
    have := c.p e
    rw [this.2 77 (by decide) (by decide), this.2 76 (by decide) (by decide)]
    exact ⟨eno, rfl⟩
  have c0 : LsC s h (stA h 87 s (nI 0)) := ⟨mo_A h s _ (by decide), rfl, fun a _ _ _ _ h5 => up2_ne h5, fun j _ => ⟨rfl, rfl⟩, fun r hr => by simp [hA_st, hr]⟩
  refine bX12_lists_0 S ⟨vp_in_nI (by omega) (by omega), ?_⟩
  rw [nI_clamp (n := s) (by omega)]
  have m0 : hA (stA h 87 s (nI 0)) 87 s = nI 0 := by simp [hA_st]
  generalize stA h 87 s (nI 0) = h0 at c0 m0
  by_cases ch : hA g 76 s = -1
  · -- no chair: the options alone
    obtain ⟨f1, f2⟩ := cls_one no (by omega)
    have lp : ∀ (b i : Nat) (h1 : aH), i + b = no → LsC s h h1 → hA h1 87 s = nI i → (∀ q, q < i → hA h1 85 (15 * s + q) = nI q ∧ hA h1 86 (15 * s + q) = -1) → LX12_lists_9 l E d bc bs (nI s) (nI i) h1 K := by
      intro b
      induction b with
      | zero =>
        intro i h1 hi c q1 q2
        have hi : i = no := by omega
        subst hi
        obtain ⟨r1, r2⟩ := rd h1 c
        refine bX12_lists_9 (c.1.sh S) ?_
        rw [nI_clamp (n := s) (by omega), r1]
        refine ⟨vp_in_nI (by omega) (by omega), fun _ => kk h1 c ?_ (fun q hq => ?_), fun z => absurd (nI_le (Nat.le_refl i) (by omega)) z⟩
        · rw [ch, f1]; exact q1
        · rw [ch, f1] at hq
          rw [ch, f2 q hq]
          exact q2 q hq
      | succ b ih =>
        intro i h1 hi c q1 q2
        obtain ⟨r1, r2⟩ := rd h1 c
        refine bX12_lists_9 (c.1.sh S) ?_
        rw [nI_clamp (n := s) (by omega), r1, r2]
        refine ⟨vp_in_nI (by omega) (by omega), fun z => absurd z (nI_ge (by omega) (by omega)), fun _ => ⟨fun z => absurd ch z, fun _ => bX12_lists_37 (c.1.sh S) ?_⟩⟩
        rw [nI_clamp (n := s) (by omega), r1, r2, q1, ix2 (by omega), nI_add]
        have nn : ¬ nI no ≤ -1 := fun z => by
          rw [Int32.le_iff_toInt_le, nI_toInt (by omega), ti_m1] at z; omega
        refine ⟨vp_in_nI (by omega) (by omega), fun z => absurd z nn, fun _ => ⟨vp2 (by omega) (by omega), fun z => absurd ch z, fun _ => ih (i + 1) _ (by omega) (c.put (by omega) _ _ _) (by simp [hA_st]) (fun q hq => ?_)⟩⟩
        by_cases y : q = i
        · subst y; simp [hA_st]
        · have := q2 q (by omega)
          have y2 : ¬ 15 * s + q = 15 * s + i := by omega
          simp [hA_st, y]
          exact this
    exact lp no 0 h0 (by omega) c0 m0 (fun q hq => absurd hq (Nat.not_lt_zero q))
  · -- pairs
    obtain ⟨f1, f2, f3⟩ := cls_two0 no (by omega)
    rw [cls_ch ch] at kk
    have lp : ∀ (b i : Nat) (h1 : aH), i + b = no → LsC s h h1 → hA h1 87 s = nI (rk no i (i + 1)) → (∀ q, q < rk no i (i + 1) → hA h1 85 (15 * s + q) = fO (hA g 76 s) (nI ((cls 0 no).getD q 0)) ∧ hA h1 86 (15 * s + q) = sO (hA g 76 s) (nI ((cls 0 no).getD q 0))) → LX12_lists_9 l E d bc bs (nI s) (nI i) h1 K := by
      intro b
      induction b with
      | zero =>
        intro i h1 hi c q1 q2
        have hi : i = no := by omega
        subst hi
        obtain ⟨r1, r2⟩ := rd h1 c
        refine bX12_lists_9 (c.1.sh S) ?_
        rw [nI_clamp (n := s) (by omega), r1]
        exact ⟨vp_in_nI (by omega) (by omega), fun _ => kk h1 c (by rw [f1]; exact q1) (fun q hq => q2 q (by rw [← f1]; exact hq)), fun z => absurd (nI_le (Nat.le_refl i) (by omega)) z⟩
      | succ b ih =>
        intro i h1 hi c q1 q2
        obtain ⟨g1, g2⟩ := f3 i (by omega)
        have inn : ∀ (b2 j : Nat) (h2 : aH), j + b2 = no → i < j → LsC s h h2 → hA h2 87 s = nI (rk no i j) → (∀ q, q < rk no i j → hA h2 85 (15 * s + q) = fO (hA g 76 s) (nI ((cls 0 no).getD q 0)) ∧ hA h2 86 (15 * s + q) = sO (hA g 76 s) (nI ((cls 0 no).getD q 0))) → LX12_lists_37 l E d bc bs (nI s) (nI i) (nI j) h2 K := by
          intro b2
          induction b2 with
          | zero =>
            intro j h2 hj hij c q1 q2
            have hj : j = no := by omega
            subst hj
            obtain ⟨r1, r2⟩ := rd h2 c
            refine bX12_lists_37 (c.1.sh S) ?_
            rw [nI_clamp (n := s) (by omega), r1, nI_add]
            rw [g1] at q1 q2
            exact ⟨vp_in_nI (by omega) (by omega), fun _ => ih (i + 1) h2 (by omega) c q1 q2, fun z => absurd (nI_le (Nat.le_refl j) (by omega)) z⟩
          | succ b2 ih2 =>
            intro j h2 hj hij c q1 q2
            obtain ⟨r1, r2⟩ := rd h2 c
            obtain ⟨k1, k2, k3, k4, k5, k6⟩ := g2 j (by omega) hij
            refine bX12_lists_37 (c.1.sh S) ?_
            rw [nI_clamp (n := s) (by omega), r1, r2, q1, ix2 (by omega), nI_add j 1, nI_add (rk no i j) 1]
            refine ⟨vp_in_nI (by omega) (by omega), fun z => absurd z (nI_ge (by omega) (by omega)), fun _ => ⟨vp2 (by omega) (by omega), fun _ => ih2 (j + 1) _ (by omega) (by omega) (c.put (by omega) _ _ _) (by rw [k3]; simp [hA_st]) (fun q hq => ?_), fun z => absurd z ch⟩⟩
            rw [k3] at hq
            by_cases y : q = rk no i j
            · subst y
              rw [k2]
              unfold fO sO
              rw [if_neg ch, if_neg ch, nI_clamp (by omega), k4, k5]
              simp [hA_st]
            · have := q2 q (by omega)
              simp [hA_st, y]
              exact this
        obtain ⟨r1, r2⟩ := rd h1 c
        refine bX12_lists_9 (c.1.sh S) ?_
        rw [nI_clamp (n := s) (by omega), r1, r2]
        refine ⟨vp_in_nI (by omega) (by omega), fun z => absurd z (nI_ge (by omega) (by omega)), fun _ => ⟨fun _ => ?_, fun z => absurd z ch⟩⟩
        rw [nI_add]
        exact inn (no - (i + 1)) (i + 1) h1 (by omega) (by omega) c q1 q2
    have z : rk no 0 (0 + 1) = 0 := by unfold rk; simp
    exact lp no 0 h0 (by omega) c0 (by rw [z]; exact m0) (fun q hq => by rw [z] at hq; exact absurd hq (Nat.not_lt_zero q))
/-- a choice is in the list when it is one of the options that there are -/
theorem clsP_iff {g : aH} (S : RI g) {s c : Nat} (hs : (s : Int) < (hI g 63 14).toInt) (hc : c < 15) : clsP (hA g 76 s) (hA g 77 s).toNatClampNeg c = true ↔ (okC (hA g 76 s) (nI c) ∧ okP g s (fO (hA g 76 s) (nI c)) (sO (hA g 76 s) (nI c))) := by
  have h6 := op6 S hs
  have ec := i32_clamp h6.1
  unfold clsP
  by_cases ch : hA g 76 s = -1
  · rw [if_pos ch, decide_eq_true_iff]
    have : okC (hA g 76 s) (nI c) ↔ c < 6 := by unfold okC; rw [if_pos ch, nI_toInt (by omega)]; omega
    constructor
    · intro q
      have o := this.mpr (by omega)
      refine ⟨o, (okP_of S hs o).mpr ?_⟩
      unfold fO sO
      rw [if_pos ch, if_pos ch, if_neg (by simp only [Int32.lt_iff_toInt_lt, Int32.le_iff_toInt_le, ti_z, ti_m1, ti_m24, ti_0, ti_1, ti_2, ti_3, ti_4, ti_5, ti_6, ti_7, ti_8, ti_11, ti_12, ti_15, ti_24, ti_28, ti_31, ti_47, ti_48, ti_52, ti_90, ti_100, ti_127, ti_336, ti_363, ti_364, ti_400, ti_416, ti_576, ti_17471, ti_17472]; rw [nI_toInt (by omega)]; omega), nI_toInt (by omega)]
      omega
    · rintro ⟨o, q⟩
      have q := (okP_of S hs o).mp q
      unfold fO sO at q
      rw [if_pos ch, if_pos ch, if_neg (by simp only [Int32.lt_iff_toInt_lt, Int32.le_iff_toInt_le, ti_z, ti_m1, ti_m24, ti_0, ti_1, ti_2, ti_3, ti_4, ti_5, ti_6, ti_7, ti_8, ti_11, ti_12, ti_15, ti_24, ti_28, ti_31, ti_47, ti_48, ti_52, ti_90, ti_100, ti_127, ti_336, ti_363, ti_364, ti_400, ti_416, ti_576, ti_17471, ti_17472]; rw [nI_toInt (by omega)]; omega), nI_toInt (by omega)] at q
      omega
  · rw [if_neg ch, decide_eq_true_iff]
    have o : okC (hA g 76 s) (nI c) := by unfold okC; rw [if_neg ch, nI_toInt (by omega)]; omega
    have tt : ∀ n, n < 15 → tb1.getD n 0 < tb2.getD n 0 ∧ (tb2.getD n 0).toInt = (tb2.getD n 0).toNatClampNeg := by decide
    obtain ⟨t1, t2⟩ := tt c hc
    have := okP_of S hs o
    rw [this]
    unfold fO sO
    rw [if_neg ch, if_neg ch, nI_clamp (by omega), if_pos t1, t2]
    constructor
    · intro q; exact ⟨o, by omega⟩
    · rintro ⟨-, q⟩; omega
/-! ===== the best way: all ways in order ===== -/
section
variable (np m : Nat) (D : Nat → Nat → Prop) (SU : (Nat → Nat) → Nat → Int) (L : List Nat)
def upN (v : Nat → Nat) (k c : Nat) : Nat → Nat := fun x => if x = k then c else v x
noncomputable def updB (v : Nat → Nat) : Option (Nat → Nat) → Option (Nat → Nat)
  | none => some v
  | some u => if Classical.propDecidable (bet np (SU v) (SU u)) |>.decide then some v else some u
noncomputable def lfB (v : Nat → Nat) (B : Option (Nat → Nat)) : Option (Nat → Nat) := if Classical.propDecidable (∀ k, k < m → D k (v k)) |>.decide then updB np SU v B else B
noncomputable def foB : Nat → Nat → (Nat → Nat) → Option (Nat → Nat) → Option (Nat → Nat)
  | 0, _, v, B => lfB np m D SU v B
  | j + 1, k, v, B => L.foldl (fun B c => foB j (k + 1) (upN v k c) B) B
end
theorem fl_id {α : Type} {f : α → Nat → α} {b : α} : ∀ L : List Nat, (∀ c ∈ L, f b c = b) → L.foldl f b = b
  | [], _ => rfl
  | c :: L, h => by
    rw [List.foldl_cons, h c List.mem_cons_self]
    exact fl_id L (fun c hc => h c (List.mem_cons_of_mem _ hc))
section
variable {np m : Nat} {D : Nat → Nat → Prop} {SU : (Nat → Nat) → Nat → Int} {L : List Nat}
theorem foB_bad : ∀ (j k : Nat) (v : Nat → Nat) (B : Option (Nat → Nat)), (∃ x, x < k ∧ x < m ∧ ¬ D x (v x)) → foB np m D SU L j k v B = B
  | 0, k, v, B, ⟨x, _, hm, hx⟩ => by
    unfold foB lfB
    rw [if_neg (dec_f (fun q => hx (q x hm)))]
  | j + 1, k, v, B, ⟨x, hk, hm, hx⟩ => by
    unfold foB
    exact fl_id L (fun c _ => foB_bad j (k + 1) (upN v k c) B ⟨x, by omega, hm, by unfold upN; rw [if_neg (by omega)]; exact hx⟩)
theorem foB_cut : ∀ (j k : Nat) (v u : Nat → Nat), k + j = m → (∀ v', (∀ x, x < k → v' x = v x) → (∀ x, k ≤ x → x < m → v' x ∈ L) → (∀ x, x < m → D x (v' x)) → ¬ bet np (SU v') (SU u)) → foB np m D SU L j k v (some u) = some u
  | 0, k, v, u, hk, h => by
    unfold foB lfB
    by_cases c : ∀ k, k < m → D k (v k)
    · rw [if_pos (dec_t c)]
      show (if (Classical.propDecidable (bet np (SU v) (SU u))).decide then some v else some u) = some u
      rw [if_neg (dec_f (h v (fun _ _ => rfl) (fun x h1 h2 => absurd h2 (by omega)) c))]
    · rw [if_neg (dec_f c)]
  | j + 1, k, v, u, hk, h => by
    unfold foB
    exact fl_id L (fun c hc => foB_cut j (k + 1) (upN v k c) u (by omega) (fun v' h1 h3 h2 => h v' (fun x hx => by rw [h1 x (by omega)]; unfold upN; rw [if_neg (by omega)]) (fun x x1 x2 => by
      by_cases y : x = k
      · rw [h1 x (by omega)]; unfold upN; rw [if_pos y]; exact hc
      · exact h3 x (by omega) x2) h2))
end
/-- a fold over the list is a walk over all numbers that skips the others -/
def fN {α : Type} (f : Nat → α → α) : Nat → α → α
  | 0, b => b
  | n + 1, b => f n (fN f n b)
theorem fl_fN {α : Type} {f : Nat → α → α} {P : Nat → Bool} {b : α} : ∀ n, ((List.range n).filter P).foldl (fun b c => f c b) b = fN (fun c b => if P c then f c b else b) n b
  | 0 => rfl
  | n + 1 => by
    rw [List.range_succ, List.filter_append, List.foldl_append, fl_fN n, fN]
    cases e : P n with
    | true => simp [List.filter, e]
    | false => simp [List.filter, e]
/-- a fold over the list by its places -/
theorem fl_take {α : Type} {f : Nat → α → α} {b : α} (L : List Nat) : ∀ n, n ≤ L.length → (L.take n).foldl (fun b c => f c b) b = fN (fun q b => f (L.getD q 0) b) n b
  | 0, _ => by simp [fN]
  | n + 1, h => by
    rw [List.take_succ, List.foldl_append, fl_take L n (by omega), fN]
    rw [List.getElem?_eq_getElem (by omega)]
    simp [List.getD_eq_getElem?_getD, List.getElem?_eq_getElem (show n < L.length by omega)]
theorem fl_all {α : Type} {f : Nat → α → α} {b : α} (L : List Nat) : L.foldl (fun b c => f c b) b = fN (fun q b => f (L.getD q 0) b) L.length b := by
  have := fl_take (f := f) (b := b) L L.length (Nat.le_refl _)
  rw [List.take_length] at this
  exact this
