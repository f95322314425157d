/-! ===== the class: Sheet.fill, Board ===== -/
theorem k_fill {l : Launch} {E : eE} {d bc bs : Nat} {K : aH → Prop} {g h0 : aH} {o s w n sh : Nat} {x2 who : Int32} (V : LW g) (ks0 : KS g h0) (hsh : isSh sh) (hs : (s : Int) < (hI g 63 14).toInt) (hl : SeAt g s o) (hw : w < 52) (hn : (n : Int) ≤ (hI g 63 8).toInt) (hwho : ∀ p, bt who p = true → (p : Int) < (hI g 63 3).toInt) (hd : 5 ≤ d) (k : ∀ h1, Ch (shA sh) noO h0 h1 → (∀ i : Nat, (i : Int) < (hA g 77 s).toInt → bt x2 i = true → ShO g h1 w n s sh (fun p => bt who p = true) i) → K h1) : CV l E d bc bs mX10_fill [.inr (some (0, 10, sh)), .inr (some (0, 9, o)), .inl x2, .inl (nI w), .inl (nI n), .inl who, .inr (some (14, 12, 2))] h0 K := by
  obtain ⟨d, rfl⟩ : ∃ d', d = d' + 1 := ⟨d - 1, by omega⟩
  have hN := V.1.2.1
  unfold RIn at hN
  have h6 := op6 V.1.2 hs
  obtain ⟨no, hno, eno⟩ : ∃ no : Nat, (no : Int) = (hA g 77 s).toInt ∧ hA g 77 s = nI no := ⟨_, i32_clamp h6.1, i32_nn h6.1⟩
  have ho := hl.o
  have w3 : ∀ (j i : Nat) (h1 : aH), i + j = no → Ch (shA sh) noO h0 h1 → (∀ i', i' < i → bt x2 i' = true → ShO g h1 w n s sh (fun p => bt who p = true) i') → LX10_fill_3 l E (d + 1) bc bs sh o x2 (nI w) (nI n) who 2 (nI i) h1 K := by
    intro j
    induction j with
    | zero =>
      intro i h1 hi c hb
      have hi : i = no := by omega
      subst hi
      have ks1 : KS g h1 := ks0.tr (shA.ks hsh c)
      refine bX10_fill_3 (ks1.lv V).1.1 hsh ⟨fun _ => k h1 c (fun i' h1' h2' => hb i' (by omega) h2'), fun z => absurd ?_ z⟩
      rw [ks1.2.2.2.2.1 o (by omega), hl.1.1.2.2.2.2.2.1, eno]
      exact nI_le (Nat.le_refl i) (by omega)
    | succ j ih =>
      intro i h1 hi c hb
      have ks1 : KS g h1 := ks0.tr (shA.ks hsh c)
      have V1 := ks1.lv V
      have S1 := V1.1.1
      have hl1 := ks1.se V hs hl
      have hst := stO_int (w := w) (i := i) V.1.2 hs (by omega) hw
      have een := enO_int (w := w) (i := i) V.1.2 hs (by omega) hw
      refine bX10_fill_3 S1 hsh ⟨fun z => absurd z ?_, fun _ => k_isIn S1 (by omega) ?_⟩
      · rw [ks1.2.2.2.2.1 o (by omega), hl.1.1.2.2.2.2.2.1, eno]
        exact nI_ge (by omega) (by omega)
      · cases eb : bt x2 i with
        | false =>
          refine ⟨S1, fun _ => ?_, fun y => absurd rfl y⟩
          rw [nI_add]
          exact ih (i + 1) h1 (by omega) c (fun i' h1' h2' => (show i' < i ∨ i' = i by omega).elim (fun z => hb i' z h2') (fun z => by rw [z, eb] at h2'; cases h2'))
        | true =>
          refine ⟨S1, fun y => absurd y (by decide), fun _ => k_startOf S1 hl1 (by rw [ks1.re.2 77 (by decide) (by decide)]; omega) (by rw [ks1.re.2 77 (by decide) (by decide)]; omega) ⟨S1, ?_⟩⟩
          rw [rAt_c ks1.re.p, ks1.2.2.2.2.1 o (by omega), hl.1.1.2.2.1, Int32.lt_iff_toInt_lt, een, ti_17472, nI_clamp (n := i) (by omega)]
          refine ⟨fun z => ⟨fun _ => ⟨vp_in_nI (by omega) (by omega), ?_⟩, fun y => absurd rfl y⟩, fun z => ⟨fun y => absurd y (by decide), fun _ => ⟨vp_in_nI (by omega) (by omega), ?_⟩⟩⟩
          · have c2 : Ch (shA sh) noO h0 (stA (stA h1 (sh + 1) i (-1)) (sh + 2) i (nI 0)) := (c.tr (ch_A h1 i _ (Or.inl rfl))).tr (ch_A _ i _ (Or.inr (Or.inl rfl)))
            refine bX10_fill_79 (c2.sh (ks0.lv V).1.1) hsh ⟨fun y => absurd y (by decide), fun _ => ⟨fun _ => ?_, fun y => absurd rfl y⟩⟩
            rw [nI_add]
            refine ih (i + 1) _ (by omega) c2 (fun i' h1' h2' => ?_)
            by_cases e : i' = i
            · subst e
              have nin : ¬ inO g w s i' := fun y => by unfold inO at y; omega
              unfold ShO ShF
              simp only [hA_st]
              refine ⟨by simp [nin], by simp; exact sm_0 12, fun q hq => ?_, fun q hq => ?_⟩
              · simp [show bt (nI 0) q = false from bt_0 q]
                exact fun _ (y : ablO g w n s q i') => nin y.1
              · simp [show bt (nI 0) q = false from bt_0 q]
            · obtain ⟨u1, u2, u3, u4⟩ := hb i' (by omega) h2'
              unfold ShO ShF
              simp only [hA_st]
              refine ⟨by simpa [e] using u1, by simpa [e] using u2, fun q hq => by simpa [e] using u3 q hq, fun q hq => by simpa [e] using u4 q hq⟩
          · have c2 : Ch (shA sh) noO h0 (stA (stA h1 (sh + 1) i (rAt g s i w)) (sh + 2) i (nI 0)) := (c.tr (ch_A h1 i _ (Or.inl rfl))).tr (ch_A _ i _ (Or.inr (Or.inl rfl)))
            refine w_fill79 V ks0 hsh hs hl hw hn hwho (by omega) (by omega) (by unfold inO; omega) (fun h2 c3 q1 q2 => ih (i + 1) h2 (by omega) c3 (fun i' h1' h2' => (show i' < i ∨ i' = i by omega).elim (fun y => q1 i' y h2') (fun y => by rw [y]; exact q2))) 12 0 _ (by omega) c2 (fun i' h1' h2' => ?_) ?_ ?_ (fun q hq => ?_) (fun q hq => ?_)
            · obtain ⟨u1, u2, u3, u4⟩ := hb i' (by omega) h2'
              have e : ¬ i' = i := by omega
              unfold ShO ShF
              simp only [hA_st]
              refine ⟨by simpa [e] using u1, by simpa [e] using u2, fun q hq => by simpa [e] using u3 q hq, fun q hq => by simpa [e] using u4 q hq⟩
            · simp only [hA_st]; simp
            · simp only [hA_st]; simp; exact sm_0 12
            · simp only [hA_st]; simp [show bt (nI 0) q = false from bt_0 q]
            · simp only [hA_st]; simp [show bt (nI 0) q = false from bt_0 q]
  exact bX10_fill_0 (ks0.lv V).1.1 hsh (w3 no 0 h0 (by omega) (Ch.rf h0) (fun i' h1' => absurd h1' (Nat.not_lt_zero i')))
/-! the board -/
theorem c_fillI {l : Launch} {E : eE} {d bc bs : Nat} {h : aH} {K : aH → Prop} {a n : Nat} {v : Int32} (S : SH h) (hn : n < 1000000) (k : K (stAA h a (fil (hA h a) 0 n v))) : CV l E d bc bs mJ7_fill_53178 [.inr (some (1, n, a)), .inl v] h K := by
  have w : ∀ (j i : Nat), i + j = n → LJ7_fill_53178_5 l E d bc bs n a v (nI i) (nI n) (stAA h a (fil (hA h a) 0 i v)) K := by
    intro j
    induction j with
    | zero =>
      intro i hi
      have hi : i = n := by omega
      subst hi
      exact bJ7_fill_53178_5 S ⟨fun _ => k, fun c => absurd (nI_le (Nat.le_refl i) (by omega)) c⟩
    | succ j ih =>
      intro i hi
      refine bJ7_fill_53178_5 S ⟨fun c => absurd c (nI_ge (by omega) (by omega)), fun _ => ⟨vp_in_nI (by omega) (by omega), ?_⟩⟩
      rw [nI_clamp (by omega), stA_stAA, fil_s _ _ (by omega), nI_add]
      exact ih (i + 1) (by omega)
  have w := w n 0 (by omega)
  rw [fil_0, stAA_id] at w
  exact bJ7_fill_53178_0 S w
/-- one who is on the board somewhere from a up to c -/
abbrev onB (h : aH) (b z p : Nat) (a c : Int) : Prop := ∃ k, k < z ∧ (hA h (b + 1) k).toInt < c ∧ a < (hA h (b + 2) k).toInt ∧ bt (hA h (b + 3) k) p = true
/-- the board: of those in Wb it says U -/
def BdO (h : aH) (b : Nat) (Wb : Nat → Prop) (U : Nat → Int → Int → Prop) (m : Nat) : Prop := ∃ z : Nat, z ≤ m ∧ hI h b 4 = nI z ∧ ∀ p, p < 12 → Wb p → ∀ a c : Int, onB h b z p a c ↔ U p a c
/-- the end of what is picked -/
def edO (g : aH) (w c : Nat) (i j : Int32) : Int := if i = -1 then 0 else if j = -1 then stO g w c i.toNatClampNeg + lnO g c else max (stO g w c i.toNatClampNeg + lnO g c) (stO g w c j.toNatClampNeg + lnO g c)
def EdO (g h : aH) (w b : Nat) (pi pj : Nat → Int32) (s : Nat) : Prop := ∀ c, c < s → (hA h (b + 4) c).toInt = edO g w c (pi c) (pj c)
def EdZ (h : aH) (b s : Nat) : Prop := ∀ c, s ≤ c → c < 4 → (hA h (b + 4) c).toInt = 0
abbrev bdA (b : Nat) : Nat → Prop := fun a => a = b + 1 ∨ a = b + 2 ∨ a = b + 3 ∨ a = b + 4
abbrev isQ (b : Nat) : Nat → Prop := fun q => q = b
theorem isBd.rng {b : Nat} (q : isBd b) : 21 ≤ b ∧ b ≤ 43 := by rcases q with rfl | rfl <;> decide
theorem bdA.ks {b : Nat} {h h' : aH} (q : isBd b) (c : Ch (bdA b) (isQ b) h h') : KS h h' := c.ks (fun a ha => by have := q.rng; rcases ha with rfl | rfl | rfl | rfl <;> omega) (fun a z => by have := q.rng; have : a = b := z; omega)
theorem k_clear {l : Launch} {E : eE} {d bc bs : Nat} {h : aH} {K : aH → Prop} {b : Nat} {g : aH} {w : Nat} {pi pj : Nat → Int32} (S : SH h) (hb : isBd b) (hd : 1 ≤ d) (k : ∀ h1, Ch (bdA b) (isQ b) h h1 → (∀ Wb T, BdO h1 b Wb (enO g w pi pj T 0) 0) → EdO g h1 w b pi pj 0 → EdZ h1 b 0 → K h1) : CV l E d bc bs mX1_clear [.inr (some (0, 1, b))] h K := by
  obtain ⟨d, rfl⟩ : ∃ d', d = d' + 1 := ⟨d - 1, by omega⟩
  have c1 : Ch (bdA b) (isQ b) h (stI h b 4 (nI 0)) := ch_I h 4 _ rfl
  have c2 : Ch (bdA b) (isQ b) (stI h b 4 (nI 0)) (stAA (stI h b 4 (nI 0)) (b + 4) (fil (hA (stI h b 4 (nI 0)) (b + 4)) 0 4 (nI 0))) := ch_AA _ _ (Or.inr (Or.inr (Or.inr rfl)))
  refine bX1_clear_0 S hb (c_fillI (c1.sh S) (by decide) ⟨(c1.tr c2).sh S, k _ (c1.tr c2) (fun Wb T => ⟨0, Nat.le_refl 0, ?_, fun p _ _ a c => ⟨fun ⟨k, hk, _⟩ => absurd hk (Nat.not_lt_zero k), fun ⟨k, hk, _⟩ => absurd hk (Nat.not_lt_zero k)⟩⟩) (fun c hc => absurd hc (Nat.not_lt_zero c)) (fun c _ hc => ?_)⟩)
  · show hI (stI h b 4 (nI 0)) b 4 = nI 0
    simp [hI_st]
  · rw [hA_AA]
    unfold fil
    rw [if_pos ⟨Nat.zero_le c, hc⟩]
    decide
theorem k_engaged {l : Launch} {E : eE} {d bc bs : Nat} {h : aH} {K : Int32 → aH → Prop} {b z : Nat} {x1 x2 : Int32} (S : SH h) (hb : isBd b) (hz : z ≤ 8) (ez : hI h b 4 = nI z) (k : ∀ v, (∀ p, bt v p = true ↔ onB h b z p x1.toInt x2.toInt) → K v h) : CI l E d bc bs mX1_engaged [.inr (some (0, 1, b)), .inl x1, .inl x2] h K := by
  have w : ∀ (j i : Nat) (v : Int32), i + j = z → (∀ p, bt v p = true ↔ onB h b i p x1.toInt x2.toInt) → LX1_engaged_5 l E d bc bs b x1 x2 v (nI i) h K := by
    intro j
    induction j with
    | zero =>
      intro i v hi hv
      have hi : i = z := by omega
      subst hi
      exact bX1_engaged_5 S hb ⟨fun _ => k v hv, fun c => absurd (by rw [ez]; exact nI_le (Nat.le_refl i) (by omega)) c⟩
    | succ j ih =>
      intro i v hi hv
      refine bX1_engaged_5 S hb ⟨fun c => absurd c (by rw [ez]; exact nI_ge (by omega) (by omega)), fun _ => ⟨vp_in_nI (by omega) (by omega), ?_⟩⟩
      rw [nI_clamp (n := i) (by omega), nI_add, Int32.le_iff_toInt_le, Int32.le_iff_toInt_le]
      have no : ¬ ((hA h (b + 1) i).toInt < x2.toInt ∧ x1.toInt < (hA h (b + 2) i).toInt) → ∀ p, bt v p = true ↔ onB h b (i + 1) p x1.toInt x2.toInt := fun z p => by
        rw [hv p]
        constructor
        · rintro ⟨k, hk, q⟩; exact ⟨k, by omega, q⟩
        · rintro ⟨k, hk, q⟩
          by_cases e : k = i
          · subst e; exact absurd ⟨q.1, q.2.1⟩ z
          · exact ⟨k, by omega, q⟩
      refine ⟨fun c => ih (i + 1) v (by omega) (no (fun q => by omega)), fun c => ⟨fun c1 => ih (i + 1) v (by omega) (no (fun q => by omega)), fun c1 => ih (i + 1) _ (by omega) (fun p => ?_)⟩⟩
      rw [bt_or, Bool.or_eq_true, hv p]
      constructor
      · rintro (⟨k, hk, q⟩ | q)
        · exact ⟨k, by omega, q⟩
        · exact ⟨i, by omega, by omega, by omega, q⟩
      · rintro ⟨k, hk, q⟩
        by_cases e : k = i
        · subst e; exact Or.inr q.2.2
        · exact Or.inl ⟨k, by omega, q⟩
  exact bX1_engaged_0 S hb (w z 0 (nI 0) (by omega) (fun p => ⟨fun q => (by rw [show bt (nI 0) p = false from bt_0 p] at q; cases q), fun ⟨k, hk, _⟩ => absurd hk (Nat.not_lt_zero k)⟩))
/-- what was on the board stays -/
def BdP (h h1 : aH) (b : Nat) : Prop := ∀ z y : Nat, z ≤ 8 → hI h b 4 = nI z → y < z → hA h1 (b + 1) y = hA h (b + 1) y ∧ hA h1 (b + 2) y = hA h (b + 2) y ∧ hA h1 (b + 3) y = hA h (b + 3) y
/-- Board.add -/
theorem k_add {l : Launch} {E : eE} {d bc bs : Nat} {h : aH} {K : aH → Prop} {b o r : Nat} {x2 x3 : Int32} {Wb : Nat → Prop} {U : Nat → Int → Int → Prop} {m : Nat} (S : SH h) (hb : isBd b) (hd : 1 ≤ d) (ho : o ≠ b) (er : hI h o 0 = nI r) (hr : r < 4) (hx : 0 ≤ x2.toInt ∧ x2.toInt ≤ 100000) (hln : 0 ≤ (hI h o 1).toInt ∧ (hI h o 1).toInt ≤ 100) (bd : BdO h b Wb U m) (hm : m < 8)
    (k : ∀ h1, Ch (bdA b) (isQ b) h h1 → BdO h1 b Wb (fun p a c => U p a c ∨ (x2.toInt < c ∧ a < x2.toInt + (hI h o 1).toInt ∧ bt x3 p = true)) (m + 1) → (hA h1 (b + 4) r).toInt = max (hA h (b + 4) r).toInt (x2.toInt + (hI h o 1).toInt) → (∀ c, c ≠ r → hA h1 (b + 4) c = hA h (b + 4) c) → (BdP h h1 b ∧ ∀ z : Nat, z < 8 → hI h b 4 = nI z → hI h1 b 4 = nI (z + 1)) → K h1) : CV l E d bc bs mX1_add [.inr (some (0, 1, b)), .inr (some (0, 9, o)), .inl x2, .inl x3] h K := by
  obtain ⟨d, rfl⟩ : ∃ d', d = d' + 1 := ⟨d - 1, by omega⟩
  obtain ⟨z, hz, ez, hu⟩ := bd
  have es : (x2 + hI h o 1).toInt = x2.toInt + (hI h o 1).toInt := i_add (by omega) (by omega)
  refine bX1_add_0 S hb ?_
  rw [er, nI_clamp (n := r) (by omega)]
  refine ⟨vp_in_nI (by omega) (by omega), c_max S ⟨S, ?_⟩⟩
  rw [ez]
  refine ⟨fun q => absurd q (nI_ge (by omega) (by omega)), fun _ => ⟨vp_in_nI (by omega) (by omega), ?_⟩⟩
  rw [nI_clamp (n := z) (by omega), nI_add]
  generalize hv : (if hA h (b + 4) r < x2 + hI h o 1 then x2 + hI h o 1 else hA h (b + 4) r) = v
  have ev : v.toInt = max (hA h (b + 4) r).toInt (x2.toInt + (hI h o 1).toInt) := by
    rw [← hv]
    split
    · rename_i q
      rw [Int32.lt_iff_toInt_lt, es] at q
      rw [es]; omega
    · rename_i q
      rw [Int32.lt_iff_toInt_lt, es] at q
      omega
  refine k _ (((((ch_A h r v (Or.inr (Or.inr (Or.inr rfl)))).tr (ch_A _ z _ (Or.inl rfl))).tr (ch_A _ z _ (Or.inr (Or.inl rfl)))).tr (ch_A _ z _ (Or.inr (Or.inr (Or.inl rfl))))).tr (ch_I _ 4 _ rfl)) ⟨z + 1, by omega, by simp [hI_st], fun p hp hW a c => ?_⟩ ?_ (fun c hc => ?_) ⟨fun z' y hz' e hy => ?_, fun z' hz' e => ?_⟩
  · have hu := hu p hp hW a c
    show _ ↔ (U p a c ∨ _)
    rw [← hu]
    unfold onB
    rw [hA_sI]
    constructor
    · rintro ⟨j, hj, q1, q2, q3⟩
      by_cases e : j = z
      · subst e
        simp [hA_st, -Int32.toInt_add] at q1 q2 q3
        rw [es] at q2
        exact Or.inr ⟨q1, q2, q3⟩
      · simp [hA_st, e] at q1 q2 q3
        exact Or.inl ⟨j, by omega, q1, q2, q3⟩
    · rintro (⟨j, hj, q1, q2, q3⟩ | ⟨q1, q2, q3⟩)
      · have e : ¬ j = z := by omega
        refine ⟨j, by omega, ?_, ?_, ?_⟩
        · simpa [hA_st, e] using q1
        · simpa [hA_st, e] using q2
        · simpa [hA_st, e] using q3
      · refine ⟨z, by omega, ?_, ?_, ?_⟩
        · simpa [hA_st] using q1
        · simp [hA_st, -Int32.toInt_add]; rw [es]; exact q2
        · simpa [hA_st] using q3
  · rw [hA_sI]
    simp [hA_st]
    exact ev
  · rw [hA_sI]
    simp [hA_st, hc]
  · have : z' = z := nI_inj (by omega) (by omega) (e.symm.trans ez)
    subst this
    have ne : ¬ y = z' := by omega
    rw [hA_sI]
    exact ⟨by simp [hA_st, ne], by simp [hA_st, ne], by simp [hA_st, ne]⟩
  · have : z' = z := nI_inj (by omega) (by omega) (e.symm.trans ez)
    subst this
    simp [hI_st]
