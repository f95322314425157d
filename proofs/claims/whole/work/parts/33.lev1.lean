/-! ===== the reference: clocks and persons ===== -/
/-- what rOff tells is an offset -/
theorem rOff_rng {h : aH} (S : SR h) {land t : Int32} {n : Nat} (hl : inI land (hI h 63 1)) (hn : (n : Int) ≤ (hI h 63 8).toInt) : -24 ≤ (rOff h land t n).toInt ∧ (rOff h land t n).toInt ≤ 28 := by
  have key : ∀ m : Nat, (m : Int) ≤ (hI h 63 8).toInt → rBest h land t m = -1 ∨ ∃ j : Nat, j < m ∧ rBest h land t m = nI j ∧ hA h 69 j = nI 0 := by
    intro m
    induction m with
    | zero => intro _; exact Or.inl rfl
    | succ m ih =>
      intro hm
      unfold rBest
      split
      · next c => exact Or.inr ⟨m, Nat.lt_succ_self m, rfl, c.1⟩
      · rcases ih (by omega) with q | ⟨j, hj, q⟩
        · exact Or.inl q
        · exact Or.inr ⟨j, by omega, q⟩
  have hN := S.2.1.2.2.1
  unfold rOff
  split
  · exact S.2.2.1 land.toNatClampNeg (by have := i32_clamp hl.1; omega)
  · next c =>
    rcases key n hn with q | ⟨j, hj, q, q0⟩
    · exact absurd q c
    · rw [q, nI_clamp (by omega)]
      rcases (S.2.2.2.2.2.1 j (by omega)).1 with z | z | z | z
      · exact z.2.2.2
      · exact absurd (q0.symm.trans z.1) (by decide)
      · exact absurd (q0.symm.trans z.1) (by decide)
      · exact absurd (q0.symm.trans z.1) (by decide)
theorem rDown48 (a : Int32) : (rDown a (nI 48)).toInt = a.toInt / 48 := by
  have h1 : (a / nI 48).toInt = a.toInt.tdiv 48 := by rw [Int32.toInt_div_of_ne_right _ _ (by decide), ti_48]
  have h2 : (a - a / nI 48 * nI 48).toInt = a.toInt.tmod 48 := by rw [rem_toInt, ti_48]
  have h3 := down48 a.toInt
  have hr := fb_rng' a
  unfold rDown
  by_cases c : 0 ≤ a - a / nI 48 * nI 48
  · rw [if_pos c]
    rw [Int32.le_iff_toInt_le, h2, ti_z] at c
    rw [if_pos c] at h3; rw [h1, h3]
  · rw [if_neg c]
    rw [Int32.le_iff_toInt_le, h2, ti_z] at c
    rw [if_neg c] at h3
    rw [i_sub (by rw [h1, ti_1]; omega) (by rw [h1, ti_1]; omega), h1, ti_1, h3]
theorem rDown7 (a : Int32) : (rDown a (nI 7)).toInt = a.toInt / 7 := by
  have h1 : (a / nI 7).toInt = a.toInt.tdiv 7 := by rw [Int32.toInt_div_of_ne_right _ _ (by decide), ti_7]
  have h2 : (a - a / nI 7 * nI 7).toInt = a.toInt.tmod 7 := by rw [rem_toInt, ti_7]
  have h3 := down7 a.toInt
  have hr := fb_rng' a
  unfold rDown
  by_cases c : 0 ≤ a - a / nI 7 * nI 7
  · rw [if_pos c]
    rw [Int32.le_iff_toInt_le, h2, ti_z] at c
    rw [if_pos c] at h3; rw [h1, h3]
  · rw [if_neg c]
    rw [Int32.le_iff_toInt_le, h2, ti_z] at c
    rw [if_neg c] at h3
    rw [i_sub (by rw [h1, ti_1]; omega) (by rw [h1, ti_1]; omega), h1, ti_1, h3]
/-- the rest by 48, the rest by 7 -/
theorem rMod48 {a : Int32} (h1 : -1000000 ≤ a.toInt) (h2 : a.toInt ≤ 1000000) : (a - nI 48 * rDown a (nI 48)).toInt = a.toInt % 48 := by
  have e := rDown48 a
  have e2 : (nI 48 * rDown a (nI 48)).toInt = 48 * (a.toInt / 48) := by rw [i_mul (by rw [ti_48, e]; omega) (by rw [ti_48, e]; omega), ti_48, e]
  rw [i_sub (by rw [e2]; omega) (by rw [e2]; omega), e2]
  omega
theorem rMod7 {a : Int32} (h1 : -1000000 ≤ a.toInt) (h2 : a.toInt ≤ 1000000) : (a - nI 7 * rDown a (nI 7)).toInt = a.toInt % 7 := by
  have e := rDown7 a
  have e2 : (nI 7 * rDown a (nI 7)).toInt = 7 * (a.toInt / 7) := by rw [i_mul (by rw [ti_7, e]; omega) (by rw [ti_7, e]; omega), ti_7, e]
  rw [i_sub (by rw [e2]; omega) (by rw [e2]; omega), e2]
  omega
/-- the local time of a person's land at slot t -/
def rLoc (h : aH) (p t : Int32) (n : Nat) : Int32 := t + rOff h (hA h 65 p.toNatClampNeg) t n
/-- there is a feast on that day; a busy span has that slot -/
def rFeast (h : aH) (land day : Int32) (n : Nat) : Prop := ∃ k, k < n ∧ hA h 69 k = nI 1 ∧ hA h 70 k = land ∧ hA h 71 k = day
def rBusy (h : aH) (p t : Int32) (n : Nat) : Prop := ∃ k, k < n ∧ hA h 69 k = nI 2 ∧ hA h 70 k = p ∧ ¬ t < hA h 71 k ∧ ¬ hA h 72 k ≤ t
noncomputable def rReason (h : aH) (p t : Int32) (n : Nat) : Int32 :=
  if rCost h p (rLoc h p t n - nI 48 * rDown (rLoc h p t n) (nI 48)) = -1 then nI 1
  else if ((hA h 66 p.toNatClampNeg >>> ((rDown (rLoc h p t n) (nI 48) - nI 7 * rDown (rDown (rLoc h p t n) (nI 48)) (nI 7)) &&& 31)) &&& nI 1) = nI 1 then nI 2
  else if Classical.propDecidable (rFeast h (hA h 65 p.toNatClampNeg) (rDown (rLoc h p t n) (nI 48)) n) |>.decide then nI 3
  else if Classical.propDecidable (rBusy h p t n) |>.decide then nI 4 else nI 0
theorem dec_t {p : Prop} (h : p) : (Classical.propDecidable p).decide = true := by
  cases hd : Classical.propDecidable p with
  | isTrue _ => rfl
  | isFalse q => exact absurd h q
theorem dec_f {p : Prop} (h : ¬ p) : ¬ (Classical.propDecidable p).decide = true := by
  cases hd : Classical.propDecidable p with
  | isTrue q => exact absurd q h
  | isFalse q => intro e; cases e
theorem w_reasonB {l : Launch} {E : eE} {d bc bs : Nat} {h : aH} {K : Int32 → aH → Prop} {p t x4 x5 x6 : Int32} {n : Nat} (hn : n ≤ 400) (S : SR h) (k1 : rBusy h p t n → K (nI 4) h) (k0 : ¬ rBusy h p t n → K (nI 0) h) : ∀ (j i : Nat), i + j = n → (∀ a, a < i → ¬ (hA h 69 a = nI 2 ∧ hA h 70 a = p ∧ ¬ t < hA h 71 a ∧ ¬ hA h 72 a ≤ t)) → LX12_reason_133 l E (d + 1) bc bs p t (nI n) x4 x5 x6 (nI i) h K := by
  intro j
  induction j with
  | zero =>
    intro i hi hno
    have hi : i = n := by omega
    subst hi
    refine bX12_reason_133 S ⟨fun _ => k0 (fun ⟨a, ha, q⟩ => hno a ha q), fun c => absurd (nI_le (Nat.le_refl i) (by omega)) c⟩
  | succ j ih =>
    intro i hi hno
    have hc : (nI i).toNatClampNeg = i := nI_clamp (by omega)
    refine bX12_reason_133 S ⟨fun c => absurd c (nI_ge (by omega) (by omega)), fun _ => ⟨vp_in_nI (by omega) (by omega), ?_⟩⟩
    rw [hc, nI_add]
    have st : ¬ (hA h 69 i = nI 2 ∧ hA h 70 i = p ∧ ¬ t < hA h 71 i ∧ ¬ hA h 72 i ≤ t) → LX12_reason_133 l E (d + 1) bc bs p t (nI n) x4 x5 x6 (nI (i + 1)) h K := fun q => ih (i + 1) (by omega) (lt_s hno q)
    exact ⟨fun c => st (fun q => c q.1), fun c1 => ⟨fun c => st (fun q => c q.2.1), fun c2 => ⟨fun c => st (fun q => q.2.2.1 c), fun c3 => ⟨fun c => st (fun q => q.2.2.2 c), fun c4 => k1 ⟨i, by omega, c1, c2, c3, c4⟩⟩⟩⟩⟩
theorem w_reasonF {l : Launch} {E : eE} {d bc bs : Nat} {h : aH} {K : Int32 → aH → Prop} {p t x4 x5 x6 : Int32} {n : Nat} (hn : n ≤ 400) (S : SR h) (k1 : rFeast h x4 x6 n → K (nI 3) h) (k0 : ¬ rFeast h x4 x6 n → LX12_reason_133 l E (d + 1) bc bs p t (nI n) x4 x5 x6 (nI 0) h K) : ∀ (j i : Nat), i + j = n → (∀ a, a < i → ¬ (hA h 69 a = nI 1 ∧ hA h 70 a = x4 ∧ hA h 71 a = x6)) → LX12_reason_81 l E (d + 1) bc bs p t (nI n) x4 x5 x6 (nI i) h K := by
  intro j
  induction j with
  | zero =>
    intro i hi hno
    have hi : i = n := by omega
    subst hi
    refine bX12_reason_81 S ⟨fun _ => k0 (fun ⟨a, ha, q⟩ => hno a ha q), fun c => absurd (nI_le (Nat.le_refl i) (by omega)) c⟩
  | succ j ih =>
    intro i hi hno
    have hc : (nI i).toNatClampNeg = i := nI_clamp (by omega)
    refine bX12_reason_81 S ⟨fun c => absurd c (nI_ge (by omega) (by omega)), fun _ => ⟨vp_in_nI (by omega) (by omega), ?_⟩⟩
    rw [hc, nI_add]
    have st : ¬ (hA h 69 i = nI 1 ∧ hA h 70 i = x4 ∧ hA h 71 i = x6) → LX12_reason_81 l E (d + 1) bc bs p t (nI n) x4 x5 x6 (nI (i + 1)) h K := fun q => ih (i + 1) (by omega) (lt_s hno q)
    exact ⟨fun c => st (fun q => c q.1), fun c1 => ⟨fun c => st (fun q => c q.2.1), fun c2 => ⟨fun c => st (fun q => c q.2.2), fun c3 => k1 ⟨i, by omega, c1, c2, c3⟩⟩⟩⟩
theorem c_reason {l : Launch} {E : eE} {d bc bs : Nat} {h : aH} {K : Int32 → aH → Prop} {p t x : Int32} (S : SR h) (hd : 1 ≤ d) (hp : inI p (hI h 63 3)) (ht : 0 ≤ t.toInt ∧ t.toInt < 17472) (hx : 0 ≤ x.toInt ∧ x.toInt ≤ (hI h 63 8).toInt) (k : K (rReason h p t x.toNatClampNeg) h) : CI l E d bc bs mX12_reason [.inr (some (0, 12, 63)), .inl p, .inl t, .inl x] h K := by
  obtain ⟨d, rfl⟩ : ∃ d', d = d' + 1 := ⟨d - 1, by omega⟩
  have hN := S.2.1
  unfold RIn at hN
  have ep := i32_clamp hp.1
  have ex := i32_clamp hx.1
  have hpp := S.2.2.2.1 p.toNatClampNeg (by omega)
  have hof := rOff_rng S (t := t) (n := x.toNatClampNeg) hpp.1 (by omega)
  have hl : (rLoc h p t x.toNatClampNeg).toInt = t.toInt + (rOff h (hA h 65 p.toNatClampNeg) t x.toNatClampNeg).toInt := i_add (by omega) (by omega)
  have hm := rMod48 (a := rLoc h p t x.toNatClampNeg) (by omega) (by omega)
  unfold rReason at k
  unfold rLoc at k
  have ex2 := i32_nn hx.1
  refine bX12_reason_0 S ⟨vp_of hp.1 (by omega), ⟨hx.1, by omega⟩, vp_of hpp.1.1 (by have := hpp.1.2; omega), by decide, hp, ⟨by show 0 ≤ (rLoc h p t x.toNatClampNeg - nI 48 * rDown (rLoc h p t x.toNatClampNeg) (nI 48)).toInt; omega, by show (rLoc h p t x.toNatClampNeg - nI 48 * rDown (rLoc h p t x.toNatClampNeg) (nI 48)).toInt < 48; omega⟩, fun c1 => ?_, fun c1 => ?_⟩
  · rw [if_neg c1] at k
    refine ⟨by decide, fun c2 => ?_, fun c2 => ?_⟩
    · rw [if_neg c2] at k
      have hn400 : x.toNatClampNeg ≤ 400 := by omega
      rw [ex2]
      refine w_reasonF hn400 S (fun q => ?_) (fun q => ?_) x.toNatClampNeg 0 (by omega) lt_0
      · rw [← ex2] at q
        rw [if_pos (dec_t q)] at k; exact k
      · rw [← ex2] at q
        rw [if_neg (dec_f q)] at k
        refine w_reasonB hn400 S (fun q => ?_) (fun q => ?_) x.toNatClampNeg 0 (by omega) lt_0
        · rw [if_pos (dec_t q)] at k; exact k
        · rw [if_neg (dec_f q)] at k; exact k
    · rw [if_pos c2] at k; exact k
  · rw [if_pos c1] at k; exact k

/-! the cost of a stretch -/
def rCosts (h : aH) (p t : Int32) (n : Nat) : Nat → Int32
  | 0 => nI 0
  | j + 1 => if rCost h p (rLoc h p (t + nI j) n - nI 48 * rDown (rLoc h p (t + nI j) n) (nI 48)) ≤ 0 then rCosts h p t n j else rCosts h p t n j + rCost h p (rLoc h p (t + nI j) n - nI 48 * rDown (rLoc h p (t + nI j) n) (nI 48))
theorem w_costs {l : Launch} {E : eE} {d bc bs : Nat} {h : aH} {K : Int32 → aH → Prop} {p t x : Int32} {m : Nat} (S : SR h) (hm : m ≤ 6) (hp : inI p (hI h 63 3)) (ht : 0 ≤ t.toInt ∧ t.toInt + m ≤ 17472) (hx : 0 ≤ x.toInt ∧ x.toInt ≤ (hI h 63 8).toInt) (k : K (rCosts h p t x.toNatClampNeg m) h) : ∀ (j i : Nat), i + j = m → LX12_costs_6 l E (d + 1) bc bs p t (nI m) x (rCosts h p t x.toNatClampNeg i) (nI i) h K := by
  have hN := S.2.1
  unfold RIn at hN
  have ep := i32_clamp hp.1
  have ex := i32_clamp hx.1
  have hpp := S.2.2.2.1 p.toNatClampNeg (by omega)
  intro j
  induction j with
  | zero =>
    intro i hi
    have hi : i = m := by omega
    subst hi
    exact bX12_costs_6 S ⟨fun _ => k, fun c => absurd (nI_le (Nat.le_refl i) (by omega)) c⟩
  | succ j ih =>
    intro i hi
    have ih := ih (i + 1) (by omega)
    have ei : (nI i).toInt = i := nI_toInt (by omega)
    have et : (t + nI i).toInt = t.toInt + i := by rw [i_add (by omega) (by omega), ei]
    have hof := rOff_rng S (t := t + nI i) (n := x.toNatClampNeg) hpp.1 (by omega)
    have hl : (rLoc h p (t + nI i) x.toNatClampNeg).toInt = (t + nI i).toInt + (rOff h (hA h 65 p.toNatClampNeg) (t + nI i) x.toNatClampNeg).toInt := i_add (by omega) (by omega)
    have hmd := rMod48 (a := rLoc h p (t + nI i) x.toNatClampNeg) (by omega) (by omega)
    refine bX12_costs_6 S ⟨fun c => absurd c (nI_ge (by omega) (by omega)), fun _ => ⟨vp_of hp.1 (by omega), ⟨hx.1, by omega⟩, vp_of hpp.1.1 (by have := hpp.1.2; omega), by decide, hp, ⟨by show 0 ≤ (rLoc h p (t + nI i) x.toNatClampNeg - nI 48 * rDown (rLoc h p (t + nI i) x.toNatClampNeg) (nI 48)).toInt; omega, by show (rLoc h p (t + nI i) x.toNatClampNeg - nI 48 * rDown (rLoc h p (t + nI i) x.toNatClampNeg) (nI 48)).toInt < 48; omega⟩, ?_⟩⟩
    rw [nI_add]
    unfold rCosts at ih
    unfold rLoc at ih
    refine ⟨fun c => ?_, fun c => ?_⟩
    · rw [if_pos c] at ih; exact ih
    · rw [if_neg c] at ih; exact ih
theorem c_costs {l : Launch} {E : eE} {d bc bs : Nat} {h : aH} {K : Int32 → aH → Prop} {p t x4 x : Int32} (S : SR h) (hd : 1 ≤ d) (hp : inI p (hI h 63 3)) (ht : 0 ≤ t.toInt ∧ 1 ≤ x4.toInt ∧ x4.toInt ≤ 6 ∧ t.toInt + x4.toInt ≤ 17472) (hx : 0 ≤ x.toInt ∧ x.toInt ≤ (hI h 63 8).toInt) (k : K (rCosts h p t x.toNatClampNeg x4.toNatClampNeg) h) : CI l E d bc bs mX12_costs [.inr (some (0, 12, 63)), .inl p, .inl t, .inl x4, .inl x] h K := by
  obtain ⟨d, rfl⟩ : ∃ d', d = d' + 1 := ⟨d - 1, by omega⟩
  have e := i32_nn (x := x4) (by omega)
  have e2 := i32_clamp (x := x4) (by omega)
  refine bX12_costs_0 S ?_
  rw [e]
  exact w_costs S (by omega) hp (by omega) hx k x4.toNatClampNeg 0 (by omega)
abbrev rIsSpan (h : aH) (p t x4 x : Int32) : Prop := inI p (hI h 63 3) ∧ (0 ≤ t.toInt ∧ 1 ≤ x4.toInt ∧ x4.toInt ≤ 6 ∧ t.toInt + x4.toInt ≤ 17472) ∧ 0 ≤ x.toInt ∧ x.toInt ≤ (hI h 63 8).toInt
theorem c_isSpan {l : Launch} {E : eE} {d bc bs : Nat} {h : aH} {K : Int32 → aH → Prop} {p t x4 x : Int32} (S : SR h) (hd : 1 ≤ d) (k : K (bI (rIsSpan h p t x4 x)) h) : CI l E d bc bs mX12_isSpan [.inr (some (0, 12, 63)), .inl p, .inl t, .inl x4, .inl x] h K := by
  obtain ⟨d, rfl⟩ : ∃ d', d = d' + 1 := ⟨d - 1, by omega⟩
  have e : ¬ x4 < nI 1 → ¬ nI 6 < x4 → (nI 17472 - x4).toInt = 17472 - x4.toInt := by
    intro c1 c2
    simp only [Int32.lt_iff_toInt_lt, Int32.le_iff_toInt_le, ti_z, ti_m1, ti_m24, ti_0, ti_1, ti_2, ti_3, ti_4, ti_5, ti_6, ti_7, ti_8, ti_11, ti_12, ti_15, ti_24, ti_28, ti_31, ti_47, ti_48, ti_52, ti_90, ti_100, ti_127, ti_336, ti_363, ti_364, ti_400, ti_416, ti_576, ti_17471, ti_17472] at c1 c2
    rw [i_sub (by rw [ti_17472]; omega) (by rw [ti_17472]; omega), ti_17472]
  refine bX12_isSpan_0 S ⟨fun c => kF k (fun q => c q.1), fun c => ⟨fun c1 => kF k ?_, fun c1 => ⟨fun c2 => kF k ?_, fun c2 => ⟨fun c3 => kF k ?_, fun c3 => ⟨fun c4 => kF k ?_, fun c4 => ⟨fun c5 => kF k (fun q => c5 q.2.2), fun c5 => kT k ?_⟩⟩⟩⟩⟩⟩
  · simp only [Int32.lt_iff_toInt_lt, Int32.le_iff_toInt_le, ti_z, ti_m1, ti_m24, ti_0, ti_1, ti_2, ti_3, ti_4, ti_5, ti_6, ti_7, ti_8, ti_11, ti_12, ti_15, ti_24, ti_28, ti_31, ti_47, ti_48, ti_52, ti_90, ti_100, ti_127, ti_336, ti_363, ti_364, ti_400, ti_416, ti_576, ti_17471, ti_17472] at c1; intro q; omega
  · simp only [Int32.lt_iff_toInt_lt, Int32.le_iff_toInt_le, ti_z, ti_m1, ti_m24, ti_0, ti_1, ti_2, ti_3, ti_4, ti_5, ti_6, ti_7, ti_8, ti_11, ti_12, ti_15, ti_24, ti_28, ti_31, ti_47, ti_48, ti_52, ti_90, ti_100, ti_127, ti_336, ti_363, ti_364, ti_400, ti_416, ti_576, ti_17471, ti_17472] at c2; intro q; omega
  · simp only [Int32.lt_iff_toInt_lt, Int32.le_iff_toInt_le, ti_z, ti_m1, ti_m24, ti_0, ti_1, ti_2, ti_3, ti_4, ti_5, ti_6, ti_7, ti_8, ti_11, ti_12, ti_15, ti_24, ti_28, ti_31, ti_47, ti_48, ti_52, ti_90, ti_100, ti_127, ti_336, ti_363, ti_364, ti_400, ti_416, ti_576, ti_17471, ti_17472] at c3; intro q; omega
  · have := e c1 c2
    simp only [Int32.lt_iff_toInt_lt, Int32.le_iff_toInt_le, ti_z, ti_m1, ti_m24, ti_0, ti_1, ti_2, ti_3, ti_4, ti_5, ti_6, ti_7, ti_8, ti_11, ti_12, ti_15, ti_24, ti_28, ti_31, ti_47, ti_48, ti_52, ti_90, ti_100, ti_127, ti_336, ti_363, ti_364, ti_400, ti_416, ti_576, ti_17471, ti_17472, this] at c4; intro q; omega
  · have := e c1 c2
    simp only [Int32.lt_iff_toInt_lt, Int32.le_iff_toInt_le, ti_z, ti_m1, ti_m24, ti_0, ti_1, ti_2, ti_3, ti_4, ti_5, ti_6, ti_7, ti_8, ti_11, ti_12, ti_15, ti_24, ti_28, ti_31, ti_47, ti_48, ti_52, ti_90, ti_100, ti_127, ti_336, ti_363, ti_364, ti_400, ti_416, ti_576, ti_17471, ti_17472, this] at c1 c2 c3 c4
    exact ⟨c, by omega, c5⟩
/-! span -/
def rSpan (h : aH) (p t : Int32) : Nat → Int32
  | 0 => -1
  | k + 1 => if hA h 69 k = nI 2 ∧ hA h 70 k = p ∧ ¬ t < hA h 71 k ∧ ¬ hA h 72 k ≤ t then (if hA h 73 k = 0 then nI k else -2) else rSpan h p t k
theorem w_span {l : Launch} {E : eE} {d bc bs : Nat} {h : aH} {K : Int32 → aH → Prop} {p t x : Int32} (S : SR h) : ∀ (n : Nat), n ≤ 400 → K (rSpan h p t n) h → LX12_span_34 l E (d + 1) bc bs p t x (nI n - nI 1) h K := by
  intro n
  induction n with
  | zero =>
    intro _ k
    exact bX12_span_34 S ⟨fun _ => k, fun c => absurd (by decide) c⟩
  | succ n ih =>
    intro hn k
    have e : nI (n + 1) - nI 1 = nI n := nI_pred n
    have hc : (nI n).toNatClampNeg = n := nI_clamp (by omega)
    rw [e]
    have em : nI n + (-1) = nI n - nI 1 := by rw [Int32.sub_eq_add_neg]; rfl
    refine bX12_span_34 S ⟨fun c => absurd c (nI_pos (by omega)), fun _ => ⟨vp_in_nI (by omega) (by omega), ?_⟩⟩
    rw [hc, em]
    unfold rSpan at k
    have st : ¬ (hA h 69 n = nI 2 ∧ hA h 70 n = p ∧ ¬ t < hA h 71 n ∧ ¬ hA h 72 n ≤ t) → LX12_span_34 l E (d + 1) bc bs p t x (nI n - nI 1) h K := fun q => ih (by omega) (by rw [if_neg q] at k; exact k)
    refine ⟨fun c => st (fun q => c q.1), fun c1 => ⟨fun c => st (fun q => c q.2.1), fun c2 => ⟨fun c => st (fun q => q.2.2.1 c), fun c3 => ⟨fun c => st (fun q => q.2.2.2 c), fun c4 => ?_⟩⟩⟩⟩
    rw [if_pos ⟨c1, c2, c3, c4⟩] at k
    refine ⟨fun c => ?_, fun c => ?_⟩
    · rw [if_pos c] at k; exact k
    · rw [if_neg c] at k; exact k
def rSpanV (h : aH) (p t x : Int32) : Int32 := if inI p (hI h 63 3) ∧ (0 ≤ t.toInt ∧ t.toInt < 17472) ∧ 0 ≤ x.toInt ∧ x.toInt ≤ (hI h 63 8).toInt then rSpan h p t x.toNatClampNeg else -1
theorem c_span {l : Launch} {E : eE} {d bc bs : Nat} {h : aH} {K : Int32 → aH → Prop} {p t x : Int32} (S : SR h) (hd : 1 ≤ d) (k : K (rSpanV h p t x) h) : CI l E d bc bs mX12_span [.inr (some (0, 12, 63)), .inl p, .inl t, .inl x] h K := by
  obtain ⟨d, rfl⟩ : ∃ d', d = d' + 1 := ⟨d - 1, by omega⟩
  unfold rSpanV at k
  have hN := S.2.1
  unfold RIn at hN
  refine bX12_span_0 S ⟨fun c => ?_, fun c => ⟨fun c1 => ?_, fun c1 => ⟨fun c2 => ?_, fun c2 => ⟨fun c3 => ?_, fun c3 => ?_⟩⟩⟩⟩
  · rw [if_neg (fun q => c q.1)] at k; exact k
  · simp only [Int32.lt_iff_toInt_lt, Int32.le_iff_toInt_le, ti_z, ti_m1, ti_m24, ti_0, ti_1, ti_2, ti_3, ti_4, ti_5, ti_6, ti_7, ti_8, ti_11, ti_12, ti_15, ti_24, ti_28, ti_31, ti_47, ti_48, ti_52, ti_90, ti_100, ti_127, ti_336, ti_363, ti_364, ti_400, ti_416, ti_576, ti_17471, ti_17472] at c1
    rw [if_neg (fun q => by omega)] at k; exact k
  · simp only [Int32.lt_iff_toInt_lt, Int32.le_iff_toInt_le, ti_z, ti_m1, ti_m24, ti_0, ti_1, ti_2, ti_3, ti_4, ti_5, ti_6, ti_7, ti_8, ti_11, ti_12, ti_15, ti_24, ti_28, ti_31, ti_47, ti_48, ti_52, ti_90, ti_100, ti_127, ti_336, ti_363, ti_364, ti_400, ti_416, ti_576, ti_17471, ti_17472] at c2
    rw [if_neg (fun q => by omega)] at k; exact k
  · simp only [Int32.lt_iff_toInt_lt, Int32.le_iff_toInt_le, ti_z, ti_m1, ti_m24, ti_0, ti_1, ti_2, ti_3, ti_4, ti_5, ti_6, ti_7, ti_8, ti_11, ti_12, ti_15, ti_24, ti_28, ti_31, ti_47, ti_48, ti_52, ti_90, ti_100, ti_127, ti_336, ti_363, ti_364, ti_400, ti_416, ti_576, ti_17471, ti_17472] at c1 c2
    rw [if_pos ⟨c, by omega, c3⟩] at k
    have e := i32_nn c3.1
    have e2 := i32_clamp c3.1
    have w := w_span (l := l) (E := E) (d := d) (bc := bc) (bs := bs) (K := K) (p := p) (t := t) (x := x) S x.toNatClampNeg (by omega) k
    rw [← e] at w
    exact w
  · rw [if_neg (fun q => c3 q.2.2)] at k; exact k
/-! local -/
def rLocal (h : aH) (x1 x2 x3 x4 : Int32) : Int32 := if inI x1 (hI h 63 1) ∧ (0 ≤ x2.toInt ∧ x2.toInt < 17472) ∧ 0 ≤ x3.toInt ∧ x3.toInt ≤ (hI h 63 8).toInt then
    (if x4 = nI 0 then rDown (x2 + rOff h x1 x2 x3.toNatClampNeg) (nI 48) else if x4 = nI 1 then x2 + rOff h x1 x2 x3.toNatClampNeg - nI 48 * rDown (x2 + rOff h x1 x2 x3.toNatClampNeg) (nI 48)
     else if x4 = nI 2 then rDown (x2 + rOff h x1 x2 x3.toNatClampNeg) (nI 48) - nI 7 * rDown (rDown (x2 + rOff h x1 x2 x3.toNatClampNeg) (nI 48)) (nI 7) else if x4 = nI 3 then rOff h x1 x2 x3.toNatClampNeg else -1000000)
  else -1000000
theorem i32_ne {x : Int32} {n : Nat} (hn : n < 2 ^ 31) (h : ¬ x.toInt = n) : ¬ x = nI n := fun e => h (by rw [e, nI_toInt hn])
theorem i32_eq {x : Int32} {n : Nat} (hn : n < 2 ^ 31) (h : x.toInt = n) : x = nI n := Int32.toInt_inj.mp (by rw [h, nI_toInt hn])
theorem c_local {l : Launch} {E : eE} {d bc bs : Nat} {h : aH} {K : Int32 → aH → Prop} {x1 x2 x3 x4 : Int32} (S : SR h) (hd : 1 ≤ d) (k : K (rLocal h x1 x2 x3 x4) h) : CI l E d bc bs mX12_local [.inr (some (0, 12, 63)), .inl x1, .inl x2, .inl x3, .inl x4] h K := by
  obtain ⟨d, rfl⟩ : ∃ d', d = d' + 1 := ⟨d - 1, by omega⟩
  unfold rLocal at k
  have hN := S.2.1
  unfold RIn at hN
  refine bX12_local_0 S ⟨fun c => ?_, fun c => ⟨fun c1 => ?_, fun c1 => ⟨fun c2 => ?_, fun c2 => ⟨fun c3 => ?_, fun c3 => ?_⟩⟩⟩⟩
  · rw [if_neg (fun q => c q.1)] at k; exact k
  · simp only [Int32.lt_iff_toInt_lt, Int32.le_iff_toInt_le, ti_z, ti_m1, ti_m24, ti_0, ti_1, ti_2, ti_3, ti_4, ti_5, ti_6, ti_7, ti_8, ti_11, ti_12, ti_15, ti_24, ti_28, ti_31, ti_47, ti_48, ti_52, ti_90, ti_100, ti_127, ti_336, ti_363, ti_364, ti_400, ti_416, ti_576, ti_17471, ti_17472] at c1
    rw [if_neg (fun q => by omega)] at k; exact k
  · simp only [Int32.lt_iff_toInt_lt, Int32.le_iff_toInt_le, ti_z, ti_m1, ti_m24, ti_0, ti_1, ti_2, ti_3, ti_4, ti_5, ti_6, ti_7, ti_8, ti_11, ti_12, ti_15, ti_24, ti_28, ti_31, ti_47, ti_48, ti_52, ti_90, ti_100, ti_127, ti_336, ti_363, ti_364, ti_400, ti_416, ti_576, ti_17471, ti_17472] at c2
    rw [if_neg (fun q => by omega)] at k; exact k
  · rw [if_neg (fun q => c3 q.2.2)] at k; exact k
  · simp only [Int32.lt_iff_toInt_lt, Int32.le_iff_toInt_le, ti_z, ti_m1, ti_m24, ti_0, ti_1, ti_2, ti_3, ti_4, ti_5, ti_6, ti_7, ti_8, ti_11, ti_12, ti_15, ti_24, ti_28, ti_31, ti_47, ti_48, ti_52, ti_90, ti_100, ti_127, ti_336, ti_363, ti_364, ti_400, ti_416, ti_576, ti_17471, ti_17472] at c1 c2
    rw [if_pos ⟨c, by omega, c3⟩] at k
    refine ⟨fun c4 => ?_, fun c4 => ⟨fun c5 => ⟨⟨c3.1, by omega⟩, vp_of c.1 (by have := c.2; omega), by decide, fun q => ?_, fun q => ?_, fun q => ⟨by decide, ?_⟩, fun q => ?_⟩, fun c5 => ?_⟩⟩
    · simp only [Int32.lt_iff_toInt_lt, Int32.le_iff_toInt_le, ti_z, ti_m1, ti_m24, ti_0, ti_1, ti_2, ti_3, ti_4, ti_5, ti_6, ti_7, ti_8, ti_11, ti_12, ti_15, ti_24, ti_28, ti_31, ti_47, ti_48, ti_52, ti_90, ti_100, ti_127, ti_336, ti_363, ti_364, ti_400, ti_416, ti_576, ti_17471, ti_17472] at c4
      rw [if_neg (i32_ne (by decide) (by omega)), if_neg (i32_ne (by decide) (by omega)), if_neg (i32_ne (by decide) (by omega)), if_neg (i32_ne (by decide) (by omega))] at k; exact k
    · rw [if_pos q] at k; exact k
    · rw [if_neg (by rw [q]; decide), if_pos q] at k; exact k
    · rw [if_neg (by rw [q]; decide), if_neg (by rw [q]; decide), if_pos q] at k; exact k
    · simp only [Int32.lt_iff_toInt_lt, Int32.le_iff_toInt_le, ti_z, ti_m1, ti_m24, ti_0, ti_1, ti_2, ti_3, ti_4, ti_5, ti_6, ti_7, ti_8, ti_11, ti_12, ti_15, ti_24, ti_28, ti_31, ti_47, ti_48, ti_52, ti_90, ti_100, ti_127, ti_336, ti_363, ti_364, ti_400, ti_416, ti_576, ti_17471, ti_17472] at c4 c5
      rw [if_neg (i32_ne (by decide) (by omega)), if_neg (i32_ne (by decide) (by omega)), if_neg (i32_ne (by decide) (by omega)), if_pos (i32_eq (by decide) (by omega))] at k; exact k
    · simp only [Int32.lt_iff_toInt_lt, Int32.le_iff_toInt_le, ti_z, ti_m1, ti_m24, ti_0, ti_1, ti_2, ti_3, ti_4, ti_5, ti_6, ti_7, ti_8, ti_11, ti_12, ti_15, ti_24, ti_28, ti_31, ti_47, ti_48, ti_52, ti_90, ti_100, ti_127, ti_336, ti_363, ti_364, ti_400, ti_416, ti_576, ti_17471, ti_17472] at c4 c5
      rw [if_neg (i32_ne (by decide) (by omega)), if_neg (i32_ne (by decide) (by omega)), if_neg (i32_ne (by decide) (by omega)), if_neg (i32_ne (by decide) (by omega))] at k; exact k
