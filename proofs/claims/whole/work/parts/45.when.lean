/-! ===== when: both sides ===== -/
def rWt (loc : Int32) (i : Nat) : Int32 := loc - nI 28 + nI i
/-- how many, the first, the last, behind i of the 53 slots that are looked at -/
def rW (h : aH) (land : Int32) (n : Nat) (loc : Int32) : Nat → Int32 × Int32 × Int32
  | 0 => (nI 0, -1, -1)
  | i + 1 => if rWt loc i < 0 ∨ nI 17472 ≤ rWt loc i ∨ ¬ rWt loc i + rOff h land (rWt loc i) n = loc then rW h land n loc i else ((rW h land n loc i).1 + nI 1, (if (rW h land n loc i).2.1 = -1 then rWt loc i else (rW h land n loc i).2.1), rWt loc i)
theorem rWt_int {loc : Int32} {i : Nat} (h1 : -1000000 ≤ loc.toInt ∧ loc.toInt ≤ 1000000) (hi : i ≤ 100) : (rWt loc i).toInt = loc.toInt - 28 + i := by
  unfold rWt
  have e : (loc - nI 28).toInt = loc.toInt - 28 := by rw [i_sub (by rw [ti_28]; omega) (by rw [ti_28]; omega), ti_28]
  rw [i_add (by rw [e, nI_toInt (by omega)]; omega) (by rw [e, nI_toInt (by omega)]; omega), e, nI_toInt (by omega)]
theorem rWt_1 (loc : Int32) (i : Nat) : rWt loc i + nI 1 = rWt loc (i + 1) := by
  unfold rWt
  rw [Int32.add_assoc, nI_add]
theorem rW_skip {h : aH} {land : Int32} {n : Nat} {loc : Int32} {a : Nat} : ∀ j, (∀ i, a ≤ i → i < a + j → rWt loc i < 0 ∨ nI 17472 ≤ rWt loc i) → rW h land n loc (a + j) = rW h land n loc a
  | 0, _ => rfl
  | j + 1, hs => by
    rw [show a + (j + 1) = a + j + 1 by omega, rW, if_pos]
    · exact rW_skip j (fun i h1 h2 => hs i h1 (by omega))
    · rcases hs (a + j) (by omega) (by omega) with q | q
      · exact Or.inl q
      · exact Or.inr (Or.inl q)
def rWhenV (h : aH) (x1 x2 x3 x4 x5 : Int32) : Int32 :=
  if inI x1 (hI h 63 1) ∧ (-1 ≤ x2.toInt ∧ x2.toInt ≤ 364) ∧ (0 ≤ x3.toInt ∧ x3.toInt < 48) ∧ (0 ≤ x4.toInt ∧ x4.toInt ≤ (hI h 63 8).toInt) then
    (if x5 = nI 0 then (rW h x1 x4.toNatClampNeg (nI 48 * x2 + x3) 53).1 else if x5 = nI 1 then (rW h x1 x4.toNatClampNeg (nI 48 * x2 + x3) 53).2.1 else if x5 = nI 2 then (rW h x1 x4.toNatClampNeg (nI 48 * x2 + x3) 53).2.2 else -1)
  else -1
theorem w_when {l : Launch} {E : eE} {d bc bs : Nat} {h : aH} {K : Int32 → aH → Prop} {x1 x2 x3 x4 x5 loc : Int32} (S : SR h) (hl : inI x1 (hI h 63 1)) (h4 : 0 ≤ x4.toInt ∧ x4.toInt ≤ (hI h 63 8).toInt) (hloc : -1000 ≤ loc.toInt ∧ loc.toInt ≤ 20000) (h5 : 0 ≤ x5.toInt ∧ x5.toInt ≤ 2) (k : K (if x5 = nI 0 then (rW h x1 x4.toNatClampNeg loc 53).1 else if x5 = nI 1 then (rW h x1 x4.toNatClampNeg loc 53).2.1 else if x5 = nI 2 then (rW h x1 x4.toNatClampNeg loc 53).2.2 else -1) h) :
    ∀ (j i : Nat), i + j = 53 → LX12_when_76 l E (d + 1) bc bs x1 x2 x3 x4 x5 loc (rW h x1 x4.toNatClampNeg loc i).1 (rW h x1 x4.toNatClampNeg loc i).2.1 (rW h x1 x4.toNatClampNeg loc i).2.2 (rWt loc i) h K := by
  have hN := S.2.1
  unfold RIn at hN
  have e24 : (loc + nI 24).toInt = loc.toInt + 24 := by rw [i_add (by rw [ti_24]; omega) (by rw [ti_24]; omega), ti_24]
  intro j
  induction j with
  | zero =>
    intro i hi
    have hi : i = 53 := by omega
    subst hi
    have et := rWt_int (loc := loc) (i := 53) (by omega) (by omega)
    refine bX12_when_76 S ⟨fun _ => ⟨fun (c : ¬ x5 = nI 0) => ⟨fun c2 => ?_, fun c2 => ?_⟩, fun (c : x5 = nI 0) => ?_⟩, fun c => absurd (by rw [Int32.lt_iff_toInt_lt]; omega) c⟩
    · rw [if_neg c, if_neg c2, if_pos] at k
      · exact k
      · refine i32_eq (by decide) ?_
        have a1 : ¬ x5.toInt = 0 := fun q => c (i32_eq (n := 0) (by decide) q)
        have a2 : ¬ x5.toInt = 1 := fun q => c2 (i32_eq (n := 1) (by decide) q)
        omega
    · rw [if_neg c, if_pos c2] at k; exact k
    · rw [if_pos c] at k; exact k
  | succ j ih =>
    intro i hi
    have ih := ih (i + 1) (by omega)
    have et := rWt_int (loc := loc) (i := i) (by omega) (by omega)
    rw [rW] at ih
    refine bX12_when_76 S ⟨fun c => absurd c (by rw [Int32.lt_iff_toInt_lt]; omega), fun _ => ?_⟩
    rw [rWt_1]
    refine ⟨fun c => ?_, fun c => ⟨fun c2 => ?_, fun c2 => ⟨⟨h4.1, by omega⟩, vp_of hl.1 (by have := hl.2; omega), fun c3 => ?_, fun c3 => ?_⟩⟩⟩
    · rw [if_pos (Or.inl c)] at ih; exact ih
    · rw [if_pos (Or.inr (Or.inl c2))] at ih; exact ih
    · rw [if_neg (fun q => q.elim c (fun q => q.elim c2 (fun q => q c3)))] at ih
      dsimp only at ih
      refine ⟨fun c4 => ?_, fun c4 => ?_⟩
      · rw [if_neg c4] at ih; exact ih
      · rw [if_pos c4] at ih; exact ih
    · rw [if_pos (Or.inr (Or.inr c3))] at ih; exact ih
theorem loc_int {x2 x3 : Int32} (h2 : -1 ≤ x2.toInt ∧ x2.toInt ≤ 364) (h3 : 0 ≤ x3.toInt ∧ x3.toInt < 48) : (nI 48 * x2 + x3).toInt = 48 * x2.toInt + x3.toInt := by
  have e48 : (nI 48 * x2).toInt = 48 * x2.toInt := by rw [i_mul (by rw [ti_48]; omega) (by rw [ti_48]; omega), ti_48]
  rw [i_add (by rw [e48]; omega) (by rw [e48]; omega), e48]
theorem c_when {l : Launch} {E : eE} {d bc bs : Nat} {h : aH} {K : Int32 → aH → Prop} {x1 x2 x3 x4 x5 : Int32} (S : SR h) (hd : 1 ≤ d) (k : K (rWhenV h x1 x2 x3 x4 x5) h) : CI l E d bc bs mX12_when [.inr (some (0, 12, 63)), .inl x1, .inl x2, .inl x3, .inl x4, .inl x5] h K := by
  obtain ⟨d, rfl⟩ : ∃ d', d = d' + 1 := ⟨d - 1, by omega⟩
  unfold rWhenV at k
  refine bX12_when_0 S ⟨fun c => ?_, fun c => ⟨fun c1 => ?_, fun c1 => ⟨fun c2 => ?_, fun c2 => ⟨fun c3 => ?_, fun c3 => ⟨fun c4 => ?_, fun c4 => ⟨fun c5 => ?_, fun c5 => ?_⟩⟩⟩⟩⟩⟩
  · rw [if_neg (fun q => c q.1)] at k; exact k
  · simp only [Int32.lt_iff_toInt_lt, Int32.le_iff_toInt_le, ti_z, ti_m1, ti_m24, ti_0, ti_1, ti_2, ti_3, ti_4, ti_5, ti_6, ti_7, ti_8, ti_11, ti_12, ti_15, ti_24, ti_28, ti_31, ti_47, ti_48, ti_52, ti_90, ti_100, ti_127, ti_336, ti_363, ti_364, ti_400, ti_416, ti_576, ti_17471, ti_17472] at c1; rw [if_neg (fun q => by omega)] at k; exact k
  · simp only [Int32.lt_iff_toInt_lt, Int32.le_iff_toInt_le, ti_z, ti_m1, ti_m24, ti_0, ti_1, ti_2, ti_3, ti_4, ti_5, ti_6, ti_7, ti_8, ti_11, ti_12, ti_15, ti_24, ti_28, ti_31, ti_47, ti_48, ti_52, ti_90, ti_100, ti_127, ti_336, ti_363, ti_364, ti_400, ti_416, ti_576, ti_17471, ti_17472] at c2; rw [if_neg (fun q => by omega)] at k; exact k
  · simp only [Int32.lt_iff_toInt_lt, Int32.le_iff_toInt_le, ti_z, ti_m1, ti_m24, ti_0, ti_1, ti_2, ti_3, ti_4, ti_5, ti_6, ti_7, ti_8, ti_11, ti_12, ti_15, ti_24, ti_28, ti_31, ti_47, ti_48, ti_52, ti_90, ti_100, ti_127, ti_336, ti_363, ti_364, ti_400, ti_416, ti_576, ti_17471, ti_17472] at c3; rw [if_neg (fun q => by omega)] at k; exact k
  · simp only [Int32.lt_iff_toInt_lt, Int32.le_iff_toInt_le, ti_z, ti_m1, ti_m24, ti_0, ti_1, ti_2, ti_3, ti_4, ti_5, ti_6, ti_7, ti_8, ti_11, ti_12, ti_15, ti_24, ti_28, ti_31, ti_47, ti_48, ti_52, ti_90, ti_100, ti_127, ti_336, ti_363, ti_364, ti_400, ti_416, ti_576, ti_17471, ti_17472] at c4; rw [if_neg (fun q => by omega)] at k; exact k
  · rw [if_neg (fun q => c5 q.2.2.2)] at k; exact k
  · simp only [Int32.lt_iff_toInt_lt, Int32.le_iff_toInt_le, ti_z, ti_m1, ti_m24, ti_0, ti_1, ti_2, ti_3, ti_4, ti_5, ti_6, ti_7, ti_8, ti_11, ti_12, ti_15, ti_24, ti_28, ti_31, ti_47, ti_48, ti_52, ti_90, ti_100, ti_127, ti_336, ti_363, ti_364, ti_400, ti_416, ti_576, ti_17471, ti_17472] at c1 c2 c3 c4
    have hloc := loc_int (x2 := x2) (x3 := x3) (by omega) (by omega)
    rw [if_pos ⟨c, by omega, by omega, c5⟩] at k
    refine ⟨fun c6 => ?_, fun c6 => ⟨fun c7 => ?_, fun c7 => ?_⟩⟩
    · simp only [Int32.lt_iff_toInt_lt, Int32.le_iff_toInt_le, ti_z, ti_m1, ti_m24, ti_0, ti_1, ti_2, ti_3, ti_4, ti_5, ti_6, ti_7, ti_8, ti_11, ti_12, ti_15, ti_24, ti_28, ti_31, ti_47, ti_48, ti_52, ti_90, ti_100, ti_127, ti_336, ti_363, ti_364, ti_400, ti_416, ti_576, ti_17471, ti_17472] at c6
      rw [if_neg (i32_ne (by decide) (by omega)), if_neg (i32_ne (by decide) (by omega)), if_neg (i32_ne (by decide) (by omega))] at k; exact k
    · simp only [Int32.lt_iff_toInt_lt, Int32.le_iff_toInt_le, ti_z, ti_m1, ti_m24, ti_0, ti_1, ti_2, ti_3, ti_4, ti_5, ti_6, ti_7, ti_8, ti_11, ti_12, ti_15, ti_24, ti_28, ti_31, ti_47, ti_48, ti_52, ti_90, ti_100, ti_127, ti_336, ti_363, ti_364, ti_400, ti_416, ti_576, ti_17471, ti_17472] at c6 c7
      have w := w_when (l := l) (E := E) (d := d) (bc := bc) (bs := bs) (x2 := x2) (x3 := x3) S c c5 (loc := nI 48 * x2 + x3) (by omega) (by omega) k 53 0 (by omega)
      unfold rWt at w
      rw [show nI 0 = 0 from rfl, Int32.add_zero] at w
      exact w
    · simp only [Int32.lt_iff_toInt_lt, Int32.le_iff_toInt_le, ti_z, ti_m1, ti_m24, ti_0, ti_1, ti_2, ti_3, ti_4, ti_5, ti_6, ti_7, ti_8, ti_11, ti_12, ti_15, ti_24, ti_28, ti_31, ti_47, ti_48, ti_52, ti_90, ti_100, ti_127, ti_336, ti_363, ti_364, ti_400, ti_416, ti_576, ti_17471, ti_17472] at c6 c7
      rw [if_neg (i32_ne (by decide) (by omega)), if_neg (i32_ne (by decide) (by omega)), if_neg (i32_ne (by decide) (by omega))] at k; exact k
/-! the class -/
theorem w_kwhen {l : Launch} {E : eE} {d bc bs : Nat} {h : aH} {K : Int32 → aH → Prop} {x1 x2 x3 x4 x5 x7 x12 x13 loc : Int32} {i0 o b : Nat} (S : SR h) (hl : LdAt h i0 o) (hi0 : (i0 : Int) < (hI h 63 1).toInt) (e1 : x1 = nI i0) (h4 : 0 ≤ x4.toInt ∧ x4.toInt ≤ (hI h 63 8).toInt) (hloc : -1000 ≤ loc.toInt ∧ loc.toInt ≤ 20000) (hb : b ≤ 53) (hto : x13.toInt = loc.toInt - 28 + b - 1) (hto2 : x13.toInt ≤ 17471)
    (k0 : x5 = nI 0 → K (rW h x1 x4.toNatClampNeg loc b).1 h) (k1 : x5 = nI 1 → K (rW h x1 x4.toNatClampNeg loc b).2.1 h) (k2 : x5 = nI 2 → K (rW h x1 x4.toNatClampNeg loc b).2.2 h) (k3 : x5.toInt < 0 ∨ 2 < x5.toInt → K (-1) h) :
    ∀ (j i : Nat), i + j = b → 0 ≤ loc.toInt - 28 + i → LX11_when_102 l E (d + 1) bc bs x1 x2 x3 x4 x5 (some (0, 4, o)) x7 loc (rW h x1 x4.toNatClampNeg loc i).1 (rW h x1 x4.toNatClampNeg loc i).2.1 (rW h x1 x4.toNatClampNeg loc i).2.2 x12 x13 (rWt loc i) h K := by
  intro j
  induction j with
  | zero =>
    intro i hi hnn
    have hi : i = b := by omega
    subst hi
    have et := rWt_int (loc := loc) (i := i) (by omega) (by omega)
    exact bX11_when_102 S.1 ⟨fun _ => ⟨k0, k1, k2, k3⟩, fun c => absurd (by rw [Int32.lt_iff_toInt_lt]; omega) c⟩
  | succ j ih =>
    intro i hi hnn
    have ih := ih (i + 1) (by omega) (by omega)
    have et := rWt_int (loc := loc) (i := i) (by omega) (by omega)
    rw [rW] at ih
    refine bX11_when_102 S.1 ⟨fun c => absurd c (by rw [Int32.lt_iff_toInt_lt]; omega), fun _ => ⟨o, rfl, k_offL S hl hi0 h4 ⟨S.1, ?_⟩⟩⟩
    rw [rWt_1, ← e1]
    have n1 : ¬ rWt loc i < 0 := by rw [Int32.lt_iff_toInt_lt, ti_z]; omega
    have n2 : ¬ nI 17472 ≤ rWt loc i := by rw [Int32.le_iff_toInt_le, ti_17472]; omega
    refine ⟨fun c3 => ?_, fun c3 => ?_⟩
    · rw [if_pos (Or.inr (Or.inr c3))] at ih; exact ih
    · rw [if_neg (fun q => q.elim n1 (fun q => q.elim n2 (fun q => q c3)))] at ih
      dsimp only at ih
      refine ⟨fun c4 => ?_, fun c4 => ?_⟩
      · rw [if_neg c4] at ih; exact ih
      · rw [if_pos c4] at ih; exact ih

theorem k_when {l : Launch} {E : eE} {d bc bs : Nat} {h : aH} {K : Int32 → aH → Prop} {x1 x2 x3 x4 x5 : Int32} (S : SK h) (hd : 1 ≤ d) (k : K (rWhenV h x1 x2 x3 x4 x5) h) : CI l E d bc bs mX11_when [.inr (some (0, 11, 0)), .inl x1, .inl x2, .inl x3, .inl x4, .inl x5] h K := by
  obtain ⟨d, rfl⟩ : ∃ d', d = d' + 1 := ⟨d - 1, by omega⟩
  have R := S.1.1
  have hN := S.n
  unfold RIn at hN
  unfold rWhenV at k
  have bad : ∀ r : aR, K (-1) h → LX11_when_33 l E (d + 1) bc bs x1 x2 x3 x4 x5 r h K := fun r kk => bX11_when_33 R ⟨fun _ => kk, fun _ _ => ⟨fun _ => kk, fun z => absurd rfl z⟩⟩
  refine bX11_when_0 R (k_landAt S (fun c => ?_) (fun i o e hi hl => ?_))
  · rw [if_neg (fun q => c q.1)] at k
    exact ⟨R, fun _ => bad _ k, fun _ => ⟨fun _ => bad _ k, fun _ => ⟨fun _ => bad _ k, fun _ => ⟨fun _ => bad _ k, fun _ => ⟨fun _ => k, fun _ e => by cases e⟩⟩⟩⟩⟩
  · refine ⟨R, fun c1 => bad _ ?_, fun c1 => ⟨fun c2 => bad _ ?_, fun c2 => ⟨fun c3 => bad _ ?_, fun c3 => ⟨fun c4 => bad _ ?_, fun c4 => ⟨fun e => (by cases e), fun _ _ => ⟨fun z => absurd z (by decide), fun _ => k_isKnown S ⟨R, fun c5 => ?_, fun c5 => ?_⟩⟩⟩⟩⟩⟩⟩
    · simp only [Int32.lt_iff_toInt_lt, Int32.le_iff_toInt_le, ti_z, ti_m1, ti_m24, ti_0, ti_1, ti_2, ti_3, ti_4, ti_5, ti_6, ti_7, ti_8, ti_11, ti_12, ti_15, ti_24, ti_28, ti_31, ti_47, ti_48, ti_52, ti_90, ti_100, ti_127, ti_336, ti_363, ti_364, ti_400, ti_416, ti_576, ti_17471, ti_17472] at c1; rw [if_neg (fun q => by omega)] at k; exact k
    · simp only [Int32.lt_iff_toInt_lt, Int32.le_iff_toInt_le, ti_z, ti_m1, ti_m24, ti_0, ti_1, ti_2, ti_3, ti_4, ti_5, ti_6, ti_7, ti_8, ti_11, ti_12, ti_15, ti_24, ti_28, ti_31, ti_47, ti_48, ti_52, ti_90, ti_100, ti_127, ti_336, ti_363, ti_364, ti_400, ti_416, ti_576, ti_17471, ti_17472] at c2; rw [if_neg (fun q => by omega)] at k; exact k
    · simp only [Int32.lt_iff_toInt_lt, Int32.le_iff_toInt_le, ti_z, ti_m1, ti_m24, ti_0, ti_1, ti_2, ti_3, ti_4, ti_5, ti_6, ti_7, ti_8, ti_11, ti_12, ti_15, ti_24, ti_28, ti_31, ti_47, ti_48, ti_52, ti_90, ti_100, ti_127, ti_336, ti_363, ti_364, ti_400, ti_416, ti_576, ti_17471, ti_17472] at c3; rw [if_neg (fun q => by omega)] at k; exact k
    · simp only [Int32.lt_iff_toInt_lt, Int32.le_iff_toInt_le, ti_z, ti_m1, ti_m24, ti_0, ti_1, ti_2, ti_3, ti_4, ti_5, ti_6, ti_7, ti_8, ti_11, ti_12, ti_15, ti_24, ti_28, ti_31, ti_47, ti_48, ti_52, ti_90, ti_100, ti_127, ti_336, ti_363, ti_364, ti_400, ti_416, ti_576, ti_17471, ti_17472] at c4; rw [if_neg (fun q => by omega)] at k; exact k
    · rw [bI1] at c5
      simp only [Int32.lt_iff_toInt_lt, Int32.le_iff_toInt_le, ti_z, ti_m1, ti_m24, ti_0, ti_1, ti_2, ti_3, ti_4, ti_5, ti_6, ti_7, ti_8, ti_11, ti_12, ti_15, ti_24, ti_28, ti_31, ti_47, ti_48, ti_52, ti_90, ti_100, ti_127, ti_336, ti_363, ti_364, ti_400, ti_416, ti_576, ti_17471, ti_17472] at c1 c2 c3 c4
      have hin : inI x1 (hI h 63 1) := by rw [e]; exact ⟨by rw [nI_toInt (by omega)]; omega, by rw [nI_toInt (by omega)]; exact hi⟩
      rw [if_pos ⟨hin, by omega, by omega, c5⟩] at k
      have hloc := loc_int (x2 := x2) (x3 := x3) (by omega) (by omega)
      rw [Int32.mul_comm x2 (nI 48)]
      generalize nI 48 * x2 + x3 = loc at hloc k ⊢
      have e28 : (loc - nI 28).toInt = loc.toInt - 28 := by rw [i_sub (by rw [ti_28]; omega) (by rw [ti_28]; omega), ti_28]
      have e24 : (loc - (-24)).toInt = loc.toInt + 24 := by rw [i_sub (by rw [ti_m24]; omega) (by rw [ti_m24]; omega), ti_m24]; omega
      refine c_max R ⟨R, c_min R ⟨R, ?_⟩⟩
      obtain ⟨fr, hfr, hfr2⟩ : ∃ fr : Int32, fr = (if nI 0 < loc - nI 28 then loc - nI 28 else nI 0) ∧ fr.toInt = max 0 (loc.toInt - 28) := ⟨_, rfl, by
        by_cases g : nI 0 < loc - nI 28
        · rw [if_pos g]; rw [Int32.lt_iff_toInt_lt, ti_0] at g; omega
        · rw [if_neg g]; rw [Int32.lt_iff_toInt_lt, ti_0] at g; rw [ti_0]; omega⟩
      obtain ⟨to, hto, hto2⟩ : ∃ to : Int32, to = (if loc - (-24) < nI 17471 then loc - (-24) else nI 17471) ∧ to.toInt = min 17471 (loc.toInt + 24) := ⟨_, rfl, by
        by_cases g : loc - (-24) < nI 17471
        · rw [if_pos g]; rw [Int32.lt_iff_toInt_lt, ti_17471] at g; omega
        · rw [if_neg g]; rw [Int32.lt_iff_toInt_lt, ti_17471] at g; rw [ti_17471]; omega⟩
      rw [← hfr, ← hto]
      have fin : ∀ b : Nat, rW h x1 x4.toNatClampNeg loc b = rW h x1 x4.toNatClampNeg loc 53 → (x5 = nI 0 → K (rW h x1 x4.toNatClampNeg loc b).1 h) ∧ (x5 = nI 1 → K (rW h x1 x4.toNatClampNeg loc b).2.1 h) ∧ (x5 = nI 2 → K (rW h x1 x4.toNatClampNeg loc b).2.2 h) ∧ (x5.toInt < 0 ∨ 2 < x5.toInt → K (-1) h) := by
        intro b eb
        rw [eb]
        refine ⟨fun q => ?_, fun q => ?_, fun q => ?_, fun q => ?_⟩
        · rw [if_pos q] at k; exact k
        · rw [if_neg (by rw [q]; decide), if_pos q] at k; exact k
        · rw [if_neg (by rw [q]; decide), if_neg (by rw [q]; decide), if_pos q] at k; exact k
        · rw [if_neg (i32_ne (by decide) (by omega)), if_neg (i32_ne (by decide) (by omega)), if_neg (i32_ne (by decide) (by omega))] at k; exact k
      have inv : ∀ i : Nat, i ≤ 53 → (loc.toInt - 28 + i < 0 ∨ 17472 ≤ loc.toInt - 28 + i) → rWt loc i < 0 ∨ nI 17472 ≤ rWt loc i := by
        intro i hi53 hq
        have et := rWt_int (loc := loc) (i := i) (by omega) (by omega)
        rw [Int32.lt_iff_toInt_lt, Int32.le_iff_toInt_le, ti_z, ti_17472]
        omega
      by_cases g : fr.toInt ≤ to.toInt
      · obtain ⟨a, ha⟩ : ∃ a : Nat, (a : Int) = fr.toInt - (loc.toInt - 28) := ⟨(fr.toInt - (loc.toInt - 28)).toNat, by omega⟩
        obtain ⟨b, hb⟩ : ∃ b : Nat, (b : Int) = to.toInt - (loc.toInt - 28) + 1 := ⟨(to.toInt - (loc.toInt - 28) + 1).toNat, by omega⟩
        have eb : rW h x1 x4.toNatClampNeg loc b = rW h x1 x4.toNatClampNeg loc 53 := by
          have := rW_skip (h := h) (land := x1) (n := x4.toNatClampNeg) (loc := loc) (a := b) (53 - b) (fun i h1 h2 => inv i (by omega) (by omega))
          rw [show b + (53 - b) = 53 by omega] at this
          exact this.symm
        have ea : rW h x1 x4.toNatClampNeg loc a = (nI 0, -1, -1) := by
          have := rW_skip (h := h) (land := x1) (n := x4.toNatClampNeg) (loc := loc) (a := 0) a (fun i h1 h2 => inv i (by omega) (by omega))
          rw [Nat.zero_add] at this
          exact this
        have et := rWt_int (loc := loc) (i := a) (by omega) (by omega)
        have efr : fr = rWt loc a := Int32.toInt_inj.mp (by omega)
        obtain ⟨q0, q1, q2, q3⟩ := fin b eb
        have w := w_kwhen (l := l) (E := E) (d := d) (bc := bc) (bs := bs) (x2 := x2) (x3 := x3) (x7 := nI 1) (x12 := fr) S.1 hl hi e c5 (by omega) (b := b) (x13 := to) (by omega) (by omega) (by omega) q0 q1 q2 q3 (b - a) a (by omega) (by omega)
        rw [ea, ← efr] at w
        exact w
      · have e53 : rW h x1 x4.toNatClampNeg loc 0 = rW h x1 x4.toNatClampNeg loc 53 := by
          have := rW_skip (h := h) (land := x1) (n := x4.toNatClampNeg) (loc := loc) (a := 0) 53 (fun i h1 h2 => inv i (by omega) (by omega))
          exact this.symm
        exact bX11_when_102 R ⟨fun _ => fin 0 e53, fun c => absurd (by rw [Int32.lt_iff_toInt_lt]; omega) c⟩
    · rw [bI0] at c5
      rw [if_neg (fun q => c5 q.2.2.2)] at k; exact k
