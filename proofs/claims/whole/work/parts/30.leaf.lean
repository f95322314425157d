/-! ===== the reference's leaf methods ===== -/
theorem ti_0 : (nI 0).toInt = 0 := by decide
theorem ti_1 : (nI 1).toInt = 1 := by decide
theorem ti_2 : (nI 2).toInt = 2 := by decide
theorem ti_3 : (nI 3).toInt = 3 := by decide
theorem ti_4 : (nI 4).toInt = 4 := by decide
theorem ti_5 : (nI 5).toInt = 5 := by decide
theorem ti_6 : (nI 6).toInt = 6 := by decide
theorem ti_7 : (nI 7).toInt = 7 := by decide
theorem ti_8 : (nI 8).toInt = 8 := by decide
theorem ti_11 : (nI 11).toInt = 11 := by decide
theorem ti_12 : (nI 12).toInt = 12 := by decide
theorem ti_15 : (nI 15).toInt = 15 := by decide
theorem ti_24 : (nI 24).toInt = 24 := by decide
theorem ti_28 : (nI 28).toInt = 28 := by decide
theorem ti_31 : (nI 31).toInt = 31 := by decide
theorem ti_47 : (nI 47).toInt = 47 := by decide
theorem ti_48 : (nI 48).toInt = 48 := by decide
theorem ti_52 : (nI 52).toInt = 52 := by decide
theorem ti_90 : (nI 90).toInt = 90 := by decide
theorem ti_100 : (nI 100).toInt = 100 := by decide
theorem ti_127 : (nI 127).toInt = 127 := by decide
theorem ti_336 : (nI 336).toInt = 336 := by decide
theorem ti_363 : (nI 363).toInt = 363 := by decide
theorem ti_364 : (nI 364).toInt = 364 := by decide
theorem ti_400 : (nI 400).toInt = 400 := by decide
theorem ti_416 : (nI 416).toInt = 416 := by decide
theorem ti_576 : (nI 576).toInt = 576 := by decide
theorem ti_17471 : (nI 17471).toInt = 17471 := by decide
theorem ti_17472 : (nI 17472).toInt = 17472 := by decide
theorem ti_z : (0 : Int32).toInt = 0 := by decide
theorem ti_m1 : (-1 : Int32).toInt = -1 := by decide
theorem ti_m24 : (-24 : Int32).toInt = -24 := by decide
theorem kT {K : Int32 → aH → Prop} {h : aH} {p : Prop} [Decidable p] (k : K (bI p) h) (hp : p) : K (nI 1) h := by rw [bI_t hp] at k; exact k
theorem kF {K : Int32 → aH → Prop} {h : aH} {p : Prop} [Decidable p] (k : K (bI p) h) (hp : ¬ p) : K (nI 0) h := by rw [bI_f hp] at k; exact k
/-- x is one of 0 .. n - 1, as an Int32 -/
abbrev inI (x n : Int32) : Prop := 0 ≤ x.toInt ∧ x.toInt < n.toInt
theorem c_isLand {l : Launch} {E : eE} {d bc bs : Nat} {h : aH} {K : Int32 → aH → Prop} {x : Int32} (S : SH h) (k : K (bI (inI x (hI h 63 1))) h) : CI l E d bc bs mX12_isLand [.inr (some (0, 12, 63)), .inl x] h K := by
  refine bX12_isLand_0 S ⟨fun c => kF k ?_, fun c => ⟨fun c2 => kF k ?_, fun c2 => kT k ?_⟩⟩ <;> simp only [Int32.lt_iff_toInt_lt, Int32.le_iff_toInt_le, ti_z, ti_m1, ti_m24, ti_0, ti_1, ti_2, ti_3, ti_4, ti_5, ti_6, ti_7, ti_8, ti_11, ti_12, ti_15, ti_24, ti_28, ti_31, ti_47, ti_48, ti_52, ti_90, ti_100, ti_127, ti_336, ti_363, ti_364, ti_400, ti_416, ti_576, ti_17471, ti_17472] at * <;> omega
theorem c_isPerson {l : Launch} {E : eE} {d bc bs : Nat} {h : aH} {K : Int32 → aH → Prop} {x : Int32} (S : SH h) (k : K (bI (inI x (hI h 63 3))) h) : CI l E d bc bs mX12_isPerson [.inr (some (0, 12, 63)), .inl x] h K := by
  refine bX12_isPerson_0 S ⟨fun c => kF k ?_, fun c => ⟨fun c2 => kF k ?_, fun c2 => kT k ?_⟩⟩ <;> simp only [Int32.lt_iff_toInt_lt, Int32.le_iff_toInt_le, ti_z, ti_m1, ti_m24, ti_0, ti_1, ti_2, ti_3, ti_4, ti_5, ti_6, ti_7, ti_8, ti_11, ti_12, ti_15, ti_24, ti_28, ti_31, ti_47, ti_48, ti_52, ti_90, ti_100, ti_127, ti_336, ti_363, ti_364, ti_400, ti_416, ti_576, ti_17471, ti_17472] at * <;> omega
theorem c_isSeries {l : Launch} {E : eE} {d bc bs : Nat} {h : aH} {K : Int32 → aH → Prop} {x : Int32} (S : SH h) (k : K (bI (inI x (hI h 63 14))) h) : CI l E d bc bs mX12_isSeries [.inr (some (0, 12, 63)), .inl x] h K := by
  refine bX12_isSeries_0 S ⟨fun c => kF k ?_, fun c => ⟨fun c2 => kF k ?_, fun c2 => kT k ?_⟩⟩ <;> simp only [Int32.lt_iff_toInt_lt, Int32.le_iff_toInt_le, ti_z, ti_m1, ti_m24, ti_0, ti_1, ti_2, ti_3, ti_4, ti_5, ti_6, ti_7, ti_8, ti_11, ti_12, ti_15, ti_24, ti_28, ti_31, ti_47, ti_48, ti_52, ti_90, ti_100, ti_127, ti_336, ti_363, ti_364, ti_400, ti_416, ti_576, ti_17471, ti_17472] at * <;> omega
theorem c_isWeek {l : Launch} {E : eE} {d bc bs : Nat} {h : aH} {K : Int32 → aH → Prop} {x : Int32} (S : SH h) (k : K (bI (0 ≤ x.toInt ∧ x.toInt < 52)) h) : CI l E d bc bs mX12_isWeek [.inl x] h K := by
  refine bX12_isWeek_0 S ⟨fun c => kF k ?_, fun c => ⟨fun c2 => kF k ?_, fun c2 => kT k ?_⟩⟩ <;> simp only [Int32.lt_iff_toInt_lt, Int32.le_iff_toInt_le, ti_z, ti_m1, ti_m24, ti_0, ti_1, ti_2, ti_3, ti_4, ti_5, ti_6, ti_7, ti_8, ti_11, ti_12, ti_15, ti_24, ti_28, ti_31, ti_47, ti_48, ti_52, ti_90, ti_100, ti_127, ti_336, ti_363, ti_364, ti_400, ti_416, ti_576, ti_17471, ti_17472] at * <;> omega
theorem c_isKnown {l : Launch} {E : eE} {d bc bs : Nat} {h : aH} {K : Int32 → aH → Prop} {x : Int32} (S : SH h) (k : K (bI (0 ≤ x.toInt ∧ x.toInt ≤ (hI h 63 8).toInt)) h) : CI l E d bc bs mX12_isKnown [.inr (some (0, 12, 63)), .inl x] h K := by
  refine bX12_isKnown_0 S ⟨fun c => kF k ?_, fun c => ⟨fun c2 => kF k ?_, fun c2 => kT k ?_⟩⟩ <;> simp only [Int32.lt_iff_toInt_lt, Int32.le_iff_toInt_le, ti_z, ti_m1, ti_m24, ti_0, ti_1, ti_2, ti_3, ti_4, ti_5, ti_6, ti_7, ti_8, ti_11, ti_12, ti_15, ti_24, ti_28, ti_31, ti_47, ti_48, ti_52, ti_90, ti_100, ti_127, ti_336, ti_363, ti_364, ti_400, ti_416, ti_576, ti_17471, ti_17472] at * <;> omega
theorem c_isOffset {l : Launch} {E : eE} {d bc bs : Nat} {h : aH} {K : Int32 → aH → Prop} {x : Int32} (S : SH h) (k : K (bI (-24 ≤ x.toInt ∧ x.toInt ≤ 28)) h) : CI l E d bc bs mX12_isOffset [.inl x] h K := by
  refine bX12_isOffset_0 S ⟨fun c => kF k ?_, fun c => ⟨fun c2 => kF k ?_, fun c2 => kT k ?_⟩⟩ <;> simp only [Int32.lt_iff_toInt_lt, Int32.le_iff_toInt_le, ti_z, ti_m1, ti_m24, ti_0, ti_1, ti_2, ti_3, ti_4, ti_5, ti_6, ti_7, ti_8, ti_11, ti_12, ti_15, ti_24, ti_28, ti_31, ti_47, ti_48, ti_52, ti_90, ti_100, ti_127, ti_336, ti_363, ti_364, ti_400, ti_416, ti_576, ti_17471, ti_17472] at * <;> omega
/-! down: the quotient rounded down -/
theorem down48 (a : Int) : (if 0 ≤ a.tmod 48 then a.tdiv 48 else a.tdiv 48 - 1) = a / 48 := by
  rcases Int.le_total 0 a with h | h
  · rw [Int.tmod_eq_emod_of_nonneg h, Int.tdiv_eq_ediv_of_nonneg h]
    split <;> omega
  · obtain ⟨b, rfl⟩ : ∃ b, a = -b := ⟨-a, by omega⟩
    have hb : 0 ≤ b := by omega
    rw [Int.neg_tmod, Int.neg_tdiv, Int.tmod_eq_emod_of_nonneg hb, Int.tdiv_eq_ediv_of_nonneg hb]
    split <;> omega
theorem down7 (a : Int) : (if 0 ≤ a.tmod 7 then a.tdiv 7 else a.tdiv 7 - 1) = a / 7 := by
  rcases Int.le_total 0 a with h | h
  · rw [Int.tmod_eq_emod_of_nonneg h, Int.tdiv_eq_ediv_of_nonneg h]
    split <;> omega
  · obtain ⟨b, rfl⟩ : ∃ b, a = -b := ⟨-a, by omega⟩
    have hb : 0 ≤ b := by omega
    rw [Int.neg_tmod, Int.neg_tdiv, Int.tmod_eq_emod_of_nonneg hb, Int.tdiv_eq_ediv_of_nonneg hb]
    split <;> omega
def rDown (a b : Int32) : Int32 := if 0 ≤ a - a / b * b then a / b else a / b - nI 1
theorem c_down {l : Launch} {E : eE} {d bc bs : Nat} {h : aH} {K : Int32 → aH → Prop} {a b : Int32} (S : SH h) (hb : ¬ b = 0) (k : K (rDown a b) h) : CI l E d bc bs mX12_down [.inl a, .inl b] h K := by
  unfold rDown at k
  refine bX12_down_0 S ⟨hb, hb, fun c => ?_, fun c => ?_⟩
  · rw [if_pos c] at k; exact k
  · rw [if_neg c] at k; exact k
/-- the latest change that holds: its number, or -1 -/
def rBest (h : aH) (land t : Int32) : Nat → Int32
  | 0 => -1
  | k + 1 => if hA h 69 k = 0 ∧ hA h 70 k = land ∧ ¬ t < hA h 71 k ∧ (rBest h land t k = -1 ∨ ¬ hA h 71 k < hA h 71 (rBest h land t k).toNatClampNeg) then nI k else rBest h land t k
def rOff (h : aH) (land t : Int32) (n : Nat) : Int32 := if rBest h land t n = -1 then hA h 64 land.toNatClampNeg else hA h 72 (rBest h land t n).toNatClampNeg
theorem rBest_in (h : aH) (land t : Int32) : ∀ n, rBest h land t n = -1 ∨ ∃ j, j < n ∧ rBest h land t n = nI j
  | 0 => Or.inl rfl
  | n + 1 => by
    unfold rBest
    split
    · exact Or.inr ⟨n, Nat.lt_succ_self n, rfl⟩
    · rcases rBest_in h land t n with q | ⟨j, hj, q⟩
      · exact Or.inl q
      · exact Or.inr ⟨j, by omega, q⟩
theorem w_offsetAt {l : Launch} {E : eE} {d bc bs : Nat} {h : aH} {K : Int32 → aH → Prop} {x1 x2 : Int32} {n : Nat} (hn : n ≤ 400) (hl : vp_in x1 8) (S : SH h) (k : K (rOff h x1 x2 n) h) : ∀ (j i : Nat), i + j = n → LX12_offsetAt_6 l E d bc bs x1 x2 (nI n) (rBest h x1 x2 i) (nI i) h K := by
  intro j
  induction j with
  | zero =>
    intro i hi
    have hi : i = n := by omega
    subst hi
    unfold rOff at k
    refine bX12_offsetAt_6 S ⟨fun _ => ⟨fun c => ?_, fun c => ⟨hl, by rw [if_pos c] at k; exact k⟩⟩, fun c => absurd (nI_le (Nat.le_refl i) (by omega)) c⟩
    rw [if_neg c] at k
    rcases rBest_in h x1 x2 i with q | ⟨j, hj, q⟩
    · exact absurd q c
    · exact ⟨by rw [q]; exact vp_in_nI (by omega) (by omega), k⟩
  | succ j ih =>
    intro i hi
    have ih := ih (i + 1) (by omega)
    have hc : (nI i).toNatClampNeg = i := nI_clamp (by omega)
    refine bX12_offsetAt_6 S ⟨fun c => absurd c (nI_ge (by omega) (by omega)), fun _ => ⟨vp_in_nI (by omega) (by omega), ?_⟩⟩
    rw [hc, nI_add]
    unfold rBest at ih
    refine ⟨fun c1 => ?_, fun c1 => ⟨fun c2 => ?_, fun c2 => ⟨fun c3 => ?_, fun c3 => ⟨fun c4 => ?_, fun c4 => ⟨?_, fun c5 => ?_, fun c5 => ?_⟩⟩⟩⟩⟩
    · rw [if_neg (fun q => c1 q.1)] at ih; exact ih
    · rw [if_neg (fun q => c2 q.2.1)] at ih; exact ih
    · rw [if_neg (fun q => q.2.2.1 c3)] at ih; exact ih
    · rw [if_pos ⟨c1, c2, c3, Or.inl c4⟩] at ih; exact ih
    · rcases rBest_in h x1 x2 i with q | ⟨j, hj, q⟩
      · exact absurd q c4
      · rw [q]; exact vp_in_nI (by omega) (by omega)
    · rw [if_neg (fun q => q.2.2.2.elim c4 (fun z => z c5))] at ih; exact ih
    · rw [if_pos ⟨c1, c2, c3, Or.inr c5⟩] at ih; exact ih
theorem c_offsetAt {l : Launch} {E : eE} {d bc bs : Nat} {h : aH} {K : Int32 → aH → Prop} {x1 x2 : Int32} {n : Nat} (S : SH h) (hn : n ≤ 400) (hl : vp_in x1 8) (k : K (rOff h x1 x2 n) h) : CI l E d bc bs mX12_offsetAt [.inr (some (0, 12, 63)), .inl x1, .inl x2, .inl (nI n)] h K :=
  bX12_offsetAt_0 S (w_offsetAt hn hl S k n 0 (by omega))
/-! bits: how many of the first twelve -/
def rBits (x : Int32) : Nat → Int32
  | 0 => nI 0
  | k + 1 => rBits x k + ((x >>> (nI k &&& 31)) &&& nI 1)
theorem w_bits {l : Launch} {E : eE} {d bc bs : Nat} {h : aH} {K : Int32 → aH → Prop} {x : Int32} (S : SH h) (k : K (rBits x 12) h) : ∀ (j i : Nat), i + j = 12 → LX12_bits_4 l E d bc bs x (rBits x i) (nI i) h K := by
  intro j
  induction j with
  | zero =>
    intro i hi
    have hi : i = 12 := by omega
    subst hi
    exact bX12_bits_4 S ⟨fun _ => k, fun c => absurd (nI_le (Nat.le_refl 12) (by omega)) c⟩
  | succ j ih =>
    intro i hi
    have ih := ih (i + 1) (by omega)
    refine bX12_bits_4 S ⟨fun c => absurd c (nI_ge (by omega) (by omega)), fun _ => ?_⟩
    rw [nI_add]
    exact ih
theorem c_bits {l : Launch} {E : eE} {d bc bs : Nat} {h : aH} {K : Int32 → aH → Prop} {x : Int32} (S : SH h) (k : K (rBits x 12) h) : CI l E d bc bs mX12_bits [.inl x] h K := bX12_bits_0 S (w_bits S k 12 0 (by omega))

theorem i32_nn {x : Int32} (h0 : 0 ≤ x.toInt) : x = nI x.toNatClampNeg := by
  obtain ⟨j, hj, e⟩ := nI_of (x := x) (by rw [Int32.lt_iff_toInt_lt, ti_z]; omega)
  rw [e, nI_clamp hj]
theorem i32_clamp {x : Int32} (h0 : 0 ≤ x.toInt) : (x.toNatClampNeg : Int) = x.toInt := by
  obtain ⟨j, hj, e⟩ := nI_of (x := x) (by rw [Int32.lt_iff_toInt_lt, ti_z]; omega)
  rw [e, nI_clamp hj, nI_toInt hj]
theorem vp_of {x : Int32} {n : Nat} (h0 : 0 ≤ x.toInt) (h1 : x.toInt < n) : vp_in x n := vp_in_iff.mpr ⟨h0, h1⟩
/-- an n by which facts are known -/
abbrev knI (x : Int32) : Prop := 0 ≤ x.toInt ∧ x.toInt ≤ 400
theorem c_off {l : Launch} {E : eE} {d bc bs : Nat} {h : aH} {K : Int32 → aH → Prop} {x1 x2 x3 : Int32} (S : SH h) (hn : knI x3) (hl : vp_in x1 8) (k : K (rOff h x1 x2 x3.toNatClampNeg) h) : CI l E d bc bs mX12_offsetAt [.inr (some (0, 12, 63)), .inl x1, .inl x2, .inl x3] h K := by
  have e := i32_nn hn.1
  have e2 := i32_clamp hn.1
  rw [e]
  exact c_offsetAt S (by omega) hl k
