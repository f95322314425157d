/-! ===== Math.floorDiv, floorMod, max, min, abs; the class's leaf methods ===== -/
theorem xor_nn (x : Int32) {y : Int32} (hy : 0 ≤ y.toInt) : 0 ≤ (x ^^^ y) ↔ 0 ≤ x.toInt := by
  rw [Int32.le_iff_toInt_le, ti_z]
  have e1 : (x ^^^ y).toInt = (x.toBitVec ^^^ y.toBitVec).toInt := by rw [← Int32.toBitVec_xor]; rfl
  have m1 : (x.toBitVec ^^^ y.toBitVec).msb = (x.toBitVec.msb ^^ y.toBitVec.msb) := BitVec.msb_xor
  have m2 : y.toBitVec.msb = false := by rw [BitVec.msb_eq_toInt]; have : y.toBitVec.toInt = y.toInt := rfl; rw [this]; simpa using hy
  rw [m2, Bool.xor_false, BitVec.msb_eq_toInt, BitVec.msb_eq_toInt] at m1
  have e2 : x.toBitVec.toInt = x.toInt := rfl
  rw [← e1, e2] at m1
  have := decide_eq_decide.mp m1
  omega
theorem fl48 (a : Int) : (0 ≤ a → a.tdiv 48 = a / 48 ∧ a.tmod 48 = a % 48) ∧ (a < 0 → (a.tmod 48 = 0 → a.tdiv 48 = a / 48 ∧ a % 48 = 0) ∧ (¬ a.tmod 48 = 0 → a.tdiv 48 - 1 = a / 48 ∧ a.tmod 48 + 48 = a % 48)) := by
  refine ⟨fun h => ⟨Int.tdiv_eq_ediv_of_nonneg h, Int.tmod_eq_emod_of_nonneg h⟩, fun h => ?_⟩
  obtain ⟨b, rfl⟩ : ∃ b, a = -b := ⟨-a, by omega⟩
  have hb : 0 ≤ b := by omega
  rw [Int.neg_tmod, Int.neg_tdiv, Int.tmod_eq_emod_of_nonneg hb, Int.tdiv_eq_ediv_of_nonneg hb]
  omega
theorem fl7 (a : Int) : (0 ≤ a → a.tdiv 7 = a / 7 ∧ a.tmod 7 = a % 7) ∧ (a < 0 → (a.tmod 7 = 0 → a.tdiv 7 = a / 7 ∧ a % 7 = 0) ∧ (¬ a.tmod 7 = 0 → a.tdiv 7 - 1 = a / 7 ∧ a.tmod 7 + 7 = a % 7)) := by
  refine ⟨fun h => ⟨Int.tdiv_eq_ediv_of_nonneg h, Int.tmod_eq_emod_of_nonneg h⟩, fun h => ?_⟩
  obtain ⟨b, rfl⟩ : ∃ b, a = -b := ⟨-a, by omega⟩
  have hb : 0 ≤ b := by omega
  rw [Int.neg_tmod, Int.neg_tdiv, Int.tmod_eq_emod_of_nonneg hb, Int.tdiv_eq_ediv_of_nonneg hb]
  omega
theorem i_sub0 {x z : Int32} (h : x - z = 0) : x = z := by
  have := Int32.sub_add_cancel x z
  rw [h, Int32.zero_add] at this
  exact this.symm
theorem c_fdiv48 {l : Launch} {E : eE} {d bc bs : Nat} {h : aH} {K : Int32 → aH → Prop} {x : Int32} (S : SH h) (k : K (rDown x (nI 48)) h) : CI l E d bc bs mJ9_floorDiv_7cf53 [.inl x, .inl (nI 48)] h K := by
  have h1 : (x / nI 48).toInt = x.toInt.tdiv 48 := by rw [Int32.toInt_div_of_ne_right _ _ (by decide), ti_48]
  have h2 : (x - x / nI 48 * nI 48).toInt = x.toInt.tmod 48 := by rw [rem_toInt, ti_48]
  have hf := fl48 x.toInt
  have hr := fb_rng' x
  have fin : ∀ v : Int32, v.toInt = x.toInt / 48 → K v h := fun v e => by
    have : v = rDown x (nI 48) := Int32.toInt_inj.mp (by rw [e, rDown48])
    rw [this]; exact k
  refine bJ9_floorDiv_7cf53_0 S ⟨by decide, fun c => fin _ ?_, fun c => ⟨fun c2 => fin _ ?_, fun c2 => fin _ ?_⟩⟩
  · rw [xor_nn x (by decide)] at c
    rw [h1]; exact (hf.1 c).1
  · rw [xor_nn x (by decide)] at c
    rw [c2, Int32.sub_self, ti_z] at h2
    rw [h1]; exact ((hf.2 (by omega)).1 h2.symm).1
  · rw [xor_nn x (by decide)] at c
    have h3 : ¬ x.toInt.tmod 48 = 0 := fun q => c2 (i_sub0 (Int32.toInt_inj.mp (by rw [h2, q, ti_z]))).symm
    have := ((hf.2 (by omega)).2 h3).1
    rw [i_sub (by rw [h1, ti_1]; omega) (by rw [h1, ti_1]; omega), h1, ti_1]; exact this
theorem c_fmod48 {l : Launch} {E : eE} {d bc bs : Nat} {h : aH} {K : Int32 → aH → Prop} {x : Int32} (S : SH h) (hx : -1000000 ≤ x.toInt ∧ x.toInt ≤ 1000000) (k : K (x - nI 48 * rDown x (nI 48)) h) : CI l E d bc bs mJ9_floorMod_7cf53 [.inl x, .inl (nI 48)] h K := by
  have h2 : (x - x / nI 48 * nI 48).toInt = x.toInt.tmod 48 := by rw [rem_toInt, ti_48]
  have hf := fl48 x.toInt
  have fin : ∀ v : Int32, v.toInt = x.toInt % 48 → K v h := fun v e => by
    have : v = x - nI 48 * rDown x (nI 48) := Int32.toInt_inj.mp (by rw [e, rMod48 hx.1 hx.2])
    rw [this]; exact k
  refine bJ9_floorMod_7cf53_0 S ⟨by decide, fun c => fin _ ?_, fun c => ⟨fun c2 => fin _ ?_, fun c2 => fin _ ?_⟩⟩
  · rw [xor_nn x (by decide)] at c
    rw [h2]; exact (hf.1 c).2
  · rw [xor_nn x (by decide)] at c
    rw [c2, ti_z] at h2
    rw [c2, ti_z]; exact ((hf.2 (by omega)).1 h2.symm).2.symm
  · rw [xor_nn x (by decide)] at c
    have h3 : ¬ x.toInt.tmod 48 = 0 := fun q => c2 (Int32.toInt_inj.mp (by rw [h2, q, ti_z]))
    have := ((hf.2 (by omega)).2 h3).2
    rw [i_add (by rw [h2, ti_48]; omega) (by rw [h2, ti_48]; omega), h2, ti_48]; exact this
theorem c_fmod7 {l : Launch} {E : eE} {d bc bs : Nat} {h : aH} {K : Int32 → aH → Prop} {x : Int32} (S : SH h) (hx : -1000000 ≤ x.toInt ∧ x.toInt ≤ 1000000) (k : K (x - nI 7 * rDown x (nI 7)) h) : CI l E d bc bs mJ9_floorMod_7cf53 [.inl x, .inl (nI 7)] h K := by
  have h2 : (x - x / nI 7 * nI 7).toInt = x.toInt.tmod 7 := by rw [rem_toInt, ti_7]
  have hf := fl7 x.toInt
  have fin : ∀ v : Int32, v.toInt = x.toInt % 7 → K v h := fun v e => by
    have : v = x - nI 7 * rDown x (nI 7) := Int32.toInt_inj.mp (by rw [e, rMod7 hx.1 hx.2])
    rw [this]; exact k
  refine bJ9_floorMod_7cf53_0 S ⟨by decide, fun c => fin _ ?_, fun c => ⟨fun c2 => fin _ ?_, fun c2 => fin _ ?_⟩⟩
  · rw [xor_nn x (by decide)] at c
    rw [h2]; exact (hf.1 c).2
  · rw [xor_nn x (by decide)] at c
    rw [c2, ti_z] at h2
    rw [c2, ti_z]; exact ((hf.2 (by omega)).1 h2.symm).2.symm
  · rw [xor_nn x (by decide)] at c
    have h3 : ¬ x.toInt.tmod 7 = 0 := fun q => c2 (Int32.toInt_inj.mp (by rw [h2, q, ti_z]))
    have := ((hf.2 (by omega)).2 h3).2
    rw [i_add (by rw [h2, ti_7]; omega) (by rw [h2, ti_7]; omega), h2, ti_7]; exact this
