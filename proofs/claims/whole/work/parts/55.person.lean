/-! ===== person: both sides ===== -/
abbrev rPersOK (h : aH) (x1 x2 : Int32) : Prop := ¬ hI h 63 3 = nI 12 ∧ inI x1 (hI h 63 1) ∧ 0 ≤ x2.toInt ∧ x2.toInt ≤ 127
def rPersH (h : aH) (x1 x2 : Int32) : aH := stI (stA (stA (stA h 65 (hI h 63 3).toNatClampNeg x1) 66 (hI h 63 3).toNatClampNeg x2) 67 (hI h 63 3).toNatClampNeg (-1)) 63 3 (hI h 63 3 + nI 1)
theorem c_person {l : Launch} {E : eE} {d bc bs : Nat} {h : aH} {K : Int32 → aH → Prop} {x1 x2 : Int32} (S : SR h) (hd : 1 ≤ d) (k1 : rPersOK h x1 x2 → K (hI h 63 3) (rPersH h x1 x2)) (k0 : ¬ rPersOK h x1 x2 → K (-1) h) : CI l E d bc bs mX12_person [.inr (some (0, 12, 63)), .inl x1, .inl x2] h K := by
  obtain ⟨d, rfl⟩ : ∃ d', d = d' + 1 := ⟨d - 1, by omega⟩
  have hN := S.2.1
  unfold RIn at hN
  refine bX12_person_0 S ⟨fun c => k0 (fun q => q.1 c), fun c => ⟨fun c1 => k0 (fun q => c1 q.2.1), fun c1 => ⟨fun c2 => k0 ?_, fun c2 => ⟨fun c3 => ⟨?_, ?_⟩, fun c3 => k0 ?_⟩⟩⟩⟩
  · simp only [Int32.lt_iff_toInt_lt, Int32.le_iff_toInt_le, ti_z, ti_m1, ti_m24, ti_0, ti_1, ti_2, ti_3, ti_4, ti_5, ti_6, ti_7, ti_8, ti_11, ti_12, ti_15, ti_24, ti_28, ti_31, ti_47, ti_48, ti_52, ti_90, ti_100, ti_127, ti_336, ti_363, ti_364, ti_400, ti_416, ti_576, ti_17471, ti_17472] at c2; intro q; omega
  · have := cnt1 (n := 12) (by decide) hN.2.1 c
    exact vp_of (by omega) (by omega)
  · simp only [Int32.lt_iff_toInt_lt, Int32.le_iff_toInt_le, ti_z, ti_m1, ti_m24, ti_0, ti_1, ti_2, ti_3, ti_4, ti_5, ti_6, ti_7, ti_8, ti_11, ti_12, ti_15, ti_24, ti_28, ti_31, ti_47, ti_48, ti_52, ti_90, ti_100, ti_127, ti_336, ti_363, ti_364, ti_400, ti_416, ti_576, ti_17471, ti_17472] at c2 c3
    rw [add_sub1]
    exact k1 ⟨c, c1, by omega⟩
  · simp only [Int32.lt_iff_toInt_lt, Int32.le_iff_toInt_le, ti_z, ti_m1, ti_m24, ti_0, ti_1, ti_2, ti_3, ti_4, ti_5, ti_6, ti_7, ti_8, ti_11, ti_12, ti_15, ti_24, ti_28, ti_31, ti_47, ti_48, ti_52, ti_90, ti_100, ti_127, ti_336, ti_363, ti_364, ti_400, ti_416, ti_576, ti_17471, ti_17472] at c3; intro q; omega
/-- reading the reference behind person -/
theorem rP_at {h : aH} {x1 x2 : Int32} (p : Nat) : hA (rPersH h x1 x2) 65 p = (if p = (hI h 63 3).toNatClampNeg then x1 else hA h 65 p) ∧ hA (rPersH h x1 x2) 66 p = (if p = (hI h 63 3).toNatClampNeg then x2 else hA h 66 p) ∧ hA (rPersH h x1 x2) 67 p = (if p = (hI h 63 3).toNatClampNeg then -1 else hA h 67 p) := by
  refine ⟨?_, ?_, ?_⟩
  · show (if (65 : Nat) = 65 ∧ p = (hI h 63 3).toNatClampNeg then x1 else hA h 65 p) = _; simp
  · show (if (66 : Nat) = 66 ∧ p = (hI h 63 3).toNatClampNeg then x2 else hA h 66 p) = _; simp
  · show (if (67 : Nat) = 67 ∧ p = (hI h 63 3).toNatClampNeg then -1 else hA h 67 p) = _; simp
theorem RSe.more {h g : aH} {s : Nat} (e3 : (hI h 63 3).toInt ≤ (hI g 63 3).toInt) (a1 : hA g 74 = hA h 74) (a2 : hA g 75 = hA h 75) (a3 : hA g 76 = hA h 76) (a4 : hA g 77 = hA h 77) (a5 : hA g 78 = hA h 78) (r : RSe h s) : RSe g s := by
  unfold RSe inI at r ⊢
  rw [a1, a2, a3, a4, a5]
  obtain ⟨r1, r2, r3, r4⟩ := r
  exact ⟨r1, r2, r3.imp id (fun z => ⟨z.1, by omega⟩), r4⟩
theorem RI.person {h : aH} {x1 x2 : Int32} (S : RI h) (ok : rPersOK h x1 x2) : RI (rPersH h x1 x2) := by
  obtain ⟨hN, hL, hP, hC, hF, hS1, hS2, hS3, hS4⟩ := S
  unfold RIn at hN
  obtain ⟨c1, c2⟩ := cnt1 (n := 12) (by decide) hN.2.1 ok.1
  have e := i32_clamp hN.2.1.1
  have f3 : hI (rPersH h x1 x2) 63 3 = hI h 63 3 + nI 1 := rfl
  refine ⟨⟨hN.1, by rw [f3, c2]; omega, hN.2.2⟩, hL, fun p hp => ?_, hC, fun k hk => ?_, fun s hs => ?_, hS2, fun s p hs hp => ?_, hS4⟩
  · rw [f3, c2] at hp
    obtain ⟨a1, a2, a3⟩ := rP_at (h := h) (x1 := x1) (x2 := x2) p
    rw [a1, a2, a3]
    by_cases g : p = (hI h 63 3).toNatClampNeg
    · rw [if_pos g, if_pos g, if_pos g]
      exact ⟨ok.2.1, ok.2.2, Or.inl rfl⟩
    · rw [if_neg g, if_neg g, if_neg g]
      exact hP p (by omega)
  · obtain ⟨q1, q2⟩ := hF k hk
    exact ⟨RF.more (h := h) (Int.le_refl _) (by rw [f3, c2]; omega) (Int.le_refl _) rfl rfl rfl rfl q1, q2⟩
  · exact RSe.more (h := h) (by rw [f3, c2]; omega) rfl rfl rfl rfl rfl (hS1 s hs)
  · obtain ⟨q1, q2, q3⟩ := hS3 s p hs hp
    refine ⟨q1, q2, fun w => q3 (fun z => w ⟨z.1, ?_⟩)⟩
    rw [f3, c2]
    omega
