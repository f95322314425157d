/-! ===== the reference: within the weeks, meeting ===== -/
theorem i_lt_n {x y : Int32} (c : x < y) : ¬ y ≤ x := fun q => by
  rw [Int32.lt_iff_toInt_lt] at c
  rw [Int32.le_iff_toInt_le] at q
  omega
theorem i_nle {x y : Int32} (c : ¬ y ≤ x) : x < y := by
  rw [Int32.lt_iff_toInt_lt]
  rw [Int32.le_iff_toInt_le] at c
  omega
theorem i_nlt {x y : Int32} (c : ¬ x < y) : y ≤ x := by
  rw [Int32.le_iff_toInt_le]
  rw [Int32.lt_iff_toInt_lt] at c
  omega
theorem c_isInO {l : Launch} {E : eE} {d bc bs : Nat} {h : aH} {K : Int32 → aH → Prop} {s i : Int32} (S : SH h) (hd : 1 ≤ d) (hs : vp_in s 4 ∧ vp_in i 6) (k : K (bI (rSlot h s i + hA h 74 s.toNatClampNeg ≤ nI 17472)) h) : CI l E d bc bs mX12_isIn [.inr (some (0, 12, 63)), .inl s, .inl i] h K := by
  obtain ⟨d, rfl⟩ : ∃ d', d = d' + 1 := ⟨d - 1, by omega⟩
  exact bX12_isIn_0 S ⟨hs, hs.1, fun c => kF k (i_lt_n c), fun c => kT k (i_nlt c)⟩
abbrev rMeet (h : aH) (s i r j : Int32) : Prop := rSlot h s i < rSlot h r j + hA h 74 r.toNatClampNeg ∧ rSlot h r j < rSlot h s i + hA h 74 s.toNatClampNeg
theorem c_meet {l : Launch} {E : eE} {d bc bs : Nat} {h : aH} {K : Int32 → aH → Prop} {s i r j : Int32} (S : SH h) (hd : 1 ≤ d) (hs : (vp_in s 4 ∧ vp_in i 6) ∧ vp_in r 4 ∧ vp_in j 6) (k : K (bI (rMeet h s i r j)) h) : CI l E d bc bs mX12_meet [.inr (some (0, 12, 63)), .inl s, .inl i, .inl r, .inl j] h K := by
  obtain ⟨d, rfl⟩ : ∃ d', d = d' + 1 := ⟨d - 1, by omega⟩
  exact bX12_meet_0 S ⟨hs.1, hs.2, hs.2.1, fun c => kF k (fun q => i_lt_n q.1 c), fun c => ⟨hs.1.1, fun c1 => kF k (fun q => i_lt_n q.2 c1), fun c1 => kT k ⟨i_nle c, i_nle c1⟩⟩⟩
