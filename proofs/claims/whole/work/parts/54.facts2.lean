theorem fact_tail {l : Launch} {E : eE} {d : Nat} {h : aH} {K : Int32 → aH → Prop} {ow fk : Nat} {a b c : Int32} (R : SH h) (hd : 1 ≤ d) (hn : 99 ≤ hN h) (ho : 99 ≤ ow ∧ ow < hN h) (hc : c = nI 0 ∨ c = nI 1) (k : K (hI h 0 11) (kFactH h ow fk a b c)) :
    SH (stN h (0, 3)) ∧ CV l E d 0 0 mX3_init [.inr (some (0, 3, hN h)), .inl (hI (stN h (0, 3)) 0 11), .inl a, .inl b, .inl c, .inr (hR (stN h (0, 3)) ow fk)] (stN h (0, 3)) (fun h10 => SH h10 ∧ (SH (stR h10 ow fk (some (0, 3, hN h))) ∧ K (hI h10 0 11) (stI (stR h10 ow fk (some (0, 3, hN h))) 0 11 (hI h10 0 11 + nI 1)))) := by
  obtain ⟨d, rfl⟩ : ∃ d', d = d' + 1 := ⟨d - 1, by omega⟩
  have s1 := R.stN (t := (0, 3)) hn
  have e1 : hI (stN h (0, 3)) 0 11 = hI h 0 11 := by
    show up1 (hI h) (hN h) (fun _ => 0) 0 11 = _
    rw [up1_ne (by omega)]
  have e2 : hR (stN h (0, 3)) ow fk = hR h ow fk := by
    show up1 (hR h) (hN h) (fun _ => none) ow fk = _
    rw [up1_ne (by omega)]
  rw [e1, e2]
  have s2 : SH (stR (stI (stI (stI (stI (stN h (0, 3)) (hN h) 0 (hI h 0 11)) (hN h) 1 a) (hN h) 2 b) (hN h) 3 c) (hN h) 4 (hR h ow fk)) := SH.stR (h := stI (stI (stI (stI (stN h (0, 3)) (hN h) 0 (hI h 0 11)) (hN h) 1 a) (hN h) 2 b) (hN h) 3 c) s1 hn
  have e3 : hI (stR (stI (stI (stI (stI (stN h (0, 3)) (hN h) 0 (hI h 0 11)) (hN h) 1 a) (hN h) 2 b) (hN h) 3 c) (hN h) 4 (hR h ow fk)) 0 11 = hI h 0 11 := by
    show up2 (up2 (up2 (up2 (up1 (hI h) (hN h) (fun _ => 0)) (hN h) 0 (hI h 0 11)) (hN h) 1 a) (hN h) 2 b) (hN h) 3 c 0 11 = _
    rw [up2_ne (by omega), up2_ne (by omega), up2_ne (by omega), up2_ne (by omega), up1_ne (by omega)]
  refine ⟨s1, bX3_init_0 s1 ⟨hc, s2, s2, s2.stR ho.1, ?_⟩⟩
  rw [e3]
  exact k
theorem sh_kf {h : aH} {ow fk : Nat} {a b c : Int32} (R : SH h) (hn : 99 ≤ hN h) (ho : 99 ≤ ow) : SH (kFactH h ow fk a b c) := by
  have s1 := R.stN (t := (0, 3)) hn
  have s2 : SH (stR (stI (stI (stI (stI (stN h (0, 3)) (hN h) 0 (hI h 0 11)) (hN h) 1 a) (hN h) 2 b) (hN h) 3 c) (hN h) 4 (hR h ow fk)) := SH.stR (h := stI (stI (stI (stI (stN h (0, 3)) (hN h) 0 (hI h 0 11)) (hN h) 1 a) (hN h) 2 b) (hN h) 3 c) s1 hn
  exact s2.stR ho
theorem nI_inj {i j : Nat} (hi : i < 2 ^ 31) (hj : j < 2 ^ 31) (e : nI i = nI j) : i = j := (nI_eq hi hj).mp e
theorem ref_inj {c o o' : Nat} (e : (some (0, c, o) : aR) = some (0, c, o')) : o = o' := by cases e; rfl
/-! change -/
abbrev rChangeOK (h : aH) (x1 x2 x3 : Int32) : Prop := ¬ hI h 63 8 = nI 400 ∧ inI x1 (hI h 63 1) ∧ (0 ≤ x2.toInt ∧ x2.toInt < 17472) ∧ -24 ≤ x3.toInt ∧ x3.toInt ≤ 28
theorem c_change {l : Launch} {E : eE} {d bc bs : Nat} {h : aH} {K : Int32 → aH → Prop} {x1 x2 x3 : Int32} (S : SR h) (hd : 1 ≤ d) (k1 : rChangeOK h x1 x2 x3 → K (hI h 63 8) (rFact h (nI 0) x1 x2 x3 (nI 0))) (k0 : ¬ rChangeOK h x1 x2 x3 → K (-1) h) : CI l E d bc bs mX12_change [.inr (some (0, 12, 63)), .inl x1, .inl x2, .inl x3] h K := by
  obtain ⟨d, rfl⟩ : ∃ d', d = d' + 1 := ⟨d - 1, by omega⟩
  have hN := S.2.1
  unfold RIn at hN
  refine bX12_change_0 S ⟨fun c => k0 (fun q => q.1 c), fun c => ⟨fun c1 => k0 (fun q => c1 q.2.1), fun c1 => ⟨fun c2 => k0 ?_, fun c2 => ⟨fun c3 => k0 ?_, fun c3 => ⟨fun c4 => ⟨?_, k1 ⟨c, c1, ?_, c4⟩⟩, fun c4 => k0 (fun q => c4 q.2.2.2)⟩⟩⟩⟩⟩
  · simp only [Int32.lt_iff_toInt_lt, Int32.le_iff_toInt_le, ti_z, ti_m1, ti_m24, ti_0, ti_1, ti_2, ti_3, ti_4, ti_5, ti_6, ti_7, ti_8, ti_11, ti_12, ti_15, ti_24, ti_28, ti_31, ti_47, ti_48, ti_52, ti_90, ti_100, ti_127, ti_336, ti_363, ti_364, ti_400, ti_416, ti_576, ti_17471, ti_17472] at c2; intro q; omega
  · simp only [Int32.lt_iff_toInt_lt, Int32.le_iff_toInt_le, ti_z, ti_m1, ti_m24, ti_0, ti_1, ti_2, ti_3, ti_4, ti_5, ti_6, ti_7, ti_8, ti_11, ti_12, ti_15, ti_24, ti_28, ti_31, ti_47, ti_48, ti_52, ti_90, ti_100, ti_127, ti_336, ti_363, ti_364, ti_400, ti_416, ti_576, ti_17471, ti_17472] at c3; intro q; omega
  · have := cnt1 (n := 400) (by decide) hN.2.2.1 c
    exact vp_of (by omega) (by omega)
  · simp only [Int32.lt_iff_toInt_lt, Int32.le_iff_toInt_le, ti_z, ti_m1, ti_m24, ti_0, ti_1, ti_2, ti_3, ti_4, ti_5, ti_6, ti_7, ti_8, ti_11, ti_12, ti_15, ti_24, ti_28, ti_31, ti_47, ti_48, ti_52, ti_90, ti_100, ti_127, ti_336, ti_363, ti_364, ti_400, ti_416, ti_576, ti_17471, ti_17472] at c2 c3; omega
theorem k_change {l : Launch} {E : eE} {d bc bs : Nat} {h : aH} {K : Int32 → aH → Prop} {x1 x2 x3 : Int32} (S : SK h) (hd : 2 ≤ d) (hn : 99 ≤ hN h) (k1 : rChangeOK h x1 x2 x3 → ∀ i o : Nat, x1 = nI i → (i : Int) < (hI h 63 1).toInt → LdAt h i o → K (hI h 63 8) (kFactH h o 1 x2 x3 (nI 0))) (k0 : ¬ rChangeOK h x1 x2 x3 → K (-1) h) : CI l E d (bc + 1) (bs + 5) mX11_change [.inr (some (0, 11, 0)), .inl x1, .inl x2, .inl x3] h K := by
  obtain ⟨d, rfl⟩ : ∃ d', d = d' + 1 := ⟨d - 1, by omega⟩
  have hNn := S.n
  unfold RIn at hNn
  have e11 := S.2.1.2.2.1
  have R := S.1.1
  have h400 : nI 400 ≤ hI h 0 11 → ¬ ¬ hI h 63 8 = nI 400 := fun c q => by
    rw [e11, Int32.le_iff_toInt_le, ti_400] at c
    exact q (i32_eq (by decide) (by omega))
  refine bX11_change_0 R (k_landAt S (fun c => ⟨R, fun c1 => k0 (fun q => h400 c1 q.1), fun c1 => ⟨fun _ => k0 (fun q => c q.2.1), fun _ e => by cases e⟩⟩) (fun i o e hi hl => ⟨R, fun c1 => k0 (fun q => h400 c1 q.1), fun c1 => ⟨fun e => (by cases e), fun _ _ => k_isSlot R ⟨R, fun c2 => k0 ?_, fun c2 => k_isOffset R ⟨R, fun c3 => ⟨o, rfl, ?_⟩, fun c3 => k0 ?_⟩⟩⟩⟩))
  · rw [bI0] at c2; exact fun q => c2 q.2.2.1
  · rw [bI1] at c2 c3
    have ok : rChangeOK h x1 x2 x3 := ⟨fun q => c1 (by rw [e11, q]; exact Int32.le_refl _), by rw [e]; exact ⟨by rw [nI_toInt (by omega)]; omega, by rw [nI_toInt (by omega)]; exact hi⟩, c2, c3⟩
    have kk := k1 ok i o e hi hl
    rw [← e11] at kk
    exact fact_tail R (by omega) hn ⟨hl.2.2.2.2.1, hl.2.2.2.2.2.1⟩ (Or.inl rfl) kk
  · rw [bI0] at c3; exact fun q => c3 q.2.2.2
theorem SK2.change {h : aH} {x1 x2 x3 : Int32} {i o : Nat} (S : SK h) (D : CLd h h) (hn : 99 ≤ hN h) (ok : rChangeOK h x1 x2 x3) (e : x1 = nI i) (hi : (i : Int) < (hI h 63 1).toInt) (hl : LdAt h i o) : RI (rFact h (nI 0) x1 x2 x3 (nI 0)) ∧ SH (kFactH h o 1 x2 x3 (nI 0)) ∧ RE h (kFactH h o 1 x2 x3 (nI 0)) ∧ SK2 (kFactH h o 1 x2 x3 (nI 0)) (rFact h (nI 0) x1 x2 x3 (nI 0)) ∧ exH h (kFactH h o 1 x2 x3 (nI 0)) := by
  have hNn := S.n
  unfold RIn at hNn
  have g := hl.2.2.2.2
  obtain ⟨z1, z2, z3, z4, z5⟩ := rF_at (h := h) (x1 := nI 0) (x2 := x1) (x3 := x2) (x4 := x3) (x5 := nI 0) (nF h)
  rw [if_pos rfl] at z1 z2 z3 z4 z5
  refine ⟨RI.fact S.1.2 ok.1 (Or.inl ⟨z1, by rw [z2]; exact ok.2.1, by rw [z3]; exact ok.2.2.1, by rw [z4]; exact ok.2.2.2⟩) (Or.inl rfl), ?_, SK2.fact S hn ok.1 ⟨g.1, g.2.1⟩ (by rw [g.2.2]; decide) rfl (fun j q hj hq => ⟨fun w => ⟨?_, rfl⟩, fun w => ⟨rfl, ?_⟩⟩) (fun j q hj hq => ⟨fun w => absurd w.1 (by decide), fun w => absurd w.2 (by decide)⟩) (fun p q a hj hq => ⟨fun w => absurd w.1 (by decide), fun w => absurd w.2 (by decide)⟩) (fun j q hj hq w => Or.inl rfl) (fun p q a hj hq w => ?_) (fun _ => ⟨rfl, rfl⟩) (fun w => absurd w (by decide)) (fun w => absurd w (by decide))⟩
  · exact sh_kf S.1.1 hn g.1
  · have : i = j := nI_inj (by omega) (by omega) (e.symm.trans w.2)
    subst this
    exact ref_inj (hq.1.symm.trans hl.1)
  · have : j = i := D.1 j i hj hi (by rw [hq.1, hl.1, w.1])
    rw [this]; exact e
  · exfalso
    have q6 := hq.2.2.2.2.2.2.2.1.2.2
    rw [w, g.2.2] at q6
    cases q6
/-! feast -/
abbrev rFeastOK (h : aH) (x1 x2 : Int32) : Prop := ¬ hI h 63 8 = nI 400 ∧ inI x1 (hI h 63 1) ∧ 0 ≤ x2.toInt ∧ x2.toInt ≤ 363
theorem c_feast {l : Launch} {E : eE} {d bc bs : Nat} {h : aH} {K : Int32 → aH → Prop} {x1 x2 : Int32} (S : SR h) (hd : 1 ≤ d) (k1 : rFeastOK h x1 x2 → K (hI h 63 8) (rFact h (nI 1) x1 x2 (nI 0) (nI 0))) (k0 : ¬ rFeastOK h x1 x2 → K (-1) h) : CI l E d bc bs mX12_feast [.inr (some (0, 12, 63)), .inl x1, .inl x2] h K := by
  obtain ⟨d, rfl⟩ : ∃ d', d = d' + 1 := ⟨d - 1, by omega⟩
  have hN := S.2.1
  unfold RIn at hN
  refine bX12_feast_0 S ⟨fun c => k0 (fun q => q.1 c), fun c => ⟨fun c1 => k0 (fun q => c1 q.2.1), fun c1 => ⟨fun c2 => k0 ?_, fun c2 => ⟨fun c3 => ⟨?_, k1 ⟨c, c1, ?_⟩⟩, fun c3 => k0 ?_⟩⟩⟩⟩
  · simp only [Int32.lt_iff_toInt_lt, Int32.le_iff_toInt_le, ti_z, ti_m1, ti_m24, ti_0, ti_1, ti_2, ti_3, ti_4, ti_5, ti_6, ti_7, ti_8, ti_11, ti_12, ti_15, ti_24, ti_28, ti_31, ti_47, ti_48, ti_52, ti_90, ti_100, ti_127, ti_336, ti_363, ti_364, ti_400, ti_416, ti_576, ti_17471, ti_17472] at c2; intro q; omega
  · have := cnt1 (n := 400) (by decide) hN.2.2.1 c
    exact vp_of (by omega) (by omega)
  · simp only [Int32.lt_iff_toInt_lt, Int32.le_iff_toInt_le, ti_z, ti_m1, ti_m24, ti_0, ti_1, ti_2, ti_3, ti_4, ti_5, ti_6, ti_7, ti_8, ti_11, ti_12, ti_15, ti_24, ti_28, ti_31, ti_47, ti_48, ti_52, ti_90, ti_100, ti_127, ti_336, ti_363, ti_364, ti_400, ti_416, ti_576, ti_17471, ti_17472] at c2 c3; omega
  · simp only [Int32.lt_iff_toInt_lt, Int32.le_iff_toInt_le, ti_z, ti_m1, ti_m24, ti_0, ti_1, ti_2, ti_3, ti_4, ti_5, ti_6, ti_7, ti_8, ti_11, ti_12, ti_15, ti_24, ti_28, ti_31, ti_47, ti_48, ti_52, ti_90, ti_100, ti_127, ti_336, ti_363, ti_364, ti_400, ti_416, ti_576, ti_17471, ti_17472] at c3; intro q; omega
theorem k_feast {l : Launch} {E : eE} {d bc bs : Nat} {h : aH} {K : Int32 → aH → Prop} {x1 x2 : Int32} (S : SK h) (hd : 2 ≤ d) (hn : 99 ≤ hN h) (k1 : rFeastOK h x1 x2 → ∀ i o : Nat, x1 = nI i → (i : Int) < (hI h 63 1).toInt → LdAt h i o → K (hI h 63 8) (kFactH h o 2 x2 x2 (nI 0))) (k0 : ¬ rFeastOK h x1 x2 → K (-1) h) : CI l E d (bc + 1) (bs + 5) mX11_feast [.inr (some (0, 11, 0)), .inl x1, .inl x2] h K := by
  obtain ⟨d, rfl⟩ : ∃ d', d = d' + 1 := ⟨d - 1, by omega⟩
  have hNn := S.n
  unfold RIn at hNn
  have e11 := S.2.1.2.2.1
  have R := S.1.1
  have h400 : nI 400 ≤ hI h 0 11 → ¬ ¬ hI h 63 8 = nI 400 := fun c q => by
    rw [e11, Int32.le_iff_toInt_le, ti_400] at c
    exact q (i32_eq (by decide) (by omega))
  refine bX11_feast_0 R (k_landAt S (fun c => ⟨R, fun c1 => k0 (fun q => h400 c1 q.1), fun c1 => ⟨fun _ => k0 (fun q => c q.2.1), fun _ e => by cases e⟩⟩) (fun i o e hi hl => ⟨R, fun c1 => k0 (fun q => h400 c1 q.1), fun c1 => ⟨fun e => (by cases e), fun _ _ => ⟨fun c2 => k0 ?_, fun c2 => ⟨fun c3 => ⟨o, rfl, ?_⟩, fun c3 => k0 ?_⟩⟩⟩⟩))
  · simp only [Int32.lt_iff_toInt_lt, Int32.le_iff_toInt_le, ti_z, ti_m1, ti_m24, ti_0, ti_1, ti_2, ti_3, ti_4, ti_5, ti_6, ti_7, ti_8, ti_11, ti_12, ti_15, ti_24, ti_28, ti_31, ti_47, ti_48, ti_52, ti_90, ti_100, ti_127, ti_336, ti_363, ti_364, ti_400, ti_416, ti_576, ti_17471, ti_17472] at c2; intro q; omega
  · simp only [Int32.lt_iff_toInt_lt, Int32.le_iff_toInt_le, ti_z, ti_m1, ti_m24, ti_0, ti_1, ti_2, ti_3, ti_4, ti_5, ti_6, ti_7, ti_8, ti_11, ti_12, ti_15, ti_24, ti_28, ti_31, ti_47, ti_48, ti_52, ti_90, ti_100, ti_127, ti_336, ti_363, ti_364, ti_400, ti_416, ti_576, ti_17471, ti_17472] at c2 c3
    have ok : rFeastOK h x1 x2 := ⟨fun q => c1 (by rw [e11, q]; exact Int32.le_refl _), by rw [e]; exact ⟨by rw [nI_toInt (by omega)]; omega, by rw [nI_toInt (by omega)]; exact hi⟩, by omega⟩
    have kk := k1 ok i o e hi hl
    rw [← e11] at kk
    exact fact_tail R (by omega) hn ⟨hl.2.2.2.2.1, hl.2.2.2.2.2.1⟩ (Or.inl rfl) kk
  · simp only [Int32.lt_iff_toInt_lt, Int32.le_iff_toInt_le, ti_z, ti_m1, ti_m24, ti_0, ti_1, ti_2, ti_3, ti_4, ti_5, ti_6, ti_7, ti_8, ti_11, ti_12, ti_15, ti_24, ti_28, ti_31, ti_47, ti_48, ti_52, ti_90, ti_100, ti_127, ti_336, ti_363, ti_364, ti_400, ti_416, ti_576, ti_17471, ti_17472] at c3; intro q; omega
theorem SK2.feast {h : aH} {x1 x2 : Int32} {i o : Nat} (S : SK h) (D : CLd h h) (hn : 99 ≤ hN h) (ok : rFeastOK h x1 x2) (e : x1 = nI i) (hi : (i : Int) < (hI h 63 1).toInt) (hl : LdAt h i o) : RI (rFact h (nI 1) x1 x2 (nI 0) (nI 0)) ∧ SH (kFactH h o 2 x2 x2 (nI 0)) ∧ RE h (kFactH h o 2 x2 x2 (nI 0)) ∧ SK2 (kFactH h o 2 x2 x2 (nI 0)) (rFact h (nI 1) x1 x2 (nI 0) (nI 0)) ∧ exH h (kFactH h o 2 x2 x2 (nI 0)) := by
  have hNn := S.n
  unfold RIn at hNn
  have g := hl.2.2.2.2
  obtain ⟨z1, z2, z3, z4, z5⟩ := rF_at (h := h) (x1 := nI 1) (x2 := x1) (x3 := x2) (x4 := nI 0) (x5 := nI 0) (nF h)
  rw [if_pos rfl] at z1 z2 z3 z4 z5
  refine ⟨RI.fact S.1.2 ok.1 (Or.inr (Or.inl ⟨z1, by rw [z2]; exact ok.2.1, by rw [z3]; exact ok.2.2⟩)) (Or.inl rfl), sh_kf S.1.1 hn g.1, SK2.fact S hn ok.1 ⟨g.1, g.2.1⟩ (by rw [g.2.2]; decide) rfl (fun j q hj hq => ⟨fun w => absurd w.1 (by decide), fun w => absurd w.2 (by decide)⟩) (fun j q hj hq => ⟨fun w => ⟨?_, rfl⟩, fun w => ⟨rfl, ?_⟩⟩) (fun p q a hj hq => ⟨fun w => absurd w.1 (by decide), fun w => absurd w.2 (by decide)⟩) (fun j q hj hq w => Or.inr rfl) (fun p q a hj hq w => ?_) (fun w => absurd w (by decide)) (fun _ => ⟨rfl, rfl⟩) (fun w => absurd w (by decide))⟩
  · have : i = j := nI_inj (by omega) (by omega) (e.symm.trans w.2)
    subst this
    exact ref_inj (hq.1.symm.trans hl.1)
  · have : j = i := D.1 j i hj hi (by rw [hq.1, hl.1, w.1])
    rw [this]; exact e
  · exfalso
    have q6 := hq.2.2.2.2.2.2.2.1.2.2
    rw [w, g.2.2] at q6
    cases q6
/-! busy -/
abbrev rBusyOK (h : aH) (x1 x2 x3 : Int32) : Prop := ¬ hI h 63 8 = nI 400 ∧ inI x1 (hI h 63 3) ∧ 0 ≤ x2.toInt ∧ x2.toInt < x3.toInt ∧ x3.toInt ≤ 17472
theorem c_busy {l : Launch} {E : eE} {d bc bs : Nat} {h : aH} {K : Int32 → aH → Prop} {x1 x2 x3 x4 : Int32} (S : SR h) (hd : 1 ≤ d) (k1 : rBusyOK h x1 x2 x3 → K (hI h 63 8) (rFact h (nI 2) x1 x2 x3 x4)) (k0 : ¬ rBusyOK h x1 x2 x3 → K (-1) h) : CI l E d bc bs mX12_busy [.inr (some (0, 12, 63)), .inl x1, .inl x2, .inl x3, .inl x4] h K := by
  obtain ⟨d, rfl⟩ : ∃ d', d = d' + 1 := ⟨d - 1, by omega⟩
  have hN := S.2.1
  unfold RIn at hN
  refine bX12_busy_0 S ⟨fun c => k0 (fun q => q.1 c), fun c => ⟨fun c1 => k0 (fun q => c1 q.2.1), fun c1 => ⟨fun c2 => k0 ?_, fun c2 => ⟨fun c3 => k0 ?_, fun c3 => ⟨fun c4 => ⟨?_, k1 ⟨c, c1, ?_⟩⟩, fun c4 => k0 ?_⟩⟩⟩⟩⟩
  · simp only [Int32.lt_iff_toInt_lt, Int32.le_iff_toInt_le, ti_z, ti_m1, ti_m24, ti_0, ti_1, ti_2, ti_3, ti_4, ti_5, ti_6, ti_7, ti_8, ti_11, ti_12, ti_15, ti_24, ti_28, ti_31, ti_47, ti_48, ti_52, ti_90, ti_100, ti_127, ti_336, ti_363, ti_364, ti_400, ti_416, ti_576, ti_17471, ti_17472] at c2; intro q; omega
  · simp only [Int32.lt_iff_toInt_lt, Int32.le_iff_toInt_le, ti_z, ti_m1, ti_m24, ti_0, ti_1, ti_2, ti_3, ti_4, ti_5, ti_6, ti_7, ti_8, ti_11, ti_12, ti_15, ti_24, ti_28, ti_31, ti_47, ti_48, ti_52, ti_90, ti_100, ti_127, ti_336, ti_363, ti_364, ti_400, ti_416, ti_576, ti_17471, ti_17472] at c3; intro q; omega
  · have := cnt1 (n := 400) (by decide) hN.2.2.1 c
    exact vp_of (by omega) (by omega)
  · simp only [Int32.lt_iff_toInt_lt, Int32.le_iff_toInt_le, ti_z, ti_m1, ti_m24, ti_0, ti_1, ti_2, ti_3, ti_4, ti_5, ti_6, ti_7, ti_8, ti_11, ti_12, ti_15, ti_24, ti_28, ti_31, ti_47, ti_48, ti_52, ti_90, ti_100, ti_127, ti_336, ti_363, ti_364, ti_400, ti_416, ti_576, ti_17471, ti_17472] at c2 c3 c4; omega
  · simp only [Int32.lt_iff_toInt_lt, Int32.le_iff_toInt_le, ti_z, ti_m1, ti_m24, ti_0, ti_1, ti_2, ti_3, ti_4, ti_5, ti_6, ti_7, ti_8, ti_11, ti_12, ti_15, ti_24, ti_28, ti_31, ti_47, ti_48, ti_52, ti_90, ti_100, ti_127, ti_336, ti_363, ti_364, ti_400, ti_416, ti_576, ti_17471, ti_17472] at c4; intro q; omega
theorem k_busy {l : Launch} {E : eE} {d bc bs : Nat} {h : aH} {K : Int32 → aH → Prop} {x1 x2 x3 x4 : Int32} (S : SK h) (hd : 2 ≤ d) (hn : 99 ≤ hN h) (h4 : x4 = nI 0 ∨ x4 = nI 1) (k1 : rBusyOK h x1 x2 x3 → ∀ p o a : Nat, x1 = nI p → (p : Int) < (hI h 63 3).toInt → PeAt h p o a → K (hI h 63 8) (kFactH h o 4 x2 x3 x4)) (k0 : ¬ rBusyOK h x1 x2 x3 → K (-1) h) : CI l E d (bc + 1) (bs + 5) mX11_busy [.inr (some (0, 11, 0)), .inl x1, .inl x2, .inl x3, .inl x4] h K := by
  obtain ⟨d, rfl⟩ : ∃ d', d = d' + 1 := ⟨d - 1, by omega⟩
  have hNn := S.n
  unfold RIn at hNn
  have e11 := S.2.1.2.2.1
  have R := S.1.1
  have h400 : nI 400 ≤ hI h 0 11 → ¬ ¬ hI h 63 8 = nI 400 := fun c q => by
    rw [e11, Int32.le_iff_toInt_le, ti_400] at c
    exact q (i32_eq (by decide) (by omega))
  refine bX11_busy_0 R (k_personAt S (fun c => ⟨R, fun c1 => k0 (fun q => h400 c1 q.1), fun c1 => ⟨fun _ => k0 (fun q => c q.2.1), fun _ e => by cases e⟩⟩) (fun i o a e hi hl => ⟨R, fun c1 => k0 (fun q => h400 c1 q.1), fun c1 => ⟨fun e => (by cases e), fun _ _ => ⟨fun c2 => k0 ?_, fun c2 => ⟨fun c3 => k0 ?_, fun c3 => ⟨fun c4 => ⟨o, rfl, ?_⟩, fun c4 => k0 ?_⟩⟩⟩⟩⟩))
  · simp only [Int32.lt_iff_toInt_lt, Int32.le_iff_toInt_le, ti_z, ti_m1, ti_m24, ti_0, ti_1, ti_2, ti_3, ti_4, ti_5, ti_6, ti_7, ti_8, ti_11, ti_12, ti_15, ti_24, ti_28, ti_31, ti_47, ti_48, ti_52, ti_90, ti_100, ti_127, ti_336, ti_363, ti_364, ti_400, ti_416, ti_576, ti_17471, ti_17472] at c2; intro q; omega
  · simp only [Int32.lt_iff_toInt_lt, Int32.le_iff_toInt_le, ti_z, ti_m1, ti_m24, ti_0, ti_1, ti_2, ti_3, ti_4, ti_5, ti_6, ti_7, ti_8, ti_11, ti_12, ti_15, ti_24, ti_28, ti_31, ti_47, ti_48, ti_52, ti_90, ti_100, ti_127, ti_336, ti_363, ti_364, ti_400, ti_416, ti_576, ti_17471, ti_17472] at c3; intro q; omega
  · simp only [Int32.lt_iff_toInt_lt, Int32.le_iff_toInt_le, ti_z, ti_m1, ti_m24, ti_0, ti_1, ti_2, ti_3, ti_4, ti_5, ti_6, ti_7, ti_8, ti_11, ti_12, ti_15, ti_24, ti_28, ti_31, ti_47, ti_48, ti_52, ti_90, ti_100, ti_127, ti_336, ti_363, ti_364, ti_400, ti_416, ti_576, ti_17471, ti_17472] at c2 c3 c4
    have ok : rBusyOK h x1 x2 x3 := ⟨fun q => c1 (by rw [e11, q]; exact Int32.le_refl _), by rw [e]; exact ⟨by rw [nI_toInt (by omega)]; omega, by rw [nI_toInt (by omega)]; exact hi⟩, by omega⟩
    have kk := k1 ok i o a e hi hl
    rw [← e11] at kk
    exact fact_tail R (by omega) hn ⟨hl.2.2.2.2.2.2.2.1.1, hl.2.2.2.2.2.2.2.1.2.1⟩ h4 kk
  · simp only [Int32.lt_iff_toInt_lt, Int32.le_iff_toInt_le, ti_z, ti_m1, ti_m24, ti_0, ti_1, ti_2, ti_3, ti_4, ti_5, ti_6, ti_7, ti_8, ti_11, ti_12, ti_15, ti_24, ti_28, ti_31, ti_47, ti_48, ti_52, ti_90, ti_100, ti_127, ti_336, ti_363, ti_364, ti_400, ti_416, ti_576, ti_17471, ti_17472] at c4; intro q; omega
theorem SK2.busy {h : aH} {x1 x2 x3 x4 : Int32} {p o a : Nat} (S : SK h) (D : CLd h h) (hn : 99 ≤ hN h) (h4 : x4 = nI 0 ∨ x4 = nI 1) (ok : rBusyOK h x1 x2 x3) (e : x1 = nI p) (hi : (p : Int) < (hI h 63 3).toInt) (hl : PeAt h p o a) : RI (rFact h (nI 2) x1 x2 x3 x4) ∧ SH (kFactH h o 4 x2 x3 x4) ∧ RE h (kFactH h o 4 x2 x3 x4) ∧ SK2 (kFactH h o 4 x2 x3 x4) (rFact h (nI 2) x1 x2 x3 x4) ∧ exH h (kFactH h o 4 x2 x3 x4) := by
  have hNn := S.n
  unfold RIn at hNn
  have g := hl.2.2.2.2.2.2.2.1
  have hc : x4 = vp_nar .boolean x4 := by rcases h4 with rfl | rfl <;> rfl
  obtain ⟨z1, z2, z3, z4, z5⟩ := rF_at (h := h) (x1 := nI 2) (x2 := x1) (x3 := x2) (x4 := x3) (x5 := x4) (nF h)
  rw [if_pos rfl] at z1 z2 z3 z4 z5
  refine ⟨RI.fact S.1.2 ok.1 (Or.inr (Or.inr (Or.inl ⟨z1, by rw [z2]; exact ok.2.1, by rw [z3]; exact ok.2.2.1, by rw [z3, z4]; exact ok.2.2.2.1, by rw [z4]; exact ok.2.2.2.2⟩))) h4, sh_kf S.1.1 hn g.1, SK2.fact S hn ok.1 ⟨g.1, g.2.1⟩ (by rw [g.2.2]; decide) hc (fun j q hj hq => ⟨fun w => absurd w.1 (by decide), fun w => absurd w.2 (by decide)⟩) (fun j q hj hq => ⟨fun w => absurd w.1 (by decide), fun w => absurd w.2 (by decide)⟩) (fun j q b hj hq => ⟨fun w => ⟨?_, rfl⟩, fun w => ⟨rfl, ?_⟩⟩) (fun j q hj hq w => ?_) (fun j q b hj hq w => rfl) (fun w => absurd w (by decide)) (fun w => absurd w (by decide)) (fun _ => ⟨rfl, rfl⟩)⟩
  · have : p = j := nI_inj (by omega) (by omega) (e.symm.trans w.2)
    subst this
    exact ref_inj (hq.1.symm.trans hl.1)
  · have : j = p := D.2.1 j p hj hi (by rw [hq.1, hl.1, w.1])
    rw [this]; exact e
  · exfalso
    have q6 := hq.2.2.2.2.2.2
    rw [w, g.2.2] at q6
    cases q6
