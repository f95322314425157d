/-! ===== series: both sides ===== -/
abbrev rSerOK (h : aH) (x1 x2 x3 : Int32) : Prop := ¬ hI h 63 14 = nI 4 ∧ (1 ≤ x1.toInt ∧ x1.toInt ≤ 6) ∧ (x2 = -1 ∨ inI x2 (hI h 63 14)) ∧ (x3 = -1 ∨ inI x3 (hI h 63 3))
def rSerH (h : aH) (x1 x2 x3 : Int32) : aH := stI (stA (stA (stA h 74 (hI h 63 14).toNatClampNeg x1) 75 (hI h 63 14).toNatClampNeg x2) 76 (hI h 63 14).toNatClampNeg x3) 63 14 (hI h 63 14 + nI 1)
theorem c_series {l : Launch} {E : eE} {d bc bs : Nat} {h : aH} {K : Int32 → aH → Prop} {x1 x2 x3 : Int32} (S : SR h) (hd : 1 ≤ d) (k1 : rSerOK h x1 x2 x3 → K (hI h 63 14) (rSerH h x1 x2 x3)) (k0 : ¬ rSerOK h x1 x2 x3 → K (-1) h) : CI l E d bc bs mX12_series [.inr (some (0, 12, 63)), .inl x1, .inl x2, .inl x3] h K := by
  obtain ⟨d, rfl⟩ : ∃ d', d = d' + 1 := ⟨d - 1, by omega⟩
  have hN := S.2.1
  unfold RIn at hN
  have k47 : rSerOK h x1 x2 x3 → LX12_series_47 l E (d + 1) bc bs x1 x2 x3 h K := fun ok => by
    have := cnt1 (n := 4) (by decide) hN.2.2.2 ok.1
    refine bX12_series_47 S.1 ⟨vp_of (by omega) (by omega), ?_⟩
    rw [add_sub1]
    exact k1 ok
  have k32 : ¬ hI h 63 14 = nI 4 → (1 ≤ x1.toInt ∧ x1.toInt ≤ 6) → (x2 = -1 ∨ inI x2 (hI h 63 14)) → LX12_series_32 l E (d + 1) bc bs x1 x2 x3 h K := fun o1 o2 o3 =>
    bX12_series_32 S.1 ⟨fun c => k47 ⟨o1, o2, o3, Or.inl c⟩, fun c => ⟨fun c2 => k47 ⟨o1, o2, o3, Or.inr c2⟩, fun c2 => k0 (fun q => q.2.2.2.elim c c2)⟩⟩
  refine bX12_series_0 S.1 ⟨fun c => k0 (fun q => q.1 c), fun c => ⟨fun c1 => k0 ?_, fun c1 => ⟨fun c2 => k0 ?_, fun c2 => ⟨fun c3 => k32 c ?_ (Or.inl c3), fun c3 => ⟨fun c4 => k0 (fun q => q.2.2.1.elim c3 c4), fun c4 => k32 c ?_ (Or.inr c4)⟩⟩⟩⟩⟩
  · simp only [Int32.lt_iff_toInt_lt, Int32.le_iff_toInt_le, ti_z, ti_m1, ti_m24, ti_0, ti_1, ti_2, ti_3, ti_4, ti_5, ti_6, ti_7, ti_8, ti_11, ti_12, ti_15, ti_24, ti_28, ti_31, ti_47, ti_48, ti_52, ti_90, ti_100, ti_127, ti_336, ti_363, ti_364, ti_400, ti_416, ti_576, ti_17471, ti_17472] at c1; intro q; omega
  · simp only [Int32.lt_iff_toInt_lt, Int32.le_iff_toInt_le, ti_z, ti_m1, ti_m24, ti_0, ti_1, ti_2, ti_3, ti_4, ti_5, ti_6, ti_7, ti_8, ti_11, ti_12, ti_15, ti_24, ti_28, ti_31, ti_47, ti_48, ti_52, ti_90, ti_100, ti_127, ti_336, ti_363, ti_364, ti_400, ti_416, ti_576, ti_17471, ti_17472] at c2; intro q; omega
  · simp only [Int32.lt_iff_toInt_lt, Int32.le_iff_toInt_le, ti_z, ti_m1, ti_m24, ti_0, ti_1, ti_2, ti_3, ti_4, ti_5, ti_6, ti_7, ti_8, ti_11, ti_12, ti_15, ti_24, ti_28, ti_31, ti_47, ti_48, ti_52, ti_90, ti_100, ti_127, ti_336, ti_363, ti_364, ti_400, ti_416, ti_576, ti_17471, ti_17472] at c1 c2; omega
  · simp only [Int32.lt_iff_toInt_lt, Int32.le_iff_toInt_le, ti_z, ti_m1, ti_m24, ti_0, ti_1, ti_2, ti_3, ti_4, ti_5, ti_6, ti_7, ti_8, ti_11, ti_12, ti_15, ti_24, ti_28, ti_31, ti_47, ti_48, ti_52, ti_90, ti_100, ti_127, ti_336, ti_363, ti_364, ti_400, ti_416, ti_576, ti_17471, ti_17472] at c1 c2; omega
theorem rS_at {h : aH} {x1 x2 x3 : Int32} (s : Nat) : hA (rSerH h x1 x2 x3) 74 s = (if s = (hI h 63 14).toNatClampNeg then x1 else hA h 74 s) ∧ hA (rSerH h x1 x2 x3) 75 s = (if s = (hI h 63 14).toNatClampNeg then x2 else hA h 75 s) ∧ hA (rSerH h x1 x2 x3) 76 s = (if s = (hI h 63 14).toNatClampNeg then x3 else hA h 76 s) := by
  refine ⟨?_, ?_, ?_⟩
  · show (if (74 : Nat) = 74 ∧ s = (hI h 63 14).toNatClampNeg then x1 else hA h 74 s) = _; simp
  · show (if (75 : Nat) = 75 ∧ s = (hI h 63 14).toNatClampNeg then x2 else hA h 75 s) = _; simp
  · show (if (76 : Nat) = 76 ∧ s = (hI h 63 14).toNatClampNeg then x3 else hA h 76 s) = _; simp
theorem RI.series {h : aH} {x1 x2 x3 : Int32} (S : RI h) (ok : rSerOK h x1 x2 x3) : RI (rSerH h x1 x2 x3) := by
  obtain ⟨hN, hL, hP, hC, hF, hS1, hS2, hS3, hS4⟩ := S
  have hN' := hN
  unfold RIn at hN'
  obtain ⟨c1, c2⟩ := cnt1 (n := 4) (by decide) hN'.2.2.2 ok.1
  have e := i32_clamp hN'.2.2.2.1
  have f14 : hI (rSerH h x1 x2 x3) 63 14 = hI h 63 14 + nI 1 := rfl
  refine ⟨⟨hN.1, hN.2.1, hN.2.2.1, by rw [f14, c2]; omega⟩, hL, hP, hC, fun k hk => ?_, fun s hs => ?_, fun s hs h14 => ?_, fun s p hs hp => ?_, fun s w hs hw => ?_⟩
  · obtain ⟨q1, q2⟩ := hF k hk
    exact ⟨RF.more (h := h) (Int.le_refl _) (Int.le_refl _) (by rw [f14, c2]; omega) rfl rfl rfl rfl q1, q2⟩
  · rw [f14, c2] at hs
    obtain ⟨a1, a2, a3⟩ := rS_at (h := h) (x1 := x1) (x2 := x2) (x3 := x3) s
    unfold RSe
    rw [a1, a2, a3]
    by_cases g : s = (hI h 63 14).toNatClampNeg
    · rw [if_pos g, if_pos g, if_pos g]
      have z := hS2 s (by omega) (by omega)
      refine ⟨ok.2.1, ok.2.2.1.imp id (fun q => ⟨q.1, by have := q.2; omega⟩), ok.2.2.2, ?_, fun i hi => ?_⟩
      · show 0 ≤ (hA h 77 s).toInt ∧ (hA h 77 s).toInt ≤ 6
        rw [z, ti_0]; omega
      · exfalso
        have hi : (i : Int) < (hA h 77 s).toInt := hi
        rw [z, ti_0] at hi; omega
    · rw [if_neg g, if_neg g, if_neg g]
      exact hS1 s (by omega)
  · rw [f14, c2] at h14
    exact hS2 s hs (by omega)
  · obtain ⟨q1, q2, q3⟩ := hS3 s p hs hp
    refine ⟨q1, q2, fun z => q3 (fun y => z ⟨?_, y.2⟩)⟩
    rw [f14, c2]
    have := y.1
    omega
  · rcases hS4 s w hs hw with q | q
    · exact Or.inl q
    · obtain ⟨a1, a2, a3⟩ := rS_at (h := h) (x1 := x1) (x2 := x2) (x3 := x3) s
      have g : ¬ s = (hI h 63 14).toNatClampNeg := by have := q.1; omega
      rw [if_neg g] at a1 a2 a3
      refine Or.inr ⟨by rw [f14, c2]; have := q.1; omega, ?_⟩
      rw [a1, a3]
      exact q.2
/-! the class -/
def kSer1 (h : aH) (x0 x1 : Int32) (r : aR) (x3 : Int32) : aH := stR (stN (stR (stN (stR (stN (stI (stR (stI (stI (stN h (0, 9)) (hN h) 0 x0) (hN h) 1 x1) (hN h) 2 r) (hN h) 3 x3) (1, 6)) (hN h) 4 (some (1, 6, hN h + 1))) (1, 6)) (hN h) 5 (some (1, 6, hN h + 2))) (1, 52)) (hN h) 6 (some (1, 52, hN h + 3))
def kSer2 (h : aH) (x0 x1 : Int32) (r : aR) (x3 : Int32) : aH := stAA (kSer1 h x0 x1 r x3) (hN h + 3) (fil (fun _ => 0) 0 52 (-1))
def kSerH (h : aH) (x1 : Int32) (r : aR) (x3 : Int32) : aH := stI (stQ (kSer2 h (hI h 0 12) x1 r x3) 3 (hI h 0 12).toNatClampNeg (some (0, 9, hN h))) 0 12 (hI h 0 12 + nI 1)
theorem kS1_A {h : aH} {x0 x1 x3 : Int32} {r : aR} : hA (kSer1 h x0 x1 r x3) (hN h + 3) = fun _ => 0 := by
  show up1 (up1 (up1 (up1 (hA h) (hN h) (fun _ => 0)) (hN h + 1) (fun _ => 0)) (hN h + 2) (fun _ => 0)) (hN h + 3) (fun _ => 0) (hN h + 3) = _
  simp [up1]
theorem kS1_R {h : aH} {x0 x1 x3 : Int32} {r : aR} : hR (kSer1 h x0 x1 r x3) (hN h) = fun k => if k = 6 then some (1, 52, hN h + 3) else if k = 5 then some (1, 6, hN h + 2) else if k = 4 then some (1, 6, hN h + 1) else if k = 2 then r else none := by
  show up2 (up1 (up2 (up1 (up2 (up1 (up2 (up1 (hR h) (hN h) (fun _ => none)) (hN h) 2 r) (hN h + 1) (fun _ => none)) (hN h) 4 (some (1, 6, hN h + 1))) (hN h + 2) (fun _ => none)) (hN h) 5 (some (1, 6, hN h + 2))) (hN h + 3) (fun _ => none)) (hN h) 6 (some (1, 52, hN h + 3)) (hN h) = _
  funext k
  simp [up2, up1]
theorem w_init9 {l : Launch} {E : eE} {d bc bs : Nat} {K : aH → Prop} {o0 : Nat} {x1 x2 x4 : Int32} {r3 : aR} {g : aH} {a : Nat} (S : SH g) (hr : hR g o0 6 = some (1, 52, a)) (k : K (stAA g a (fil (hA g a) 0 52 (-1)))) : ∀ (j i : Nat), i + j = 52 → LX9_init_52 l E (d + 1) bc bs o0 x1 x2 r3 x4 (nI i) (stAA g a (fil (hA g a) 0 i (-1))) K := by
  intro j
  induction j with
  | zero =>
    intro i hi
    have hi : i = 52 := by omega
    subst hi
    exact bX9_init_52 S ⟨fun _ => k, fun c => absurd (nI_le (Nat.le_refl 52) (by omega)) c⟩
  | succ j ih =>
    intro i hi
    refine bX9_init_52 S ⟨fun c => absurd c (nI_ge (by omega) (by omega)), fun _ => ⟨a, hr, vp_in_nI (by omega) (by omega), ?_⟩⟩
    rw [nI_clamp (by omega), stA_stAA, fil_s _ _ (by omega), nI_add]
    exact ih (i + 1) (by omega)
theorem k_init9 {l : Launch} {E : eE} {d bc bs : Nat} {h : aH} {K : aH → Prop} {x0 x1 x3 : Int32} {r : aR} (S : SH h) (hn : 99 ≤ hN h) (k : SH (kSer2 h x0 x1 r x3) → K (kSer2 h x0 x1 r x3)) : CV l E (d + 1) (bc + 3) (bs + 64) mX9_init [.inr (some (0, 9, hN h)), .inl x0, .inl x1, .inr r, .inl x3] (stN h (0, 9)) K := by
  have s1 : SH (stN h (0, 9)) := S.stN hn
  have s2 : SH (stR (stI (stI (stN h (0, 9)) (hN h) 0 x0) (hN h) 1 x1) (hN h) 2 r) := SH.stR (h := stI (stI (stN h (0, 9)) (hN h) 0 x0) (hN h) 1 x1) s1 hn
  have s3 : SH (stN (stI (stR (stI (stI (stN h (0, 9)) (hN h) 0 x0) (hN h) 1 x1) (hN h) 2 r) (hN h) 3 x3) (1, 6)) := SH.stN (h := stI (stR (stI (stI (stN h (0, 9)) (hN h) 0 x0) (hN h) 1 x1) (hN h) 2 r) (hN h) 3 x3) s2 (by show 99 ≤ hN h + 1; omega)
  have s4 := s3.stR (o := hN h) (k := 4) (v := some (1, 6, hN h + 1)) hn
  have s5 := s4.stN (t := (1, 6)) (by show 99 ≤ hN h + 2; omega)
  have s6 := s5.stR (o := hN h) (k := 5) (v := some (1, 6, hN h + 2)) hn
  have s7 := s6.stN (t := (1, 52)) (by show 99 ≤ hN h + 3; omega)
  have s8 : SH (kSer1 h x0 x1 r x3) := s7.stR (o := hN h) (k := 6) (v := some (1, 52, hN h + 3)) hn
  have w := w_init9 (l := l) (E := E) (d := d) (bc := bc) (bs := bs) (K := K) (o0 := hN h) (x1 := x0) (x2 := x1) (x4 := x3) (r3 := r) (g := kSer1 h x0 x1 r x3) (a := hN h + 3) s8 (by rw [kS1_R]; rfl) (by rw [kS1_A]; exact k s8) 52 0 (by omega)
  rw [fil_0, stAA_id] at w
  exact bX9_init_0 s1 ⟨s2, s3, s4, s5, s6, s7, s8, w⟩
