/-! ===== person: the class ===== -/
def kPersH (h : aH) (lo : Nat) (x2 : Int32) : aH := stI (stQ (stR (stN (stI (stR (stN h (0, 6)) (hN h) 0 (some (0, 4, lo))) (hN h) 1 x2) (3, 48)) (hN h) 2 (some (3, 48, hN h + 1))) 2 (hI h 0 10).toNatClampNeg (some (0, 6, hN h))) 0 10 (hI h 0 10 + nI 1)
theorem kP_I {h : aH} {lo : Nat} {x2 : Int32} {q : Nat} (h0 : q ≠ 0) (h1 : q ≠ hN h) (h2 : q ≠ hN h + 1) : hI (kPersH h lo x2) q = hI h q := by
  show up2 (up1 (up2 (up1 (hI h) (hN h) (fun _ => 0)) (hN h) 1 x2) (hN h + 1) (fun _ => 0)) 0 10 (hI h 0 10 + nI 1) q = _
  rw [up2_ne h0, up1_ne h2, up2_ne h1, up1_ne h1]
theorem kP_I0 {h : aH} {lo : Nat} {x2 : Int32} (hn : 99 ≤ hN h) (k : Nat) : hI (kPersH h lo x2) 0 k = if k = 10 then hI h 0 10 + nI 1 else hI h 0 k := by
  show up2 (up1 (up2 (up1 (hI h) (hN h) (fun _ => 0)) (hN h) 1 x2) (hN h + 1) (fun _ => 0)) 0 10 (hI h 0 10 + nI 1) 0 k = _
  rw [show up2 (up1 (up2 (up1 (hI h) (hN h) (fun _ => 0)) (hN h) 1 x2) (hN h + 1) (fun _ => 0)) 0 10 (hI h 0 10 + nI 1) 0 k = if k = 10 then hI h 0 10 + nI 1 else (up1 (up2 (up1 (hI h) (hN h) (fun _ => 0)) (hN h) 1 x2) (hN h + 1) (fun _ => 0)) 0 k by simp [up2]]
  rw [up1_ne (by omega), up2_ne (by omega), up1_ne (by omega)]
theorem kP_IN {h : aH} {lo : Nat} {x2 : Int32} (hn : 99 ≤ hN h) : hI (kPersH h lo x2) (hN h) 1 = x2 ∧ hI (kPersH h lo x2) (hN h) 3 = 0 := by
  have e : hI (kPersH h lo x2) (hN h) = up2 (up1 (hI h) (hN h) (fun _ => 0)) (hN h) 1 x2 (hN h) := by
    show up2 (up1 (up2 (up1 (hI h) (hN h) (fun _ => 0)) (hN h) 1 x2) (hN h + 1) (fun _ => 0)) 0 10 (hI h 0 10 + nI 1) (hN h) = _
    rw [up2_ne (by omega), up1_ne (by omega)]
  rw [e]
  simp [up2, up1]
theorem kP_R {h : aH} {lo : Nat} {x2 : Int32} {q : Nat} (h1 : q ≠ hN h) (h2 : q ≠ hN h + 1) : hR (kPersH h lo x2) q = hR h q := by
  show up2 (up1 (up2 (up1 (hR h) (hN h) (fun _ => none)) (hN h) 0 (some (0, 4, lo))) (hN h + 1) (fun _ => none)) (hN h) 2 (some (3, 48, hN h + 1)) q = _
  rw [up2_ne h1, up1_ne h2, up2_ne h1, up1_ne h1]
theorem kP_RN {h : aH} {lo : Nat} {x2 : Int32} : hR (kPersH h lo x2) (hN h) 0 = some (0, 4, lo) ∧ hR (kPersH h lo x2) (hN h) 2 = some (3, 48, hN h + 1) ∧ hR (kPersH h lo x2) (hN h) 4 = none := by
  have e : ∀ k, hR (kPersH h lo x2) (hN h) k = if k = 2 then some (3, 48, hN h + 1) else if k = 0 then some (0, 4, lo) else none := fun k => by
    show up2 (up1 (up2 (up1 (hR h) (hN h) (fun _ => none)) (hN h) 0 (some (0, 4, lo))) (hN h + 1) (fun _ => none)) (hN h) 2 (some (3, 48, hN h + 1)) (hN h) k = _
    have hne : hN h ≠ hN h + 1 := by omega
    simp [up2, up1]
  rw [e, e, e]
  exact ⟨rfl, rfl, rfl⟩
theorem kP_A {h : aH} {lo : Nat} {x2 : Int32} {q : Nat} (h1 : q ≠ hN h) (h2 : q ≠ hN h + 1) : hA (kPersH h lo x2) q = hA h q := by
  show up1 (up1 (hA h) (hN h) (fun _ => 0)) (hN h + 1) (fun _ => 0) q = _
  rw [up1_ne h2, up1_ne h1]
theorem kP_Q {h : aH} {lo : Nat} {x2 : Int32} {q : Nat} (h0 : q ≠ 2) (h1 : q ≠ hN h) (h2 : q ≠ hN h + 1) : hQ (kPersH h lo x2) q = hQ h q := by
  show up2 (up1 (up1 (hQ h) (hN h) (fun _ => none)) (hN h + 1) (fun _ => none)) 2 (hI h 0 10).toNatClampNeg (some (0, 6, hN h)) q = _
  rw [up2_ne h0, up1_ne h2, up1_ne h1]
theorem kP_Q2 {h : aH} {lo : Nat} {x2 : Int32} (hn : 99 ≤ hN h) (i : Nat) : hQ (kPersH h lo x2) 2 i = if i = (hI h 0 10).toNatClampNeg then some (0, 6, hN h) else hQ h 2 i := by
  show up2 (up1 (up1 (hQ h) (hN h) (fun _ => none)) (hN h + 1) (fun _ => none)) 2 (hI h 0 10).toNatClampNeg (some (0, 6, hN h)) 2 i = _
  rw [show up2 (up1 (up1 (hQ h) (hN h) (fun _ => none)) (hN h + 1) (fun _ => none)) 2 (hI h 0 10).toNatClampNeg (some (0, 6, hN h)) 2 i = if i = (hI h 0 10).toNatClampNeg then some (0, 6, hN h) else (up1 (up1 (hQ h) (hN h) (fun _ => none)) (hN h + 1) (fun _ => none)) 2 i by simp [up2]]
  rw [up1_ne (by omega), up1_ne (by omega)]
theorem kP_T {h : aH} {lo : Nat} {x2 : Int32} : hT (kPersH h lo x2) (hN h) = (0, 6) ∧ hT (kPersH h lo x2) (hN h + 1) = (3, 48) ∧ hN (kPersH h lo x2) = hN h + 2 ∧ exH h (kPersH h lo x2) := by
  have e : ∀ q, hT (kPersH h lo x2) q = up1 (up1 (hT h) (hN h) (0, 6)) (hN h + 1) (3, 48) q := fun q => rfl
  refine ⟨?_, ?_, rfl, by show hN h ≤ hN h + 2; omega, fun i hi => ?_⟩
  · rw [e]; simp [up1]
  · rw [e]; simp [up1]
  · rw [e, up1_ne (by omega), up1_ne (by omega)]
theorem SK2.person {h : aH} {x1 x2 : Int32} {i lo : Nat} (S : SK h) (hn : 99 ≤ hN h) (ok : rPersOK h x1 x2) (e : x1 = nI i) (hi : (i : Int) < (hI h 63 1).toInt) (hl : LdAt h i lo) : RE h (kPersH h lo x2) ∧ SK2 (kPersH h lo x2) (rPersH h x1 x2) := by
  obtain ⟨⟨SHh, hRI⟩, n1, n2, n3⟩ := S
  have hNn := hRI.1
  unfold RIn at hNn
  obtain ⟨c1, c2⟩ := cnt1 (n := 12) (by decide) hNn.2.1 ok.1
  have ec := i32_clamp hNn.2.1.1
  have e10 := n1.2.1
  obtain ⟨t1, t2, t3, hex⟩ := kP_T (h := h) (lo := lo) (x2 := x2)
  have f3 : hI (rPersH h x1 x2) 63 3 = hI h 63 3 + nI 1 := rfl
  have hs : sameF h (rPersH h x1 x2) := ⟨rfl, rfl, rfl, rfl, rfl, rfl⟩
  have hf : ∀ q, 99 ≤ q → q < hN h → hI (kPersH h lo x2) q = hI h q ∧ hR (kPersH h lo x2) q = hR h q := fun q a b => ⟨kP_I (by omega) (by omega) (by omega), kP_R (by omega) (by omega)⟩
  have q1 : hQ (kPersH h lo x2) 1 = hQ h 1 := kP_Q (by decide) (by omega) (by omega)
  refine ⟨⟨kP_I (by decide) (by omega) (by omega), fun a h1 h2 => kP_A (by omega) (by omega)⟩, ⟨?_, ?_, ?_, ?_⟩, fun j hj => ?_, fun p hp => ?_⟩
  · rw [kP_I0 hn, if_neg (by decide)]; exact n1.1
  · rw [kP_I0 hn, if_pos rfl, e10, f3]
  · rw [kP_I0 hn, if_neg (by decide)]; exact n1.2.2.1
  · rw [kP_I0 hn, if_neg (by decide)]; exact n1.2.2.2
  · obtain ⟨o, ho⟩ := n2 j hj
    exact ⟨o, ho.mv (by rw [q1]) hf hex rfl hs⟩
  · rw [f3, c2] at hp
    obtain ⟨a1, a2, a3⟩ := rP_at (h := h) (x1 := x1) (x2 := x2) p
    by_cases g : p = (hI h 63 3).toNatClampNeg
    · rw [if_pos g] at a1 a2 a3
      obtain ⟨r0, r2, r4⟩ := kP_RN (h := h) (lo := lo) (x2 := x2)
      obtain ⟨i1, i3⟩ := kP_IN (h := h) (lo := lo) (x2 := x2) hn
      refine ⟨hN h, hN h + 1, by rw [kP_Q2 hn, e10, if_pos g], ?_, by rw [i1, a2], r2, by rw [i3, a3, if_pos rfl]; rfl, fun w => absurd a3 w, ?_, ⟨hn, by omega, t1⟩, by omega, by omega, t2⟩
      · rw [r0, a1, q1, e, nI_clamp (by omega)]
        exact hl.1.symm
      · rw [r4]
        refine chn_none _ (fun k hk z => ?_)
        have hm := i32_clamp hNn.2.2.1.1
        have hk : k < (hI h 63 8).toNatClampNeg := hk
        have hof : ¬ inI (hA h 70 k) (hI h 63 3) := by
          rw [show hA h 70 k = nI p from z.2]
          intro y
          have := y.2
          rw [nI_toInt (by omega)] at this
          omega
        have z1 : hA h 69 k = nI 2 := z.1
        rcases (hRI.2.2.2.2.1 k (by omega)).1 with y | y | y | y
        · exact absurd (z1.symm.trans y.1) (by decide)
        · exact absurd (z1.symm.trans y.1) (by decide)
        · exact hof y.2.1
        · exact absurd (z1.symm.trans y.1) (by decide)
    · rw [if_neg g] at a1 a2 a3
      obtain ⟨o, a, ho⟩ := n3 p (by omega)
      have y := ho.2.2.2.2.2.2.2.2
      exact ⟨o, a, ho.mv (by rw [kP_Q2 hn, e10, if_neg g]) (by rw [q1]) hf (kP_A (by omega) (by omega)) hex a1 a2 a3 (fun _ _ => rfl) hs⟩
theorem k_person {l : Launch} {E : eE} {d bc bs : Nat} {h : aH} {K : Int32 → aH → Prop} {x1 x2 : Int32} (S : SK h) (hd : 2 ≤ d) (hn : 99 ≤ hN h) (k1 : rPersOK h x1 x2 → ∀ i o : Nat, x1 = nI i → (i : Int) < (hI h 63 1).toInt → LdAt h i o → SH (kPersH h o x2) → K (hI h 63 3) (kPersH h o x2)) (k0 : ¬ rPersOK h x1 x2 → K (-1) h) : CI l E d (bc + 2) (bs + 53) mX11_person [.inr (some (0, 11, 0)), .inl x1, .inl x2] h K := by
  obtain ⟨d, rfl⟩ : ∃ d', d = d' + 2 := ⟨d - 2, by omega⟩
  have hNn := S.n
  unfold RIn at hNn
  have e10 := S.2.1.2.1
  have R := S.1.1
  have h12 : nI 12 ≤ hI h 0 10 → ¬ ¬ hI h 63 3 = nI 12 := fun c q => by
    rw [e10, Int32.le_iff_toInt_le, ti_12] at c
    exact q (i32_eq (by decide) (by omega))
  refine bX11_person_0 R (k_landAt S (fun c => ⟨R, fun c1 => k0 (fun q => h12 c1 q.1), fun c1 => ⟨fun _ => k0 (fun q => c q.2.1), fun _ e => by cases e⟩⟩) (fun i o e hi hl => ⟨R, fun c1 => k0 (fun q => h12 c1 q.1), fun c1 => ⟨fun e => (by cases e), fun _ _ => ⟨fun c2 => k0 ?_, fun c2 => ⟨fun c3 => ?_, fun c3 => k0 ?_⟩⟩⟩⟩))
  · simp only [Int32.lt_iff_toInt_lt, Int32.le_iff_toInt_le, ti_z, ti_m1, ti_m24, ti_0, ti_1, ti_2, ti_3, ti_4, ti_5, ti_6, ti_7, ti_8, ti_11, ti_12, ti_15, ti_24, ti_28, ti_31, ti_47, ti_48, ti_52, ti_90, ti_100, ti_127, ti_336, ti_363, ti_364, ti_400, ti_416, ti_576, ti_17471, ti_17472] at c2; intro q; omega
  · have e128 : (nI 128).toInt = 128 := by decide
    simp only [Int32.lt_iff_toInt_lt, Int32.le_iff_toInt_le, ti_z, ti_m1, ti_m24, ti_0, ti_1, ti_2, ti_3, ti_4, ti_5, ti_6, ti_7, ti_8, ti_11, ti_12, ti_15, ti_24, ti_28, ti_31, ti_47, ti_48, ti_52, ti_90, ti_100, ti_127, ti_336, ti_363, ti_364, ti_400, ti_416, ti_576, ti_17471, ti_17472, e128] at c2 c3
    have ok : rPersOK h x1 x2 := ⟨fun q => c1 (by rw [e10, q]; exact Int32.le_refl _), by rw [e]; exact ⟨by rw [nI_toInt (by omega)]; omega, by rw [nI_toInt (by omega)]; exact hi⟩, by omega⟩
    have s1 := R.stN (t := (0, 6)) hn
    have s2 : SH (stR (stN h (0, 6)) (hN h) 0 (some (0, 4, o))) := s1.stR hn
    have s2' : SH (stI (stR (stN h (0, 6)) (hN h) 0 (some (0, 4, o))) (hN h) 1 x2) := s2
    have s3 : SH (stN (stI (stR (stN h (0, 6)) (hN h) 0 (some (0, 4, o))) (hN h) 1 x2) (3, 48)) := s2'.stN (by show 99 ≤ hN h + 1; omega)
    have s4 := s3.stR (o := hN h) (k := 2) (v := some (3, 48, hN h + 1)) hn
    have s5 := s4.stQ (a := 2) (i := (hI h 0 10).toNatClampNeg) (v := some (0, 6, hN h)) (by decide) (by decide)
    have e0 : hI (stR (stN (stI (stR (stN h (0, 6)) (hN h) 0 (some (0, 4, o))) (hN h) 1 x2) (3, 48)) (hN h) 2 (some (3, 48, hN h + 1))) 0 10 = hI h 0 10 := by
      show up1 (up2 (up1 (hI h) (hN h) (fun _ => 0)) (hN h) 1 x2) (hN h + 1) (fun _ => 0) 0 10 = _
      rw [up1_ne (by omega), up2_ne (by omega), up1_ne (by omega)]
    have kk := k1 ok i o e hi hl s5
    refine ⟨s1, o, rfl, bX6_init_0 (bc := 0) (bs := 0) s1 ⟨s2, s3, s4, s4, vp_of (by rw [e10]; omega) (by rw [e10]; have := cnt1 (n := 12) (by decide) hNn.2.1 ok.1; omega), s5, ?_⟩⟩
    show K (hI (stR (stN (stI (stR (stN h (0, 6)) (hN h) 0 (some (0, 4, o))) (hN h) 1 x2) (3, 48)) (hN h) 2 (some (3, 48, hN h + 1))) 0 10) (stI (stQ (stR (stN (stI (stR (stN h (0, 6)) (hN h) 0 (some (0, 4, o))) (hN h) 1 x2) (3, 48)) (hN h) 2 (some (3, 48, hN h + 1))) 2 (hI h 0 10).toNatClampNeg (some (0, 6, hN h))) 0 10 (hI (stR (stN (stI (stR (stN h (0, 6)) (hN h) 0 (some (0, 4, o))) (hN h) 1 x2) (3, 48)) (hN h) 2 (some (3, 48, hN h + 1))) 0 10 + nI 1))
    rw [e0]
    unfold kPersH at kk
    rw [← e10] at kk
    exact kk
  · have e128 : (nI 128).toInt = 128 := by decide
    simp only [Int32.lt_iff_toInt_lt, Int32.le_iff_toInt_le, ti_z, ti_m1, ti_m24, ti_0, ti_1, ti_2, ti_3, ti_4, ti_5, ti_6, ti_7, ti_8, ti_11, ti_12, ti_15, ti_24, ti_28, ti_31, ti_47, ti_48, ti_52, ti_90, ti_100, ti_127, ti_336, ti_363, ti_364, ti_400, ti_416, ti_576, ti_17471, ti_17472, e128] at c3; intro q; omega
