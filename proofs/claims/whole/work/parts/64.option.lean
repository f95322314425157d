/-! ===== option: both sides ===== -/
abbrev rOptOK (h : aH) (x1 x2 : Int32) : Prop := inI x1 (hI h 63 14) ∧ ¬ hA h 77 x1.toNatClampNeg = nI 6 ∧ 0 ≤ x2.toInt ∧ x2.toInt < 336
def rOptH (h : aH) (s : Nat) (x2 : Int32) : aH := stA (stA h 78 (6 * s + (hA h 77 s).toNatClampNeg) x2) 77 s (hA h 77 s + nI 1)
theorem c_option {l : Launch} {E : eE} {d bc bs : Nat} {h : aH} {K : Int32 → aH → Prop} {x1 x2 : Int32} (S : SR h) (hd : 1 ≤ d) (k1 : rOptOK h x1 x2 → K (hA h 77 x1.toNatClampNeg) (rOptH h x1.toNatClampNeg x2)) (k0 : ¬ rOptOK h x1 x2 → K (-1) h) : CI l E d bc bs mX12_option [.inr (some (0, 12, 63)), .inl x1, .inl x2] h K := by
  obtain ⟨d, rfl⟩ : ∃ d', d = d' + 1 := ⟨d - 1, by omega⟩
  have hN := S.2.1
  unfold RIn at hN
  refine bX12_option_0 S.1 ⟨fun c => k0 (fun q => c q.1), fun c => ⟨vp_of c.1 (by have := c.2; omega), fun c1 => k0 (fun q => q.2.1 c1), fun c1 => ⟨fun c2 => k0 ?_, fun c2 => ⟨fun c3 => ?_, fun c3 => k0 ?_⟩⟩⟩⟩
  · simp only [Int32.lt_iff_toInt_lt, Int32.le_iff_toInt_le, ti_z, ti_m1, ti_m24, ti_0, ti_1, ti_2, ti_3, ti_4, ti_5, ti_6, ti_7, ti_8, ti_11, ti_12, ti_15, ti_24, ti_28, ti_31, ti_47, ti_48, ti_52, ti_90, ti_100, ti_127, ti_336, ti_363, ti_364, ti_400, ti_416, ti_576, ti_17471, ti_17472] at c2; intro q; omega
  · simp only [Int32.lt_iff_toInt_lt, Int32.le_iff_toInt_le, ti_z, ti_m1, ti_m24, ti_0, ti_1, ti_2, ti_3, ti_4, ti_5, ti_6, ti_7, ti_8, ti_11, ti_12, ti_15, ti_24, ti_28, ti_31, ti_47, ti_48, ti_52, ti_90, ti_100, ti_127, ti_336, ti_363, ti_364, ti_400, ti_416, ti_576, ti_17471, ti_17472] at c2 c3
    have e := i32_clamp c.1
    have h3 := c.2
    have hc := (S.2.2.2.2.2.2.1 x1.toNatClampNeg (by omega)).2.2.2.1
    obtain ⟨d1, d2⟩ := cnt1 (n := 6) (by decide) hc c1
    have e4 := i32_clamp hc.1
    have e6 : (nI 6 * x1).toInt = 6 * x1.toInt := by rw [i_mul (by rw [ti_6]; omega) (by rw [ti_6]; omega), ti_6]
    have e2 : (nI 6 * x1 + hA h 77 x1.toNatClampNeg).toInt = 6 * x1.toInt + (hA h 77 x1.toNatClampNeg).toInt := by rw [i_add (by rw [e6]; omega) (by rw [e6]; omega), e6]
    have e3 := i32_clamp (x := nI 6 * x1 + hA h 77 x1.toNatClampNeg) (by omega)
    refine ⟨vp_of (by omega) (by omega), ?_⟩
    rw [show (nI 6 * x1 + hA h 77 x1.toNatClampNeg).toNatClampNeg = 6 * x1.toNatClampNeg + (hA h 77 x1.toNatClampNeg).toNatClampNeg by omega]
    rw [show ∀ g : aH, ∀ v : Int32, hA (stA g 77 x1.toNatClampNeg v) 77 x1.toNatClampNeg = v from fun g v => by
      show up2 (hA g) 77 x1.toNatClampNeg v 77 x1.toNatClampNeg = v
      simp [up2], add_sub1]
    exact k1 ⟨c, c1, by omega⟩
  · simp only [Int32.lt_iff_toInt_lt, Int32.le_iff_toInt_le, ti_z, ti_m1, ti_m24, ti_0, ti_1, ti_2, ti_3, ti_4, ti_5, ti_6, ti_7, ti_8, ti_11, ti_12, ti_15, ti_24, ti_28, ti_31, ti_47, ti_48, ti_52, ti_90, ti_100, ti_127, ti_336, ti_363, ti_364, ti_400, ti_416, ti_576, ti_17471, ti_17472] at c3; intro q; omega
theorem rO_at {h : aH} {s : Nat} {x2 : Int32} : (∀ t, hA (rOptH h s x2) 77 t = if t = s then hA h 77 s + nI 1 else hA h 77 t) ∧ (∀ j, hA (rOptH h s x2) 78 j = if j = 6 * s + (hA h 77 s).toNatClampNeg then x2 else hA h 78 j) := by
  refine ⟨fun t => ?_, fun j => ?_⟩
  · show (if (77 : Nat) = 77 ∧ t = s then hA h 77 s + nI 1 else hA h 77 t) = _; simp
  · show (if (78 : Nat) = 78 ∧ j = 6 * s + (hA h 77 s).toNatClampNeg then x2 else hA h 78 j) = _; simp
theorem RI.option {h : aH} {x1 x2 : Int32} (S : RI h) (ok : rOptOK h x1 x2) : RI (rOptH h x1.toNatClampNeg x2) := by
  obtain ⟨hN, hL, hP, hC, hF, hS1, hS2, hS3, hS4⟩ := S
  have hN' := hN
  unfold RIn at hN'
  have e := i32_clamp ok.1.1
  have h3 := ok.1.2
  have ok2 := ok.2.1
  generalize x1.toNatClampNeg = s at *
  have hc := (hS1 s (by omega)).2.2.2.1
  obtain ⟨d1, d2⟩ := cnt1 (n := 6) (by decide) hc ok2
  have e4 := i32_clamp hc.1
  obtain ⟨a1, a2⟩ := rO_at (h := h) (s := s) (x2 := x2)
  refine ⟨hN, hL, hP, hC, hF, fun t ht => ?_, fun t ht h14 => ?_, hS3, fun t w ht hw => ?_⟩
  · have ht : (t : Int) < (hI h 63 14).toInt := ht
    obtain ⟨r1, r2, r3, r4, r5⟩ := hS1 t ht
    unfold RSe
    rw [a1]
    by_cases g : t = s
    · rw [if_pos g]
      refine ⟨r1, r2, r3, by omega, fun i hi => ?_⟩
      rw [a2]
      split
      · exact ok.2.2
      · subst g
        exact r5 i (by omega)
    · rw [if_neg g]
      refine ⟨r1, r2, r3, r4, fun i hi => ?_⟩
      rw [a2, if_neg (by omega)]
      exact r5 i hi
  · have h14 : ¬ (t : Int) < (hI h 63 14).toInt := h14
    rw [a1, if_neg (by omega)]
    exact hS2 t ht h14
  · rcases hS4 t w ht hw with q | ⟨q1, i, q2, q3, q4, q5⟩
    · exact Or.inl q
    · have hct := (hS1 t q1).2.2.2.1
      have up : ∀ i : Nat, (i : Int) < (hA h 77 t).toInt → hA (rOptH h s x2) 78 (6 * t + i) = hA h 78 (6 * t + i) := fun i hi => by
        by_cases g : t = s
        · subst g
          rw [a2, if_neg (by omega)]
        · rw [a2, if_neg (by omega)]
      have lt : (hA h 77 t).toInt ≤ (hA (rOptH h s x2) 77 t).toInt := by
        rw [a1]
        split
        · next g => subst g; omega
        · exact Int.le_refl _
      refine Or.inr ⟨q1, i, q2, by omega, by rw [up i q3]; exact q4, ?_⟩
      rcases q5 with z | ⟨z1, j, z2, z3, z4, z5⟩
      · exact Or.inl z
      · exact Or.inr ⟨z1, j, z2, by omega, z4, by rw [up j z3]; exact z5⟩
/-! the class -/
def kOptH (h : aH) (o : Nat) (x2 : Int32) : aH := stI (stA h (o + 1) (hI h o 7).toNatClampNeg x2) o 7 (hI h o 7 + nI 1)
theorem k_option {l : Launch} {E : eE} {d bc bs : Nat} {h : aH} {K : Int32 → aH → Prop} {x1 x2 : Int32} (V : LV h) (hd : 1 ≤ d) (k1 : rOptOK h x1 x2 → ∀ s o : Nat, x1 = nI s → (s : Int) < (hI h 63 14).toInt → SeAt h s o → K (hA h 77 s) (kOptH h o x2)) (k0 : ¬ rOptOK h x1 x2 → K (-1) h) : CI l E d bc bs mX11_option [.inr (some (0, 11, 0)), .inl x1, .inl x2] h K := by
  obtain ⟨d, rfl⟩ : ∃ d', d = d' + 1 := ⟨d - 1, by omega⟩
  have S := V.sk
  have R := V.1.1
  have hN := S.n
  unfold RIn at hN
  refine bX11_option_0 R (k_seriesAt S V.2.1.2.1 (fun c => ⟨R, fun _ => k0 (fun q => c q.1), fun _ e => by cases e⟩) (fun s o e hs hl => ?_))
  have hpc : x1.toNatClampNeg = s := by rw [e, nI_clamp (by omega)]
  have hc := (V.1.2.2.2.2.2.2.1 s hs).2.2.2.1
  obtain ⟨f1, f2, f3, f4, f5, f6, f7, f8, f9⟩ := hl.1.1
  refine ⟨R, fun e => (by cases e), fun _ _ => ⟨o, rfl, fun c1 => k0 ?_, fun c1 => ⟨fun c2 => k0 ?_, fun c2 => ⟨fun c3 => ⟨o + 1, f7, ?_⟩, fun c3 => k0 ?_⟩⟩⟩⟩
  · rw [f6, Int32.le_iff_toInt_le, ti_6] at c1
    intro q
    have q2 := q.2.1
    rw [hpc] at q2
    exact q2 (i32_eq (by decide) (by omega))
  · simp only [Int32.lt_iff_toInt_lt, Int32.le_iff_toInt_le, ti_z, ti_m1, ti_m24, ti_0, ti_1, ti_2, ti_3, ti_4, ti_5, ti_6, ti_7, ti_8, ti_11, ti_12, ti_15, ti_24, ti_28, ti_31, ti_47, ti_48, ti_52, ti_90, ti_100, ti_127, ti_336, ti_363, ti_364, ti_400, ti_416, ti_576, ti_17471, ti_17472] at c2; intro q; omega
  · rw [f6] at c1
    simp only [Int32.lt_iff_toInt_lt, Int32.le_iff_toInt_le, ti_z, ti_m1, ti_m24, ti_0, ti_1, ti_2, ti_3, ti_4, ti_5, ti_6, ti_7, ti_8, ti_11, ti_12, ti_15, ti_24, ti_28, ti_31, ti_47, ti_48, ti_52, ti_90, ti_100, ti_127, ti_336, ti_363, ti_364, ti_400, ti_416, ti_576, ti_17471, ti_17472] at c1 c2 c3
    refine ⟨vp_of (by rw [f6]; omega) (by rw [f6]; omega), ?_⟩
    have kk := k1 ⟨by rw [e]; exact ⟨by rw [nI_toInt (by omega)]; omega, by rw [nI_toInt (by omega)]; exact hs⟩, by rw [hpc]; exact fun q => c1 (by rw [q, ti_6]; omega), by omega⟩ s o e hs hl
    rw [← f6] at kk
    exact kk
  · simp only [Int32.lt_iff_toInt_lt, Int32.le_iff_toInt_le, ti_z, ti_m1, ti_m24, ti_0, ti_1, ti_2, ti_3, ti_4, ti_5, ti_6, ti_7, ti_8, ti_11, ti_12, ti_15, ti_24, ti_28, ti_31, ti_47, ti_48, ti_52, ti_90, ti_100, ti_127, ti_336, ti_363, ti_364, ti_400, ti_416, ti_576, ti_17471, ti_17472] at c3; intro q; omega
/-- another series' object and arrays are apart -/
theorem SeT.apart {h : aH} {o o2 : Nat} (t : SeT h o) (t2 : SeT h o2) (hne : o2 ≠ o) : o2 + 1 ≠ o ∧ o2 + 2 ≠ o ∧ o2 + 3 ≠ o ∧ o2 + 1 ≠ o + 2 ∧ o2 + 1 ≠ o + 3 ∧ o2 + 2 ≠ o + 1 ∧ o2 + 2 ≠ o + 3 ∧ o2 + 3 ≠ o + 1 ∧ o2 + 3 ≠ o + 2 := by
  obtain ⟨⟨u1, u2, u3⟩, u4, u5, u6, u7⟩ := t
  obtain ⟨⟨v1, v2, v3⟩, v4, v5, v6, v7⟩ := t2
  refine ⟨fun z => ?_, fun z => ?_, fun z => ?_, fun z => ?_, fun z => ?_, fun z => ?_, fun z => ?_, fun z => ?_, fun z => ?_⟩
  · rw [z, u3] at v5; cases v5
  · rw [z, u3] at v6; cases v6
  · rw [z, u3] at v7; cases v7
  · have : o2 = o + 1 := by omega
    rw [← this, v3] at u5; cases u5
  · rw [z, u7] at v5; cases v5
  · have : o = o2 + 1 := by omega
    rw [← this, u3] at v5; cases v5
  · rw [z, u7] at v6; cases v6
  · rw [z, u5] at v7; cases v7
  · rw [z, u6] at v7; cases v7
/-- a change within one series' own object and arrays leaves clocks and persons alone -/
theorem SK2.ser {h h' g g' : aH} {o : Nat} (S : SK2 h g) (t : SeT h o) (hI' : ∀ q, q ≠ o → hI h' q = hI h q) (hR' : hR h' = hR h) (hA' : ∀ q, q ≠ o + 1 → q ≠ o + 2 → q ≠ o + 3 → hA h' q = hA h q) (hQ' : hQ h' = hQ h) (hT' : hT h' = hT h) (hN' : hN h' = hN h) (i1 : hI g' 63 1 = hI g 63 1) (i3 : hI g' 63 3 = hI g 63 3) (i8 : hI g' 63 8 = hI g 63 8) (i14 : hI g' 63 14 = hI g 63 14) (hg : ∀ a, 64 ≤ a → a ≤ 73 → hA g' a = hA g a) : SK2 h' g' := by
  obtain ⟨⟨u1, u2, u3⟩, u4, u5, u6, u7⟩ := t
  have ex : exH h h' := ⟨by rw [hN']; exact Nat.le_refl _, fun i _ => by rw [hT']⟩
  have e64 := hg 64 (by decide) (by decide); have e65 := hg 65 (by decide) (by decide); have e66 := hg 66 (by decide) (by decide); have e67 := hg 67 (by decide) (by decide); have e68 := hg 68 (by decide) (by decide)
  have e69 := hg 69 (by decide) (by decide); have e70 := hg 70 (by decide) (by decide); have e71 := hg 71 (by decide) (by decide); have e72 := hg 72 (by decide) (by decide); have e73 := hg 73 (by decide) (by decide)
  have f3 : ∀ q, isO h q 3 → hI h' q = hI h q ∧ hR h' q = hR h q := fun q hq => ⟨hI' q (fun z => by have := hq.2.2; rw [z, u3] at this; cases this), by rw [hR']⟩
  refine ⟨?_, fun i hi => ?_, fun p hp => ?_⟩
  · unfold CLn2
    rw [hI' 0 (by omega), i1, i3, i8, i14]
    exact S.1
  · rw [i1] at hi
    obtain ⟨lo, l1, l2, l3, l4, l5⟩ := S.2.1 i hi
    refine ⟨lo, by rw [hQ']; exact l1, by rw [hI' lo (fun z => by have := l5.2.2; rw [z, u3] at this; cases this), e64]; exact l2, ?_, ?_, l5.1, by rw [hN']; exact l5.2.1, by rw [hT']; exact l5.2.2⟩
    · unfold cCh2 nF
      rw [hR', e69, e70, e71, e72, e73, i8]
      exact chn.mv3 f3 ex _ _ (fun k _ => ⟨Iff.rfl, rfl, rfl, rfl⟩) l3
    · unfold cFe2 nF
      rw [hR', e69, e70, e71, e73, i8]
      exact chn.mv3 f3 ex _ _ (fun k _ => ⟨Iff.rfl, rfl, rfl, rfl⟩) l4
  · rw [i3] at hp
    obtain ⟨po, a, w1, w2, w3, w4, w5, w6, w7, w8, w9⟩ := S.2.2 p hp
    have hne : po ≠ o := fun z => by have := w8.2.2; rw [z, u3] at this; cases this
    refine ⟨po, a, by rw [hQ']; exact w1, by rw [hR', hQ', e65]; exact w2, by rw [hI' po hne, e66]; exact w3, by rw [hR']; exact w4, by rw [hI' po hne, e67]; exact w5, fun w i hi => ?_, ?_, ⟨w8.1, by rw [hN']; exact w8.2.1, by rw [hT']; exact w8.2.2⟩, w9.1, by rw [hN']; exact w9.2.1, by rw [hT']; exact w9.2.2⟩
    · rw [e67] at w
      rw [hA' a (fun z => by have := w9.2.2; rw [z, u5] at this; cases this) (fun z => by have := w9.2.2; rw [z, u6] at this; cases this) (fun z => by have := w9.2.2; rw [z, u7] at this; cases this), e68]
      exact w6 w i hi
    · unfold cBu2 nF
      rw [hR', e69, e70, e71, e72, e73, i8]
      exact chn.mv3 f3 ex _ _ (fun k _ => ⟨Iff.rfl, rfl, rfl, rfl⟩) w7
/-- the same for the whole relation, if the one series is well -/
theorem CL.ser {h h' g : aH} {s o : Nat} (V : LV h) (hs : (s : Int) < (hI h 63 14).toInt) (hl : SeAt h s o) (hI' : ∀ q, q ≠ o → hI h' q = hI h q) (hR' : hR h' = hR h) (hA' : ∀ q, q ≠ o + 1 → q ≠ o + 2 → q ≠ o + 3 → hA h' q = hA h q) (hQ' : hQ h' = hQ h) (hT' : hT h' = hT h) (hN' : hN h' = hN h) (hi : hI g 63 = hI h 63) (hg : ∀ a, 64 ≤ a → a ≤ 73 → hA g a = hA h a) (ho : ∀ t : Nat, (t : Int) < (hI h 63 14).toInt → t ≠ s → sameS h g t) (hb : SeB h' g s o) : RE h h' ∧ CL h' g ∧ 99 ≤ hN h' := by
  obtain ⟨R, ⟨c1, c2, c3, c4, c5⟩, hn⟩ := V
  have hsr := R.2.2.2.2.2.2.1
  have tt := hl.1.2.2.2.2
  obtain ⟨⟨u1, u2, u3⟩, u4, u5, u6, u7⟩ := tt
  have ex : exH h h' := ⟨by rw [hN']; exact Nat.le_refl _, fun i _ => by rw [hT']⟩
  have f3 : ∀ q, isO h q 3 → hI h' q = hI h q ∧ hR h' q = hR h q := fun q hq => ⟨hI' q (fun z => by have := hq.2.2; rw [z, u3] at this; cases this), by rw [hR']⟩
  have cc : ∀ t r, cCa2 h h t r → cCa2 h' g t r := fun t r c => by
    unfold cCa2 nF
    rw [hi, hg 69 (by decide) (by decide), hg 70 (by decide) (by decide), hg 71 (by decide) (by decide), hg 72 (by decide) (by decide), hg 73 (by decide) (by decide)]
    exact chn.mv3 f3 ex _ _ (fun k _ => ⟨Iff.rfl, rfl, rfl, rfl⟩) c
  refine ⟨⟨hI' 63 (by omega), fun a g1 g2 => hA' a (by omega) (by omega) (by omega)⟩, ⟨c1.ser hl.1.2.2.2.2 hI' hR' hA' hQ' hT' hN' (by rw [hi]) (by rw [hi]) (by rw [hi]) (by rw [hi]) hg, fun t ht => ?_, ?_, ?_, ?_⟩, by rw [hN']; exact hn⟩
  · rw [hi] at ht
    by_cases e : t = s
    · subst e
      exact ⟨o, hb, by rw [hR']; exact cc _ _ hl.2⟩
    · obtain ⟨o2, h2⟩ := c2 t ht
      have hne : o2 ≠ o := fun z => e (c4 t s ht hs (by rw [h2.1.1.1, hl.1.1.1, z]))
      obtain ⟨p1, p2, p3, p4, p5, p6, p7, p8, p9⟩ := hl.1.2.2.2.2.apart h2.1.2.2.2.2 hne
      exact ⟨o2, h2.1.mv (hsr t ht).2.2.2.1.2 (by rw [hQ']) (fun _ => by rw [hQ']) (hI' o2 hne) (fun k _ => by rw [hR']) (hA' _ (by omega) (by omega) (by omega)) (hA' _ (by omega) (by omega) (by omega)) (hA' _ (by omega) (by omega) (by omega)) ex (ho t ht e), by rw [hR']; exact cc _ _ h2.2⟩
  · unfold CLd
    rw [hi, hQ', hR']
    exact c3
  · unfold CLe
    rw [hi, hQ']
    exact c4
  · unfold CLk
    rw [hI' 0 (by omega), hi]
    exact c5
theorem CL.option {h : aH} {x1 x2 : Int32} {s o : Nat} (V : LV h) (ok : rOptOK h x1 x2) (e : x1 = nI s) (hs : (s : Int) < (hI h 63 14).toInt) (hl : SeAt h s o) : RE h (kOptH h o x2) ∧ CL (kOptH h o x2) (rOptH h s x2) ∧ RI (rOptH h s x2) ∧ 99 ≤ hN (kOptH h o x2) := by
  have hN := V.1.2.1
  unfold RIn at hN
  have hpc : x1.toNatClampNeg = s := by rw [e, nI_clamp (by omega)]
  have ri := RI.option V.1.2 ok
  have ok2 := ok.2.1
  rw [hpc] at ri ok2
  have hc := (V.1.2.2.2.2.2.2.1 s hs).2.2.2.1
  obtain ⟨d1, d2⟩ := cnt1 (n := 6) (by decide) hc ok2
  have e4 := i32_clamp hc.1
  obtain ⟨a1, a2⟩ := rO_at (h := h) (s := s) (x2 := x2)
  obtain ⟨⟨f1, f2, f3, f4, f5, f6, f7, f8, f9⟩, b2, b3, b4, b5⟩ := hl.1
  obtain ⟨⟨u1, u2, u3⟩, u4, u5, u6, u7⟩ := b5
  have iO : ∀ k, hI (kOptH h o x2) o k = if k = 7 then hI h o 7 + nI 1 else hI h o k := fun k => by
    show up2 (hI h) o 7 (hI h o 7 + nI 1) o k = _
    simp [up2]
  have iA : ∀ q, q ≠ o + 1 → hA (kOptH h o x2) q = hA h q := fun q hq => up2_ne hq
  have iA1 : ∀ j, hA (kOptH h o x2) (o + 1) j = if j = (hA h 77 s).toNatClampNeg then x2 else hA h (o + 1) j := fun j => by
    show up2 (hA h) (o + 1) (hI h o 7).toNatClampNeg x2 (o + 1) j = _
    rw [f6]
    simp [up2]
  obtain ⟨q1, q2, q3⟩ := CL.ser (h' := kOptH h o x2) (g := rOptH h s x2) V hs hl (fun q hq => up2_ne hq) rfl (fun q h1 _ _ => iA q h1) rfl rfl rfl rfl (fun a g1 g2 => by
      show up2 (up2 (hA h) 78 _ x2) 77 s _ a = _
      rw [up2_ne (by omega), up2_ne (by omega)]) (fun t ht hne => ⟨rfl, rfl, rfl, by rw [a1, if_neg hne], fun i hi => by rw [a2, if_neg (by omega)], fun _ _ => rfl, fun _ _ => rfl⟩)
    ⟨⟨f1, by rw [iO, if_neg (by decide)]; exact f2, by rw [iO, if_neg (by decide)]; exact f3, f4, by rw [iO, if_neg (by decide)]; exact f5, by rw [iO, if_pos rfl, f6, a1, if_pos rfl], f7, f8, f9⟩, fun i hi => by
      rw [a1, if_pos rfl, d2] at hi
      rw [iA1, a2]
      by_cases z : i = (hA h 77 s).toNatClampNeg
      · rw [if_pos z, if_pos (by omega)]
      · rw [if_neg z, if_neg (by omega)]
        exact b2 i (by omega), fun r hr => by rw [iA (o + 2) (by omega)]; exact b3 r hr, fun w hw => by rw [iA (o + 3) (by omega)]; exact b4 w hw, ⟨u1, u2, u3⟩, u4, u5, u6, u7⟩
  exact ⟨q1, q2, ri, q3⟩
/-! ===== role: both sides ===== -/
abbrev rRoleOK (h : aH) (x1 x2 x3 : Int32) : Prop := inI x1 (hI h 63 14) ∧ inI x2 (hI h 63 3) ∧ 0 ≤ x3.toInt ∧ x3.toInt ≤ 5
def rRoleH (h : aH) (s p : Nat) (x3 : Int32) : aH := stA h 79 (12 * s + p) x3
theorem c_role {l : Launch} {E : eE} {d bc bs : Nat} {h : aH} {K : Int32 → aH → Prop} {x1 x2 x3 : Int32} (S : SR h) (hd : 1 ≤ d) (k1 : rRoleOK h x1 x2 x3 → K (nI 1) (rRoleH h x1.toNatClampNeg x2.toNatClampNeg x3)) (k0 : ¬ rRoleOK h x1 x2 x3 → K (nI 0) h) : CI l E d bc bs mX12_role [.inr (some (0, 12, 63)), .inl x1, .inl x2, .inl x3] h K := by
  obtain ⟨d, rfl⟩ : ∃ d', d = d' + 1 := ⟨d - 1, by omega⟩
  have hN := S.2.1
  unfold RIn at hN
  refine bX12_role_0 S.1 ⟨fun c => k0 (fun q => c q.1), fun c => ⟨fun c1 => k0 (fun q => c1 q.2.1), fun c1 => ⟨fun c2 => k0 ?_, fun c2 => ⟨fun c3 => ?_, fun c3 => k0 ?_⟩⟩⟩⟩
  · simp only [Int32.lt_iff_toInt_lt, Int32.le_iff_toInt_le, ti_z, ti_m1, ti_m24, ti_0, ti_1, ti_2, ti_3, ti_4, ti_5, ti_6, ti_7, ti_8, ti_11, ti_12, ti_15, ti_24, ti_28, ti_31, ti_47, ti_48, ti_52, ti_90, ti_100, ti_127, ti_336, ti_363, ti_364, ti_400, ti_416, ti_576, ti_17471, ti_17472] at c2; intro q; omega
  · simp only [Int32.lt_iff_toInt_lt, Int32.le_iff_toInt_le, ti_z, ti_m1, ti_m24, ti_0, ti_1, ti_2, ti_3, ti_4, ti_5, ti_6, ti_7, ti_8, ti_11, ti_12, ti_15, ti_24, ti_28, ti_31, ti_47, ti_48, ti_52, ti_90, ti_100, ti_127, ti_336, ti_363, ti_364, ti_400, ti_416, ti_576, ti_17471, ti_17472] at c2 c3
    have e := i32_clamp c.1
    have e' := i32_clamp c1.1
    have h3 := c.2
    have h4 := c1.2
    have e6 : (nI 12 * x1).toInt = 12 * x1.toInt := by rw [i_mul (by rw [ti_12]; omega) (by rw [ti_12]; omega), ti_12]
    have e2 : (nI 12 * x1 + x2).toInt = 12 * x1.toInt + x2.toInt := by rw [i_add (by rw [e6]; omega) (by rw [e6]; omega), e6]
    have e3 := i32_clamp (x := nI 12 * x1 + x2) (by omega)
    refine ⟨vp_of (by omega) (by omega), ?_⟩
    rw [show (nI 12 * x1 + x2).toNatClampNeg = 12 * x1.toNatClampNeg + x2.toNatClampNeg by omega]
    exact k1 ⟨c, c1, by omega⟩
  · simp only [Int32.lt_iff_toInt_lt, Int32.le_iff_toInt_le, ti_z, ti_m1, ti_m24, ti_0, ti_1, ti_2, ti_3, ti_4, ti_5, ti_6, ti_7, ti_8, ti_11, ti_12, ti_15, ti_24, ti_28, ti_31, ti_47, ti_48, ti_52, ti_90, ti_100, ti_127, ti_336, ti_363, ti_364, ti_400, ti_416, ti_576, ti_17471, ti_17472] at c3; intro q; omega
theorem RI.role {h : aH} {s p : Nat} {x3 : Int32} (S : RI h) (hs : (s : Int) < (hI h 63 14).toInt) (hp : (p : Int) < (hI h 63 3).toInt) (h3 : 0 ≤ x3.toInt ∧ x3.toInt ≤ 5) : RI (rRoleH h s p x3) := by
  obtain ⟨hN, hL, hP, hC, hF, hS1, hS2, hS3, hS4⟩ := S
  have hN' := hN
  unfold RIn at hN'
  have a1 : ∀ j, hA (rRoleH h s p x3) 79 j = if j = 12 * s + p then x3 else hA h 79 j := fun j => by
    show up2 (hA h) 79 (12 * s + p) x3 79 j = _
    simp [up2]
  refine ⟨hN, hL, hP, hC, hF, hS1, hS2, fun t q ht hq => ?_, hS4⟩
  rw [a1]
  by_cases g : 12 * t + q = 12 * s + p
  · rw [if_pos g]
    refine ⟨h3.1, h3.2, fun z => absurd ⟨?_, ?_⟩ z⟩
    · show (t : Int) < (hI h 63 14).toInt; omega
    · show (q : Int) < (hI h 63 3).toInt; omega
  · rw [if_neg g]
    exact hS3 t q ht hq
/-! the class -/
def kRoF (f : Nat → Int32) (p : Nat) (i : Nat) : Nat → Int32 := fun k => if k < i then f k &&& ((nI 1 <<< (nI p &&& 31)) ^^^ (-1)) else f k
def kRoleH (h : aH) (o p r : Nat) : aH := stAA h (o + 2) (fun k => if k = r then kRoF (hA h (o + 2)) p 6 r ||| (nI 1 <<< (nI p &&& 31)) else kRoF (hA h (o + 2)) p 6 k)
theorem w_giveRole {l : Launch} {E : eE} {d bc bs : Nat} {K : aH → Prop} {g : aH} {o p r : Nat} (S : SH g) (hr5 : hR g o 5 = some (1, 6, o + 2)) (hr : r < 6) (k : K (kRoleH g o p r)) : ∀ (j i : Nat), i + j = 6 → LX9_giveRole_2 l E d bc bs o (nI p) (nI r) (nI i) (stAA g (o + 2) (kRoF (hA g (o + 2)) p i)) K := by
  intro j
  induction j with
  | zero =>
    intro i hi
    have hi : i = 6 := by omega
    subst hi
    refine bX9_giveRole_2 S ⟨fun _ => ⟨o + 2, hr5, vp_in_nI hr (by decide), ?_⟩, fun c => absurd (nI_le (Nat.le_refl 6) (by omega)) c⟩
    rw [nI_clamp (by omega), stA_stAA, hA_AA]
    exact k
  | succ j ih =>
    intro i hi
    refine bX9_giveRole_2 S ⟨fun c => absurd c (nI_ge (by omega) (by omega)), fun _ => ⟨o + 2, hr5, vp_in_nI (by omega) (by omega), ?_⟩⟩
    rw [nI_clamp (by omega), stA_stAA, hA_AA, nI_add]
    have e : (fun k => if k = i then kRoF (hA g (o + 2)) p i i &&& ((nI 1 <<< (nI p &&& 31)) ^^^ (-1)) else kRoF (hA g (o + 2)) p i k) = kRoF (hA g (o + 2)) p (i + 1) := by
      funext k
      unfold kRoF
      by_cases z : k = i
      · subst z
        rw [if_pos rfl, if_neg (by omega), if_pos (by omega)]
      · rw [if_neg z]
        by_cases y : k < i
        · rw [if_pos y, if_pos (by omega)]
        · rw [if_neg y, if_neg (by omega)]
    rw [e]
    exact ih (i + 1) (by omega)
theorem k_giveRole {l : Launch} {E : eE} {d bc bs : Nat} {h : aH} {K : aH → Prop} {o p r : Nat} (S : SH h) (hr5 : hR h o 5 = some (1, 6, o + 2)) (hr : r < 6) (k : K (kRoleH h o p r)) : CV l E d bc bs mX9_giveRole [.inr (some (0, 9, o)), .inl (nI p), .inl (nI r)] h K := by
  have w := w_giveRole (l := l) (E := E) (d := d) (bc := bc) (bs := bs) S hr5 hr k 6 0 (by omega)
  rw [show kRoF (hA h (o + 2)) p 0 = hA h (o + 2) from funext fun k => by unfold kRoF; rw [if_neg (by omega)], stAA_id] at w
  exact bX9_giveRole_0 S w
theorem k_role {l : Launch} {E : eE} {d bc bs : Nat} {h : aH} {K : Int32 → aH → Prop} {x1 x2 x3 : Int32} (V : LV h) (hd : 1 ≤ d) (k1 : rRoleOK h x1 x2 x3 → ∀ s o p r : Nat, x1 = nI s → (s : Int) < (hI h 63 14).toInt → SeAt h s o → x2 = nI p → (p : Int) < (hI h 63 3).toInt → x3 = nI r → r < 6 → K (nI 1) (kRoleH h o p r)) (k0 : ¬ rRoleOK h x1 x2 x3 → K (nI 0) h) : CI l E d bc bs mX11_role [.inr (some (0, 11, 0)), .inl x1, .inl x2, .inl x3] h K := by
  obtain ⟨d, rfl⟩ : ∃ d', d = d' + 1 := ⟨d - 1, by omega⟩
  have S := V.sk
  have R := V.1.1
  have hN := S.n
  unfold RIn at hN
  refine bX11_role_0 R (k_seriesAt S V.2.1.2.1 (fun c => ⟨R, fun _ => k0 (fun q => c q.1), fun _ e => by cases e⟩) (fun s o e hs hl => ⟨R, fun e => (by cases e), fun _ _ => k_personAt S (fun c => ⟨R, fun _ => k0 (fun q => c q.2.1), fun _ e => by cases e⟩) (fun p o2 a e2 hp hl2 => ⟨R, fun e => (by cases e), fun _ _ => ⟨fun c2 => k0 ?_, fun c2 => ⟨fun c3 => ⟨o, rfl, ?_⟩, fun c3 => k0 ?_⟩⟩⟩)⟩))
  · simp only [Int32.lt_iff_toInt_lt, Int32.le_iff_toInt_le, ti_z, ti_m1, ti_m24, ti_0, ti_1, ti_2, ti_3, ti_4, ti_5, ti_6, ti_7, ti_8, ti_11, ti_12, ti_15, ti_24, ti_28, ti_31, ti_47, ti_48, ti_52, ti_90, ti_100, ti_127, ti_336, ti_363, ti_364, ti_400, ti_416, ti_576, ti_17471, ti_17472] at c2; intro q; omega
  · simp only [Int32.lt_iff_toInt_lt, Int32.le_iff_toInt_le, ti_z, ti_m1, ti_m24, ti_0, ti_1, ti_2, ti_3, ti_4, ti_5, ti_6, ti_7, ti_8, ti_11, ti_12, ti_15, ti_24, ti_28, ti_31, ti_47, ti_48, ti_52, ti_90, ti_100, ti_127, ti_336, ti_363, ti_364, ti_400, ti_416, ti_576, ti_17471, ti_17472] at c2 c3
    have e3 := i32_clamp (x := x3) (by omega)
    have e4 := i32_nn (x := x3) (by omega)
    have ok : rRoleOK h x1 x2 x3 := ⟨by rw [e]; exact ⟨by rw [nI_toInt (by omega)]; omega, by rw [nI_toInt (by omega)]; exact hs⟩, by rw [e2]; exact ⟨by rw [nI_toInt (by omega)]; omega, by rw [nI_toInt (by omega)]; exact hp⟩, by omega⟩
    have kk := k1 ok s o p x3.toNatClampNeg e hs hl e2 hp e4 (by omega)
    rw [e2, e4]
    exact k_giveRole R hl.1.1.2.2.2.2.2.2.2.1 (by omega) ⟨R, kk⟩
  · simp only [Int32.lt_iff_toInt_lt, Int32.le_iff_toInt_le, ti_z, ti_m1, ti_m24, ti_0, ti_1, ti_2, ti_3, ti_4, ti_5, ti_6, ti_7, ti_8, ti_11, ti_12, ti_15, ti_24, ti_28, ti_31, ti_47, ti_48, ti_52, ti_90, ti_100, ti_127, ti_336, ti_363, ti_364, ti_400, ti_416, ti_576, ti_17471, ti_17472] at c3; intro q; omega
theorem bt_m1 {p : Nat} (hp : p < 32) : bt (-1) p = true := by
  have e : ∀ p, p < 32 → bt (-1) p = true := by decide
  exact e p hp
theorem bt_cl (x : Int32) {p q : Nat} (hp : p < 32) (hq : q < 32) : bt (x &&& ((nI 1 <<< (nI p &&& 31)) ^^^ (-1))) q = (bt x q && !decide (q = p)) := by
  rw [bt_and, bt_xor, bt_pow hp hq, bt_m1 hq, Bool.xor_true]
theorem CL.role {h : aH} {s o p r : Nat} (V : LV h) (hs : (s : Int) < (hI h 63 14).toInt) (hl : SeAt h s o) (hp : (p : Int) < (hI h 63 3).toInt) (hr : r < 6) : RE h (kRoleH h o p r) ∧ CL (kRoleH h o p r) (rRoleH h s p (nI r)) ∧ RI (rRoleH h s p (nI r)) ∧ 99 ≤ hN (kRoleH h o p r) := by
  have hN := V.1.2.1
  unfold RIn at hN
  have er : (nI r).toInt = r := nI_toInt (by omega)
  have ri := RI.role (x3 := nI r) V.1.2 hs hp (by omega)
  obtain ⟨⟨f1, f2, f3, f4, f5, f6, f7, f8, f9⟩, b2, b3, b4, b5⟩ := hl.1
  obtain ⟨⟨u1, u2, u3⟩, u4, u5, u6, u7⟩ := b5
  have a1 : ∀ j, hA (rRoleH h s p (nI r)) 79 j = if j = 12 * s + p then nI r else hA h 79 j := fun j => by
    show up2 (hA h) 79 (12 * s + p) (nI r) 79 j = _
    simp [up2]
  have iA : ∀ q, q ≠ o + 2 → hA (kRoleH h o p r) q = hA h q := fun q hq => up1_ne hq
  have iA2 : hA (kRoleH h o p r) (o + 2) = fun k => if k = r then kRoF (hA h (o + 2)) p 6 r ||| (nI 1 <<< (nI p &&& 31)) else kRoF (hA h (o + 2)) p 6 k := hA_AA _ _ _
  have p12 : p < 12 := by omega
  have key : SeRo (kRoleH h o p r) (rRoleH h s p (nI r)) s o := fun k hk => by
    obtain ⟨z1, z2⟩ := b3 k hk
    have ek : kRoF (hA h (o + 2)) p 6 k = hA h (o + 2) k &&& ((nI 1 <<< (nI p &&& 31)) ^^^ (-1)) := if_pos hk
    have smk : sm 12 (kRoF (hA h (o + 2)) p 6 k) := by rw [ek]; exact sm_and z1
    rw [iA2]
    by_cases g : k = r
    · subst g
      simp only [if_pos]
      refine ⟨sm_or smk (sm_pow p12 (by decide)), fun h1 q hq => ?_⟩
      rw [bt_or, ek, bt_cl _ (by omega) (by omega), bt_pow (by omega) (by omega), a1]
      by_cases c : q = p
      · subst c
        simp
      · rw [if_neg (by omega)]
        have := z2 h1 q hq
        simp [c, this]
    · simp only [if_neg g]
      refine ⟨smk, fun h1 q hq => ?_⟩
      rw [ek, bt_cl _ (by omega) (by omega), a1]
      by_cases c : q = p
      · subst c
        simp
        intro z
        exact g (nI_inj (by omega) (by omega) z.symm)
      · rw [if_neg (by omega)]
        have := z2 h1 q hq
        simp [c, this]
  obtain ⟨q1, q2, q3⟩ := CL.ser (h' := kRoleH h o p r) (g := rRoleH h s p (nI r)) V hs hl (fun q hq => rfl) rfl (fun q _ h2 _ => iA q h2) rfl rfl rfl rfl (fun a g1 g2 => up2_ne (by omega)) (fun t ht hne => ⟨rfl, rfl, rfl, rfl, fun _ _ => rfl, fun q hq => by rw [a1, if_neg (by omega)], fun _ _ => rfl⟩)
    ⟨⟨f1, f2, f3, f4, f5, f6, f7, f8, f9⟩, fun i hi => by rw [iA (o + 1) (by omega)]; exact b2 i hi, key, fun w hw => by rw [iA (o + 3) (by omega)]; exact b4 w hw, ⟨u1, u2, u3⟩, u4, u5, u6, u7⟩
  exact ⟨q1, q2, ri, q3⟩
