/-! ===== land, person, row, cell: the whole relation kept ===== -/
theorem new_ne {c o n : Nat} (h : o < n) : ¬ (some (0, c, n) : aR) = some (0, c, o) := fun e => by
  have := ref_inj e
  omega
theorem CL.land {h : aH} {x : Int32} (V : LV h) (ok : rLandOK h x) : SH (kLandH h x) ∧ RE h (kLandH h x) ∧ CL (kLandH h x) (rLandH h x) ∧ RI (rLandH h x) ∧ 99 ≤ hN (kLandH h x) := by
  obtain ⟨R, ⟨c1, c2, c3, c4, c5⟩, hn⟩ := V
  obtain ⟨s1, s2, s3, s4⟩ := SK2.land ⟨R, c1⟩ hn ok
  have hNn := R.2.1
  unfold RIn at hNn
  obtain ⟨d1, d2⟩ := cnt1 (n := 8) (by decide) hNn.1 ok.1
  have ec := i32_clamp hNn.1.1
  have e9 : (hI h 0 9).toNatClampNeg = (hI h 63 1).toNatClampNeg := by rw [c1.1.1]
  have f1 : hI (rLandH h x) 63 1 = hI h 63 1 + nI 1 := rfl
  have iI : ∀ q, q ≠ 0 → q ≠ hN h → hI (kLandH h x) q = hI h q := fun q h0 h1 => by
    show up2 (up2 (up1 (hI h) (hN h) (fun _ => 0)) (hN h) 0 x) 0 9 (hI h 0 9 + nI 1) q = _
    rw [up2_ne h0, up2_ne h1, up1_ne h1]
  have iR : ∀ q, q ≠ hN h → hR (kLandH h x) q = hR h q := fun q h1 => up1_ne h1
  have iQ : ∀ q, q ≠ 1 → q ≠ hN h → hQ (kLandH h x) q = hQ h q := fun q h0 h1 => by
    show up2 (up1 (hQ h) (hN h) (fun _ => none)) 1 (hI h 0 9).toNatClampNeg (some (0, 4, hN h)) q = _
    rw [up2_ne h0, up1_ne h1]
  have iQ1 : ∀ i, hQ (kLandH h x) 1 i = if i = (hI h 63 1).toNatClampNeg then some (0, 4, hN h) else hQ h 1 i := fun i => by
    show up2 (up1 (hQ h) (hN h) (fun _ => none)) 1 (hI h 0 9).toNatClampNeg (some (0, 4, hN h)) 1 i = _
    unfold up2
    rw [up1_ne (show (1 : Nat) ≠ hN h by omega), e9]
    simp
  refine ⟨s1, s2, ⟨s3, c2.mv R.2.2.2.2.2.2 ⟨s4, fun q a b _ => ⟨iI q (by omega) (by omega), iR q (by omega)⟩, fun q a b _ => up1_ne (by omega), iQ 3 (by decide) (by omega)⟩ (fun s _ => sameS.rf h s) (sameF.rf h) rfl, ⟨fun i j hi hj e => ?_, fun p q hp hq e => ?_, fun p q o o' hp hq e1 e2 e3 => ?_⟩, fun s t hs ht e => ?_, ⟨?_, c5.2⟩⟩, RI.land R.2 ok, by show 99 ≤ hN h + 1; omega⟩
  · rw [f1, d2] at hi hj
    rw [iQ1, iQ1] at e
    by_cases gi : i = (hI h 63 1).toNatClampNeg
    · by_cases gj : j = (hI h 63 1).toNatClampNeg
      · omega
      · rw [if_pos gi, if_neg gj] at e
        obtain ⟨o, ho⟩ := c1.2.1 j (by omega)
        rw [ho.1] at e
        exact absurd e (new_ne ho.2.2.2.2.2.1)
    · by_cases gj : j = (hI h 63 1).toNatClampNeg
      · rw [if_neg gi, if_pos gj] at e
        obtain ⟨o, ho⟩ := c1.2.1 i (by omega)
        rw [ho.1] at e
        exact absurd e.symm (new_ne ho.2.2.2.2.2.1)
      · rw [if_neg gi, if_neg gj] at e
        exact c3.1 i j (by omega) (by omega) e
  · rw [iQ 2 (by decide) (by omega)] at e
    exact c3.2.1 p q hp hq e
  · rw [iQ 2 (by decide) (by omega)] at e1 e2
    have hp' : (p : Int) < (hI h 63 3).toInt := hp
    have hq' : (q : Int) < (hI h 63 3).toInt := hq
    obtain ⟨o1, a1, ho1⟩ := c1.2.2 p hp'
    obtain ⟨o2, a2, ho2⟩ := c1.2.2 q hq'
    have x1 := ref_inj (e1.symm.trans ho1.1)
    have x2 := ref_inj (e2.symm.trans ho2.1)
    have y1 := ho1.2.2.2.2.2.2.2.1.2.1
    have y2 := ho2.2.2.2.2.2.2.2.1.2.1
    rw [iR o (by omega), iR o' (by omega)] at e3
    exact c3.2.2 p q o o' hp' hq' e1 e2 e3
  · rw [iQ 3 (by decide) (by omega)] at e
    exact c4 s t hs ht e
  · show up2 (up2 (up1 (hI h) (hN h) (fun _ => 0)) (hN h) 0 x) 0 9 (hI h 0 9 + nI 1) 0 13 = _
    rw [show up2 (up2 (up1 (hI h) (hN h) (fun _ => 0)) (hN h) 0 x) 0 9 (hI h 0 9 + nI 1) 0 13 = up2 (up1 (hI h) (hN h) (fun _ => 0)) (hN h) 0 x 0 13 by simp [up2], up2_ne (by omega), up1_ne (by omega)]
    exact c5.1
theorem CL.person {h : aH} {x1 x2 : Int32} {i lo : Nat} (V : LV h) (ok : rPersOK h x1 x2) (e : x1 = nI i) (hi : (i : Int) < (hI h 63 1).toInt) (hl : LdAt h i lo) : RE h (kPersH h lo x2) ∧ CL (kPersH h lo x2) (rPersH h x1 x2) ∧ RI (rPersH h x1 x2) ∧ 99 ≤ hN (kPersH h lo x2) := by
  obtain ⟨R, ⟨c1, c2, c3, c4, c5⟩, hn⟩ := V
  obtain ⟨s2, s3⟩ := SK2.person ⟨R, c1⟩ hn ok e hi hl
  obtain ⟨t1, t2, t3, s4⟩ := kP_T (h := h) (lo := lo) (x2 := x2)
  have hNn := R.2.1
  unfold RIn at hNn
  obtain ⟨d1, d2⟩ := cnt1 (n := 12) (by decide) hNn.2.1 ok.1
  have ec := i32_clamp hNn.2.1.1
  have e10 : (hI h 0 10).toNatClampNeg = (hI h 63 3).toNatClampNeg := by rw [c1.1.2.1]
  have f1 : hI (rPersH h x1 x2) 63 3 = hI h 63 3 + nI 1 := rfl
  have iQ2 : ∀ i, hQ (kPersH h lo x2) 2 i = if i = (hI h 63 3).toNatClampNeg then some (0, 6, hN h) else hQ h 2 i := fun i => by rw [kP_Q2 hn, e10]
  have old : ∀ p o : Nat, (p : Int) < (hI h 63 3).toInt → hQ h 2 p = some (0, 6, o) → o < hN h ∧ ∃ a, hR h o 2 = some (3, 48, a) ∧ a < hN h := fun p o hp ho => by
    obtain ⟨o1, a1, ho1⟩ := c1.2.2 p hp
    have := ref_inj (ho.symm.trans ho1.1)
    subst this
    exact ⟨ho1.2.2.2.2.2.2.2.1.2.1, a1, ho1.2.2.2.1, ho1.2.2.2.2.2.2.2.2.2.1⟩
  have newR := (kP_RN (h := h) (lo := lo) (x2 := x2)).2.1
  refine ⟨s2, ⟨s3, c2.mv R.2.2.2.2.2.2 ⟨s4, fun q a b _ => ⟨kP_I (by omega) (by omega) (by omega), kP_R (by omega) (by omega)⟩, fun q a b _ => kP_A (by omega) (by omega), kP_Q (by decide) (by omega) (by omega)⟩ (fun s _ => sameS.rf h s) (sameF.rf h) rfl, ⟨fun i j hi hj e => ?_, fun p q hp hq e => ?_, fun p q o o' hp hq e1 e2 e3 => ?_⟩, fun s t hs ht e => ?_, ⟨?_, c5.2⟩⟩, RI.person R.2 ok, by omega⟩
  · rw [kP_Q (by decide) (by omega) (by omega)] at e
    exact c3.1 i j hi hj e
  · rw [f1, d2] at hp hq
    rw [iQ2, iQ2] at e
    by_cases gi : p = (hI h 63 3).toNatClampNeg
    · by_cases gj : q = (hI h 63 3).toNatClampNeg
      · omega
      · rw [if_pos gi, if_neg gj] at e
        obtain ⟨o, a, ho⟩ := c1.2.2 q (by omega)
        rw [ho.1] at e
        exact absurd e (new_ne ho.2.2.2.2.2.2.2.1.2.1)
    · by_cases gj : q = (hI h 63 3).toNatClampNeg
      · rw [if_neg gi, if_pos gj] at e
        obtain ⟨o, a, ho⟩ := c1.2.2 p (by omega)
        rw [ho.1] at e
        exact absurd e.symm (new_ne ho.2.2.2.2.2.2.2.1.2.1)
      · rw [if_neg gi, if_neg gj] at e
        exact c3.2.1 p q (by omega) (by omega) e
  · rw [f1, d2] at hp hq
    rw [iQ2] at e1 e2
    by_cases gi : p = (hI h 63 3).toNatClampNeg
    · by_cases gj : q = (hI h 63 3).toNatClampNeg
      · omega
      · rw [if_pos gi] at e1
        rw [if_neg gj] at e2
        have := ref_inj e1
        subst this
        obtain ⟨x1, a, x3, x4⟩ := old q o' (by omega) e2
        rw [newR, kP_R (by omega) (by omega), x3] at e3
        cases e3
        omega
    · by_cases gj : q = (hI h 63 3).toNatClampNeg
      · rw [if_neg gi] at e1
        rw [if_pos gj] at e2
        have := ref_inj e2
        subst this
        obtain ⟨x1, a, x3, x4⟩ := old p o (by omega) e1
        rw [newR, kP_R (by omega) (by omega), x3] at e3
        cases e3
        omega
      · rw [if_neg gi] at e1
        rw [if_neg gj] at e2
        obtain ⟨x1, a, x3, x4⟩ := old p o (by omega) e1
        obtain ⟨y1, b, y3, y4⟩ := old q o' (by omega) e2
        rw [kP_R (by omega) (by omega), kP_R (by omega) (by omega)] at e3
        exact c3.2.2 p q o o' (by omega) (by omega) e1 e2 e3
  · rw [kP_Q (by decide) (by omega) (by omega)] at e
    exact c4 s t hs ht e
  · rw [kP_I0 hn, if_neg (by decide)]
    exact c5.1
/-! row and cell -/
theorem rRow_at {h : aH} {x1 x2 : Int32} {p : Nat} (e : x1 = nI p) (hp : p < 12) : (∀ q, hA (rRowH h x1 x2) 67 q = if q = p then x2 else hA h 67 q) ∧ (∀ j, hA (rRowH h x1 x2) 68 j = if 48 * p ≤ j ∧ j < 48 * p + 48 then nI 0 else hA h 68 j) := by
  have ec : x1.toNatClampNeg = p := by rw [e, nI_clamp (by omega)]
  refine ⟨fun q => ?_, fun j => ?_⟩
  · unfold rRowH
    rw [hA_AAn _ _ (by decide)]
    show up2 (hA h) 67 x1.toNatClampNeg x2 67 q = _
    rw [ec]
    simp [up2]
  · unfold rRowH
    rw [hA_AA, ec]
    rfl
theorem RI.row {h : aH} {x1 x2 : Int32} (S : RI h) (ok : rRowOK h x1 x2) : RI (rRowH h x1 x2) := by
  obtain ⟨hN, hL, hP, hC, hF, hS⟩ := S
  have hN' := hN
  unfold RIn at hN'
  have e := i32_clamp ok.1.1
  have h2 := ok.1.2
  obtain ⟨a1, a2⟩ := rRow_at (h := h) (x2 := x2) (i32_nn ok.1.1) (by omega)
  refine ⟨hN, hL, fun p hp => ?_, fun j hj => ?_, hF, hS⟩
  · obtain ⟨q1, q2, q3⟩ := hP p hp
    refine ⟨q1, q2, ?_⟩
    rw [a1]
    split
    · exact ok.2
    · exact q3
  · rw [a2]
    split
    · rw [ti_0]; omega
    · exact hC j hj
theorem CL.row {h : aH} {x1 x2 : Int32} {p o a : Nat} (V : LV h) (ok : rRowOK h x1 x2) (e : x1 = nI p) (hp : (p : Int) < (hI h 63 3).toInt) (hl : PeAt h p o a) : SH (kRowH h o a x2) ∧ RE h (kRowH h o a x2) ∧ CL (kRowH h o a x2) (rRowH h x1 x2) ∧ RI (rRowH h x1 x2) ∧ 99 ≤ hN (kRowH h o a x2) := by
  obtain ⟨R, ⟨c1, c2, c3, c4, c5⟩, hn⟩ := V
  have hNn := R.2.1
  unfold RIn at hNn
  obtain ⟨p1, p2, p3, p4, p5, p6, p7, ⟨g1, g2, g3⟩, y1, y2, y3⟩ := hl
  obtain ⟨a1, a2⟩ := rRow_at (h := h) (x1 := x1) (x2 := x2) (p := p) e (by omega)
  have iI : ∀ q k, hI (kRowH h o a x2) q k = if q = o ∧ k = 3 then (if x2 < nI 0 then nI 0 else x2) else hI h q k := fun q k => rfl
  have iIn : ∀ q, q ≠ o → hI (kRowH h o a x2) q = hI h q := fun q hq => up2_ne hq
  have iA : ∀ q, q ≠ a → hA (kRowH h o a x2) q = hA h q := fun q hq => up1_ne hq
  have iAa : hA (kRowH h o a x2) a = fil (hA h a) 0 48 (nI 0) := hA_AA _ _ _
  have ex : exH h (kRowH h o a x2) := ⟨Nat.le_refl _, fun _ _ => rfl⟩
  have hs : sameF h (rRowH h x1 x2) := ⟨rfl, rfl, rfl, rfl, rfl, rfl⟩
  have hf3 : ∀ q, isO h q 3 → hI (kRowH h o a x2) q = hI h q ∧ hR (kRowH h o a x2) q = hR h q := fun q hq => ⟨iIn q (fun z => by have := hq.2.2; rw [z, g3] at this; cases this), rfl⟩
  have hx : (if hA (rRowH h x1 x2) 67 p = -1 then nI 0 else hA (rRowH h x1 x2) 67 p) = (if x2 < nI 0 then nI 0 else x2) := by
    rw [a1, if_pos rfl]
    rcases ok.2 with z | z
    · rw [z]; decide
    · rw [if_neg (fun q => by rw [q, ti_m1] at z; omega), if_neg (by simp only [Int32.lt_iff_toInt_lt, Int32.le_iff_toInt_le, ti_z, ti_m1, ti_m24, ti_0, ti_1, ti_2, ti_3, ti_4, ti_5, ti_6, ti_7, ti_8, ti_11, ti_12, ti_15, ti_24, ti_28, ti_31, ti_47, ti_48, ti_52, ti_90, ti_100, ti_127, ti_336, ti_363, ti_364, ti_400, ti_416, ti_576, ti_17471, ti_17472]; omega)]
  refine ⟨R.1, ⟨iIn 63 (by omega), fun b h1 h2 => iA b (by omega)⟩, ⟨⟨?_, fun i hi => ?_, fun q hq => ?_⟩, c2.mv R.2.2.2.2.2.2 ⟨ex, fun q a b z => ⟨iIn q (fun w => by rw [w, g3] at z; rcases z with z | z <;> cases z), rfl⟩, fun q b b' z => iA q (fun w => by rw [w, y3] at z; rcases z with z | z <;> cases z), rfl⟩ (fun s _ => sameS.rf h s) hs rfl, c3, c4, ⟨?_, c5.2⟩⟩, RI.row R.2 ok, hn⟩
  · unfold CLn2
    rw [iIn 0 (by omega)]
    exact c1.1
  · obtain ⟨lo, ho⟩ := c1.2.1 i hi
    obtain ⟨l1, l2, l3, l4, l5⟩ := ho
    have hne : lo ≠ o := fun z => by have := l5.2.2; rw [z, g3] at this; cases this
    refine ⟨lo, l1, by rw [iIn lo hne]; exact l2, ?_, ?_, l5⟩
    · exact chn.mv3 hf3 ex _ _ (fun k _ => ⟨Iff.rfl, rfl, rfl, rfl⟩) l3
    · exact chn.mv3 hf3 ex _ _ (fun k _ => ⟨Iff.rfl, rfl, rfl, rfl⟩) l4
  · obtain ⟨o2, b2, ho⟩ := c1.2.2 q hq
    have q12 : q < 12 := by have hq' : (q : Int) < (hI h 63 3).toInt := hq; omega
    by_cases g : q = p
    · subst g
      have e2 : o2 = o := ref_inj (ho.1.symm.trans p1)
      subst e2
      refine ⟨o2, a, p1, p2, by rw [iI, if_neg (fun z => absurd z.2 (by decide))]; exact p3, p4, ?_, fun w i hi => ?_, ?_, ⟨g1, g2, g3⟩, y1, y2, y3⟩
      · rw [iI, if_pos ⟨rfl, rfl⟩, hx]
      · rw [iAa, a2, if_pos (by omega)]
        unfold fil
        rw [if_pos (by omega)]
      · exact chn.mv3 hf3 ex _ _ (fun k _ => ⟨Iff.rfl, rfl, rfl, rfl⟩) p7
    · obtain ⟨w1, w2, w3, w4, w5, w6, w7, w8, w9⟩ := ho
      have hne : o2 ≠ o := fun z => g (c3.2.1 q p hq hp (by rw [w1, p1, z]))
      have hna : b2 ≠ a := fun z => g (c3.2.2 q p o2 o hq hp w1 p1 (by rw [w4, p4, z]))
      refine ⟨o2, b2, w1, w2, by rw [iIn o2 hne]; exact w3, w4, by rw [iIn o2 hne, a1, if_neg g]; exact w5, fun w i hi => ?_, ?_, w8, w9⟩
      · rw [a1, if_neg g] at w
        rw [iA b2 hna, a2, if_neg (by omega)]
        exact w6 w i hi
      · exact chn.mv3 hf3 ex _ _ (fun k _ => ⟨Iff.rfl, rfl, rfl, rfl⟩) w7
  · rw [iIn 0 (by omega)]
    exact c5.1
theorem RI.cell {h : aH} {x1 x2 x3 : Int32} (S : RI h) (ok : rCellOK h x1 x2 x3) : RI (rCellH h x1 x2 x3) := by
  obtain ⟨hN, hL, hP, hC, hF, hS⟩ := S
  refine ⟨hN, hL, hP, fun j hj => ?_, hF, hS⟩
  show -1 ≤ (up2 (hA h) 68 _ x3 68 j).toInt ∧ (up2 (hA h) 68 _ x3 68 j).toInt ≤ 100
  unfold up2
  split
  · exact ok.2.2
  · exact hC j hj
theorem CL.cell {h : aH} {x1 x2 x3 : Int32} {p o a : Nat} (V : LV h) (ok : rCellOK h x1 x2 x3) (e : x1 = nI p) (hp : (p : Int) < (hI h 63 3).toInt) (hl : PeAt h p o a) : RE h (kCellH h a x2 x3) ∧ CL (kCellH h a x2 x3) (rCellH h x1 x2 x3) ∧ RI (rCellH h x1 x2 x3) ∧ 99 ≤ hN (kCellH h a x2 x3) := by
  obtain ⟨R, ⟨c1, c2, c3, c4, c5⟩, hn⟩ := V
  have hNn := R.2.1
  unfold RIn at hNn
  obtain ⟨p1, p2, p3, p4, p5, p6, p7, ⟨g1, g2, g3⟩, y1, y2, y3⟩ := hl
  have ec : x1.toNatClampNeg = p := by rw [e, nI_clamp (by omega)]
  have ei := i32_clamp ok.2.1.1
  have hcc := (R.2.2.2.1 p hp).2.2
  have ok2 := ok.2.1
  rw [ec] at ok2
  have hc48 : (hA h 67 p).toInt ≤ 48 := hcc.elim (fun z => by rw [z, ti_m1]; omega) (fun z => z.2)
  have a2 : ∀ j, hA (rCellH h x1 x2 x3) 68 j = if j = 48 * p + x2.toNatClampNeg then x3 else hA h 68 j := fun j => by
    show up2 (hA h) 68 (48 * x1.toNatClampNeg + x2.toNatClampNeg) x3 68 j = _
    rw [ec]
    simp [up2]
  have iA : ∀ q, q ≠ a → hA (kCellH h a x2 x3) q = hA h q := fun q hq => up2_ne hq
  have iAa : ∀ j, hA (kCellH h a x2 x3) a j = if j = x2.toNatClampNeg then x3 else hA h a j := fun j => by
    show up2 (hA h) a x2.toNatClampNeg x3 a j = _
    simp [up2]
  have hs : sameF h (rCellH h x1 x2 x3) := ⟨rfl, rfl, rfl, rfl, rfl, rfl⟩
  have ex : exH h (kCellH h a x2 x3) := ⟨Nat.le_refl _, fun _ _ => rfl⟩
  have hf3 : ∀ q, isO h q 3 → hI (kCellH h a x2 x3) q = hI h q ∧ hR (kCellH h a x2 x3) q = hR h q := fun q hq => ⟨rfl, rfl⟩
  refine ⟨⟨rfl, fun b h1 h2 => iA b (by omega)⟩, ⟨⟨c1.1, fun i hi => ?_, fun q hq => ?_⟩, c2.mv R.2.2.2.2.2.2 ⟨ex, fun q a b z => ⟨rfl, rfl⟩, fun q b b' z => iA q (fun w => by rw [w, y3] at z; rcases z with z | z <;> cases z), rfl⟩ (fun s _ => sameS.rf h s) hs rfl, c3, c4, c5⟩, RI.cell R.2 ok, hn⟩
  · obtain ⟨lo, ho⟩ := c1.2.1 i hi
    obtain ⟨l1, l2, l3, l4, l5⟩ := ho
    exact ⟨lo, l1, l2, chn.mv3 hf3 ex _ _ (fun k _ => ⟨Iff.rfl, rfl, rfl, rfl⟩) l3, chn.mv3 hf3 ex _ _ (fun k _ => ⟨Iff.rfl, rfl, rfl, rfl⟩) l4, l5⟩
  · obtain ⟨o2, b2, ho⟩ := c1.2.2 q hq
    have q12 : q < 12 := by have hq' : (q : Int) < (hI h 63 3).toInt := hq; omega
    by_cases g : q = p
    · subst g
      have e2 : o2 = o := ref_inj (ho.1.symm.trans p1)
      subst e2
      refine ⟨o2, a, p1, p2, p3, p4, p5, fun w i hi => ?_, chn.mv3 hf3 ex _ _ (fun k _ => ⟨Iff.rfl, rfl, rfl, rfl⟩) p7, ⟨g1, g2, g3⟩, y1, y2, y3⟩
      rw [iAa, a2]
      by_cases z : i = x2.toNatClampNeg
      · rw [if_pos z, if_pos (by omega)]
      · rw [if_neg z, if_neg (by omega)]
        exact p6 w i hi
    · obtain ⟨w1, w2, w3, w4, w5, w6, w7, w8, w9⟩ := ho
      have hna : b2 ≠ a := fun z => g (c3.2.2 q p o2 o hq hp w1 p1 (by rw [w4, p4, z]))
      refine ⟨o2, b2, w1, w2, w3, w4, w5, fun w i hi => ?_, chn.mv3 hf3 ex _ _ (fun k _ => ⟨Iff.rfl, rfl, rfl, rfl⟩) w7, w8, w9⟩
      rw [iA b2 hna, a2, if_neg (by omega)]
      exact w6 w i hi
