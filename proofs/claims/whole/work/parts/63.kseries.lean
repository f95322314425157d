/-! ===== series: the class ===== -/
theorem kS_I {h : aH} {x1 x3 : Int32} {r : aR} {q : Nat} (h0 : q ≠ 0) (h1 : q < hN h) : hI (kSerH h x1 r x3) q = hI h q := by
  show up2 (up1 (up1 (up1 (up2 (up2 (up2 (up1 (hI h) (hN h) (fun _ => 0)) (hN h) 0 (hI h 0 12)) (hN h) 1 x1) (hN h) 3 x3) (hN h + 1) (fun _ => 0)) (hN h + 2) (fun _ => 0)) (hN h + 3) (fun _ => 0)) 0 12 (hI h 0 12 + nI 1) q = _
  rw [up2_ne h0, up1_ne (by omega), up1_ne (by omega), up1_ne (by omega), up2_ne (by omega), up2_ne (by omega), up2_ne (by omega), up1_ne (by omega)]
theorem kS_I0 {h : aH} {x1 x3 : Int32} {r : aR} (hn : 99 ≤ hN h) (k : Nat) : hI (kSerH h x1 r x3) 0 k = if k = 12 then hI h 0 12 + nI 1 else hI h 0 k := by
  show up2 (up1 (up1 (up1 (up2 (up2 (up2 (up1 (hI h) (hN h) (fun _ => 0)) (hN h) 0 (hI h 0 12)) (hN h) 1 x1) (hN h) 3 x3) (hN h + 1) (fun _ => 0)) (hN h + 2) (fun _ => 0)) (hN h + 3) (fun _ => 0)) 0 12 (hI h 0 12 + nI 1) 0 k = _
  rw [show ∀ f : Nat → Nat → Int32, up2 f 0 12 (hI h 0 12 + nI 1) 0 k = if k = 12 then hI h 0 12 + nI 1 else f 0 k from fun f => by simp [up2]]
  rw [up1_ne (by omega), up1_ne (by omega), up1_ne (by omega), up2_ne (by omega), up2_ne (by omega), up2_ne (by omega), up1_ne (by omega)]
theorem kS_IN {h : aH} {x1 x3 : Int32} {r : aR} (hn : 99 ≤ hN h) (k : Nat) : hI (kSerH h x1 r x3) (hN h) k = if k = 3 then x3 else if k = 1 then x1 else if k = 0 then hI h 0 12 else 0 := by
  show up2 (up1 (up1 (up1 (up2 (up2 (up2 (up1 (hI h) (hN h) (fun _ => 0)) (hN h) 0 (hI h 0 12)) (hN h) 1 x1) (hN h) 3 x3) (hN h + 1) (fun _ => 0)) (hN h + 2) (fun _ => 0)) (hN h + 3) (fun _ => 0)) 0 12 (hI h 0 12 + nI 1) (hN h) k = _
  rw [up2_ne (by omega), up1_ne (by omega), up1_ne (by omega), up1_ne (by omega)]
  simp [up2, up1]
theorem kS_R {h : aH} {x1 x3 : Int32} {r : aR} {q : Nat} (h1 : q < hN h) : hR (kSerH h x1 r x3) q = hR h q := by
  show up2 (up1 (up2 (up1 (up2 (up1 (up2 (up1 (hR h) (hN h) (fun _ => none)) (hN h) 2 r) (hN h + 1) (fun _ => none)) (hN h) 4 (some (1, 6, hN h + 1))) (hN h + 2) (fun _ => none)) (hN h) 5 (some (1, 6, hN h + 2))) (hN h + 3) (fun _ => none)) (hN h) 6 (some (1, 52, hN h + 3)) q = _
  rw [up2_ne (by omega), up1_ne (by omega), up2_ne (by omega), up1_ne (by omega), up2_ne (by omega), up1_ne (by omega), up2_ne (by omega), up1_ne (by omega)]
theorem kS_RN {h : aH} {x1 x3 : Int32} {r : aR} : hR (kSerH h x1 r x3) (hN h) = fun k => if k = 6 then some (1, 52, hN h + 3) else if k = 5 then some (1, 6, hN h + 2) else if k = 4 then some (1, 6, hN h + 1) else if k = 2 then r else none := kS1_R
theorem kS_A {h : aH} {x1 x3 : Int32} {r : aR} {q : Nat} (h1 : q < hN h) : hA (kSerH h x1 r x3) q = hA h q := by
  show up1 (up1 (up1 (up1 (up1 (hA h) (hN h) (fun _ => 0)) (hN h + 1) (fun _ => 0)) (hN h + 2) (fun _ => 0)) (hN h + 3) (fun _ => 0)) (hN h + 3) (fil (fun _ => 0) 0 52 (-1)) q = _
  rw [up1_ne (by omega), up1_ne (by omega), up1_ne (by omega), up1_ne (by omega), up1_ne (by omega)]
theorem kS_AN {h : aH} {x1 x3 : Int32} {r : aR} : hA (kSerH h x1 r x3) (hN h + 2) = (fun _ => 0) ∧ hA (kSerH h x1 r x3) (hN h + 3) = fil (fun _ => 0) 0 52 (-1) := by
  have e : hA (kSerH h x1 r x3) = up1 (up1 (up1 (up1 (up1 (hA h) (hN h) (fun _ => 0)) (hN h + 1) (fun _ => 0)) (hN h + 2) (fun _ => 0)) (hN h + 3) (fun _ => 0)) (hN h + 3) (fil (fun _ => 0) 0 52 (-1)) := rfl
  rw [e]
  constructor
  · rw [up1_ne (by omega), up1_ne (by omega)]; simp [up1]
  · simp [up1]
theorem kS_Q {h : aH} {x1 x3 : Int32} {r : aR} {q : Nat} (h0 : q ≠ 3) (h1 : q < hN h) : hQ (kSerH h x1 r x3) q = hQ h q := by
  show up2 (up1 (up1 (up1 (up1 (hQ h) (hN h) (fun _ => none)) (hN h + 1) (fun _ => none)) (hN h + 2) (fun _ => none)) (hN h + 3) (fun _ => none)) 3 (hI h 0 12).toNatClampNeg (some (0, 9, hN h)) q = _
  rw [up2_ne h0, up1_ne (by omega), up1_ne (by omega), up1_ne (by omega), up1_ne (by omega)]
theorem kS_Q3 {h : aH} {x1 x3 : Int32} {r : aR} (hn : 99 ≤ hN h) (i : Nat) : hQ (kSerH h x1 r x3) 3 i = if i = (hI h 0 12).toNatClampNeg then some (0, 9, hN h) else hQ h 3 i := by
  show up2 (up1 (up1 (up1 (up1 (hQ h) (hN h) (fun _ => none)) (hN h + 1) (fun _ => none)) (hN h + 2) (fun _ => none)) (hN h + 3) (fun _ => none)) 3 (hI h 0 12).toNatClampNeg (some (0, 9, hN h)) 3 i = _
  rw [show ∀ f : Nat → Nat → aR, up2 f 3 (hI h 0 12).toNatClampNeg (some (0, 9, hN h)) 3 i = if i = (hI h 0 12).toNatClampNeg then some (0, 9, hN h) else f 3 i from fun f => by simp [up2]]
  rw [up1_ne (by omega), up1_ne (by omega), up1_ne (by omega), up1_ne (by omega)]
theorem kS_T {h : aH} {x1 x3 : Int32} {r : aR} : hT (kSerH h x1 r x3) (hN h) = (0, 9) ∧ hT (kSerH h x1 r x3) (hN h + 1) = (1, 6) ∧ hT (kSerH h x1 r x3) (hN h + 2) = (1, 6) ∧ hT (kSerH h x1 r x3) (hN h + 3) = (1, 52) ∧ hN (kSerH h x1 r x3) = hN h + 4 ∧ exH h (kSerH h x1 r x3) := by
  have e : ∀ q, hT (kSerH h x1 r x3) q = up1 (up1 (up1 (up1 (hT h) (hN h) (0, 9)) (hN h + 1) (1, 6)) (hN h + 2) (1, 6)) (hN h + 3) (1, 52) q := fun q => rfl
  refine ⟨?_, ?_, ?_, ?_, rfl, by show hN h ≤ hN h + 4; omega, fun i hi => ?_⟩
  · rw [e, up1_ne (by omega), up1_ne (by omega), up1_ne (by omega)]; simp [up1]
  · rw [e, up1_ne (by omega), up1_ne (by omega)]; simp [up1]
  · rw [e, up1_ne (by omega)]; simp [up1]
  · rw [e]; simp [up1]
  · rw [e, up1_ne (by omega), up1_ne (by omega), up1_ne (by omega), up1_ne (by omega)]
theorem RIs.no {h : aH} (S : RI h) {s : Nat} (hs : s < 4) (h14 : ¬ (s : Int) < (hI h 63 14).toInt) : (∀ p, p < 12 → hA h 79 (12 * s + p) = nI 0) ∧ ∀ w, w < 52 → hA h 80 (104 * s + 2 * w) = -1 ∧ hA h 80 (104 * s + 2 * w + 1) = -1 := by
  obtain ⟨-, hS2, hS3, hS4⟩ := S.2.2.2.2.2
  refine ⟨fun p hp => (hS3 s p hs hp).2.2 (fun z => h14 z.1), fun w hw => ?_⟩
  rcases hS4 s w hs hw with q | q
  · rw [show 104 * s + 2 * w = 2 * (52 * s + w) by omega]
    exact q
  · exact absurd q.1 h14
theorem CL.series {h : aH} {x1 x2 x3 : Int32} (V : LV h) (ok : rSerOK h x1 x2 x3) : RE h (kSerH h x1 (if x2 = -1 then none else hQ h 3 x2.toNatClampNeg) x3) ∧ CL (kSerH h x1 (if x2 = -1 then none else hQ h 3 x2.toNatClampNeg) x3) (rSerH h x1 x2 x3) ∧ RI (rSerH h x1 x2 x3) ∧ 99 ≤ hN (kSerH h x1 (if x2 = -1 then none else hQ h 3 x2.toNatClampNeg) x3) := by
  obtain ⟨R, ⟨c1, c2, c3, c4, c5⟩, hn⟩ := V
  have hNn := R.2.1
  unfold RIn at hNn
  obtain ⟨d1, d2⟩ := cnt1 (n := 4) (by decide) hNn.2.2.2 ok.1
  have ec := i32_clamp hNn.2.2.2.1
  have e12 : (hI h 0 12).toNatClampNeg = (hI h 63 14).toNatClampNeg := by rw [c1.1.2.2.2]
  have f1 : hI (rSerH h x1 x2 x3) 63 14 = hI h 63 14 + nI 1 := rfl
  generalize hr : (if x2 = -1 then none else hQ h 3 x2.toNatClampNeg : aR) = r
  obtain ⟨t1, t2, t3, t4, t5, ex⟩ := kS_T (h := h) (x1 := x1) (x3 := x3) (r := r)
  have iQ3 : ∀ i, hQ (kSerH h x1 r x3) 3 i = if i = (hI h 63 14).toNatClampNeg then some (0, 9, hN h) else hQ h 3 i := fun i => by rw [kS_Q3 hn, e12]
  have hs : sameF h (rSerH h x1 x2 x3) := ⟨rfl, rfl, rfl, rfl, rfl, rfl⟩
  have hf : ∀ q, 99 ≤ q → q < hN h → hI (kSerH h x1 r x3) q = hI h q ∧ hR (kSerH h x1 r x3) q = hR h q := fun q a b => ⟨kS_I (by omega) b, kS_R b⟩
  refine ⟨⟨kS_I (by decide) (by omega), fun a g1 g2 => kS_A (by omega)⟩, ⟨⟨⟨?_, ?_, ?_, ?_⟩, fun i hi => ?_, fun p hp => ?_⟩, fun s hs' => ?_, ⟨fun i j hi hj e => ?_, fun p q hp hq e => ?_, fun p q o o' hp hq e1 e2 e3 => ?_⟩, fun s t hs ht e => ?_, ⟨?_, c5.2⟩⟩, RI.series R.2 ok, by omega⟩
  · rw [kS_I0 hn, if_neg (by decide)]; exact c1.1.1
  · rw [kS_I0 hn, if_neg (by decide)]; exact c1.1.2.1
  · rw [kS_I0 hn, if_neg (by decide)]; exact c1.1.2.2.1
  · rw [kS_I0 hn, if_pos rfl, c1.1.2.2.2, f1]
  · obtain ⟨o, ho⟩ := c1.2.1 i hi
    exact ⟨o, ho.mv (by rw [kS_Q (by decide) (by omega)]) hf ex rfl hs⟩
  · obtain ⟨o, a, ho⟩ := c1.2.2 p hp
    exact ⟨o, a, ho.mv (by rw [kS_Q (by decide) (by omega)]) (by rw [kS_Q (by decide) (by omega)]) hf (kS_A ho.2.2.2.2.2.2.2.2.2.1) ex rfl rfl rfl (fun _ _ => rfl) hs⟩
  · rw [f1, d2] at hs'
    obtain ⟨a1, a2, a3⟩ := rS_at (h := h) (x1 := x1) (x2 := x2) (x3 := x3) s
    by_cases g : s = (hI h 63 14).toNatClampNeg
    · rw [if_pos g] at a1 a2 a3
      obtain ⟨z1, z2⟩ := RIs.no R.2 (s := s) (by omega) (by omega)
      have z3 := R.2.2.2.2.2.2.2.1 s (by omega) (by omega)
      have iN := kS_IN (h := h) (x1 := x1) (x3 := x3) (r := r) hn
      have RN := kS_RN (h := h) (x1 := x1) (x3 := x3) (r := r)
      obtain ⟨A2, A3⟩ := kS_AN (h := h) (x1 := x1) (x3 := x3) (r := r)
      refine ⟨hN h, ⟨⟨by rw [iQ3, if_pos g], ?_, ?_, ?_, ?_, ?_, by rw [RN]; rfl, by rw [RN]; rfl, by rw [RN]; rfl⟩, fun i hi => ?_, fun k hk => ?_, fun w hw => ?_, ⟨hn, by omega, t1⟩, by omega, t2, t3, t4⟩, ?_⟩
      · rw [iN, if_neg (by decide), if_neg (by decide), if_pos rfl, c1.1.2.2.2, g]
        exact i32_nn hNn.2.2.2.1
      · rw [iN, if_neg (by decide), if_pos rfl, a1]
      · rw [RN, a2]
        show r = _
        by_cases c : x2 = -1
        · rw [if_pos c, ← hr, if_pos c]
        · rw [if_neg c, iQ3, if_neg, ← hr, if_neg c]
          have z := ok.2.2.1.resolve_left c
          have := i32_clamp z.1
          have := z.2
          omega
      · rw [iN, if_pos rfl, a3]
      · rw [iN, if_neg (by decide), if_neg (by decide), if_neg (by decide)]
        exact z3.symm
      · exfalso
        have hi : (i : Int) < (hA h 77 s).toInt := hi
        rw [z3, ti_0] at hi; omega
      · rw [A2]
        refine ⟨sm_0 12, fun h1 p hp => ?_⟩
        rw [bt_0]
        refine ⟨fun z => (by cases z), fun z => ?_⟩
        have z : hA h 79 (12 * s + p) = nI k := z
        rw [z1 p hp] at z
        have := nI_inj (by omega) (by omega) z
        omega
      · refine Or.inl ⟨?_, (z2 w hw).1, (z2 w hw).2⟩
        rw [A3]
        unfold fil
        rw [if_pos (by omega)]
      · rw [RN]
        refine chn_none _ (fun k hk z => ?_)
        have hm := i32_clamp hNn.2.2.1.1
        have hk : k < (hI h 63 8).toNatClampNeg := hk
        have y1 : hA h 69 k = nI 3 := z.1
        have y2 : hA h 71 k = nI s := z.2
        rcases (R.2.2.2.2.2.1 k (by omega)).1 with y | y | y | y
        · exact absurd (y1.symm.trans y.1) (by decide)
        · exact absurd (y1.symm.trans y.1) (by decide)
        · exact absurd (y1.symm.trans y.1) (by decide)
        · have := y.2.2.1.2
          rw [y2, nI_toInt (by omega)] at this
          omega
    · rw [if_neg g] at a1 a2 a3
      obtain ⟨o, hb, hc⟩ := c2 s (by omega)
      have hse := R.2.2.2.2.2.2.1 s (by omega)
      obtain ⟨⟨u1, u2, u3⟩, u4, u5, u6, u7⟩ := hb.2.2.2.2
      refine ⟨o, hb.mv hse.2.2.2.1.2 (by rw [iQ3, if_neg g]) (fun c => ?_) (kS_I (by omega) u2) (fun k _ => by rw [kS_R u2]) (kS_A (by omega)) (kS_A (by omega)) (kS_A (by omega)) ex ⟨a1, a2, a3, rfl, fun _ _ => rfl, fun _ _ => rfl, fun _ _ => rfl⟩, ?_⟩
      · have z := hse.2.1.resolve_left c
        have := i32_clamp z.1
        rw [iQ3, if_neg (by omega)]
      · rw [kS_R u2]
        exact chn.mv hf ex _ _ (fun k _ => ⟨Iff.rfl, rfl, rfl, rfl⟩) hc
  · rw [kS_Q (by decide) (by omega)] at e
    exact c3.1 i j hi hj e
  · rw [kS_Q (by decide) (by omega)] at e
    exact c3.2.1 p q hp hq e
  · rw [kS_Q (by decide) (by omega)] at e1 e2
    have hp' : (p : Int) < (hI h 63 3).toInt := hp
    have hq' : (q : Int) < (hI h 63 3).toInt := hq
    obtain ⟨o1, a1, ho1⟩ := c1.2.2 p hp'
    obtain ⟨o2, a2, ho2⟩ := c1.2.2 q hq'
    have x1 := ref_inj (e1.symm.trans ho1.1)
    have x2 := ref_inj (e2.symm.trans ho2.1)
    rw [kS_R (by rw [x1]; exact ho1.2.2.2.2.2.2.2.1.2.1), kS_R (by rw [x2]; exact ho2.2.2.2.2.2.2.2.1.2.1)] at e3
    exact c3.2.2 p q o o' hp' hq' e1 e2 e3
  · rw [f1, d2] at hs ht
    rw [iQ3, iQ3] at e
    by_cases gi : s = (hI h 63 14).toNatClampNeg
    · by_cases gj : t = (hI h 63 14).toNatClampNeg
      · omega
      · rw [if_pos gi, if_neg gj] at e
        obtain ⟨o, ho⟩ := c2 t (by omega)
        rw [ho.1.1.1] at e
        exact absurd e (new_ne ho.1.2.2.2.2.1.2.1)
    · by_cases gj : t = (hI h 63 14).toNatClampNeg
      · rw [if_neg gi, if_pos gj] at e
        obtain ⟨o, ho⟩ := c2 s (by omega)
        rw [ho.1.1.1] at e
        exact absurd e.symm (new_ne ho.1.2.2.2.2.1.2.1)
      · rw [if_neg gi, if_neg gj] at e
        exact c4 s t (by omega) (by omega) e
  · rw [kS_I0 hn, if_neg (by decide)]
    exact c5.1
/-- the class's walk -/
theorem w_ser37 {l : Launch} {E : eE} {d bc bs : Nat} {h : aH} {K : Int32 → aH → Prop} {x1 x2 x3 x5 : Int32} {r : aR} (V : LV h) (hd : 1 ≤ d) (k1 : ¬ hI h 63 14 = nI 4 → (1 ≤ x1.toInt ∧ x1.toInt ≤ 6) → ¬ x5 = 0 → SH (kSerH h x1 r x3) → K (hI h 63 14) (kSerH h x1 r x3)) (k0 : ¬ (¬ hI h 63 14 = nI 4 ∧ (1 ≤ x1.toInt ∧ x1.toInt ≤ 6) ∧ ¬ x5 = 0) → K (-1) h) : LX11_series_37 l E (d + 1) (bc + 4) (bs + 73) x1 x2 x3 r x5 h K := by
  obtain ⟨d, rfl⟩ : ∃ d', d = d' + 1 := ⟨d - 1, by omega⟩
  have R := V.1.1
  have hn := V.2.2
  have hNn := V.1.2.1
  unfold RIn at hNn
  have e12 := V.2.1.1.1.2.2.2
  refine bX11_series_37 R ⟨fun c => k0 ?_, fun c => ⟨fun c1 => k0 ?_, fun c1 => ⟨fun c2 => k0 ?_, fun c2 => ⟨fun c3 => k0 (fun q => q.2.2 c3), fun c3 => ⟨fun _ => ?_, fun z => absurd z (by decide)⟩⟩⟩⟩⟩
  · rw [e12, Int32.le_iff_toInt_le, ti_4] at c
    exact fun q => q.1 (i32_eq (by decide) (by omega))
  · simp only [Int32.lt_iff_toInt_lt, Int32.le_iff_toInt_le, ti_z, ti_m1, ti_m24, ti_0, ti_1, ti_2, ti_3, ti_4, ti_5, ti_6, ti_7, ti_8, ti_11, ti_12, ti_15, ti_24, ti_28, ti_31, ti_47, ti_48, ti_52, ti_90, ti_100, ti_127, ti_336, ti_363, ti_364, ti_400, ti_416, ti_576, ti_17471, ti_17472] at c1; intro q; omega
  · simp only [Int32.lt_iff_toInt_lt, Int32.le_iff_toInt_le, ti_z, ti_m1, ti_m24, ti_0, ti_1, ti_2, ti_3, ti_4, ti_5, ti_6, ti_7, ti_8, ti_11, ti_12, ti_15, ti_24, ti_28, ti_31, ti_47, ti_48, ti_52, ti_90, ti_100, ti_127, ti_336, ti_363, ti_364, ti_400, ti_416, ti_576, ti_17471, ti_17472] at c2; intro q; omega
  · rw [e12] at c
    simp only [Int32.lt_iff_toInt_lt, Int32.le_iff_toInt_le, ti_z, ti_m1, ti_m24, ti_0, ti_1, ti_2, ti_3, ti_4, ti_5, ti_6, ti_7, ti_8, ti_11, ti_12, ti_15, ti_24, ti_28, ti_31, ti_47, ti_48, ti_52, ti_90, ti_100, ti_127, ti_336, ti_363, ti_364, ti_400, ti_416, ti_576, ti_17471, ti_17472] at c c1 c2
    have s1 : SH (stN h (0, 9)) := R.stN hn
    refine ⟨s1, ?_⟩
    have e0 : hI (stN h (0, 9)) 0 12 = hI h 0 12 := by
      show up1 (hI h) (hN h) (fun _ => 0) 0 12 = _
      rw [up1_ne (by omega)]
    rw [e0]
    refine k_init9 (bc := 0) (bs := 0) R hn (fun s2 => ⟨s2, vp_of (by rw [e12]; omega) (by rw [e12]; omega), s2.stQ (by decide) (by decide), ?_⟩)
    have e1 : hI (kSer2 h (hI h 0 12) x1 r x3) 0 12 = hI h 0 12 := by
      show (up1 (up1 (up1 (up2 (up2 (up2 (up1 (hI h) (hN h) (fun _ => 0)) (hN h) 0 (hI h 0 12)) (hN h) 1 x1) (hN h) 3 x3) (hN h + 1) (fun _ => 0)) (hN h + 2) (fun _ => 0)) (hN h + 3) (fun _ => 0)) 0 12 = _
      rw [up1_ne (by omega), up1_ne (by omega), up1_ne (by omega), up2_ne (by omega), up2_ne (by omega), up2_ne (by omega), up1_ne (by omega)]
    have kk := k1 (fun q => c (by rw [q, ti_4]; omega)) (by omega) c3 (s2.stQ (by decide) (by decide))
    rw [e1]
    rw [← e12] at kk
    exact kk
theorem k_series {l : Launch} {E : eE} {d bc bs : Nat} {h : aH} {K : Int32 → aH → Prop} {x1 x2 x3 : Int32} (V : LV h) (hd : 2 ≤ d) (k1 : rSerOK h x1 x2 x3 → SH (kSerH h x1 (if x2 = -1 then none else hQ h 3 x2.toNatClampNeg) x3) → K (hI h 63 14) (kSerH h x1 (if x2 = -1 then none else hQ h 3 x2.toNatClampNeg) x3)) (k0 : ¬ rSerOK h x1 x2 x3 → K (-1) h) : CI l E d (bc + 4) (bs + 73) mX11_series [.inr (some (0, 11, 0)), .inl x1, .inl x2, .inl x3] h K := by
  obtain ⟨d, rfl⟩ : ∃ d', d = d' + 1 := ⟨d - 1, by omega⟩
  have S := V.sk
  have R := V.1.1
  have hN := S.n
  unfold RIn at hN
  have e12 := V.2.1.1.1.2.2.2
  have inS : ∀ p : Nat, x2 = nI p → (p : Int) < (hI h 63 14).toInt → inI x2 (hI h 63 14) := fun p e hp => by
    rw [e]; exact ⟨by rw [nI_toInt (by omega)]; omega, by rw [nI_toInt (by omega)]; exact hp⟩
  have inP : ∀ p : Nat, x3 = nI p → (p : Int) < (hI h 63 3).toInt → inI x3 (hI h 63 3) := fun p e hp => by
    rw [e]; exact ⟨by rw [nI_toInt (by omega)]; omega, by rw [nI_toInt (by omega)]; exact hp⟩
  have bad : ¬ (x2 = -1 ∨ inI x2 (hI h 63 14)) → ∀ r, LX11_series_37 l E (d + 1) (bc + 4) (bs + 73) x1 x2 x3 r (nI 0) h K := fun c r => w_ser37 V (by omega) (fun _ _ z => absurd rfl z) (fun _ => k0 (fun q => c q.2.2.1))
  have k17 : ∀ r : aR, (x2 = -1 ∨ inI x2 (hI h 63 14)) → r = (if x2 = -1 then none else hQ h 3 x2.toNatClampNeg) → LX11_series_17 l E (d + 1) (bc + 4) (bs + 73) x1 x2 x3 r h K := fun r ok hr => by
    subst hr
    have good : (x3 = -1 ∨ inI x3 (hI h 63 3)) → LX11_series_37 l E (d + 1) (bc + 4) (bs + 73) x1 x2 x3 (if x2 = -1 then none else hQ h 3 x2.toNatClampNeg) (nI 1) h K := fun o2 => w_ser37 V (by omega) (fun z1 z2 _ z4 => k1 ⟨z1, z2, ok, o2⟩ z4) (fun z => k0 (fun q => z ⟨q.1, q.2.1, by decide⟩))
    refine bX11_series_17 R ⟨fun c => good (Or.inl c), fun c => k_personAt S (fun c2 => ⟨R, fun _ => ?_, fun _ e => by cases e⟩) (fun p o a e hp hl => ⟨R, fun e => (by cases e), fun _ _ => good (Or.inr (inP p e hp))⟩)⟩
    have no := k0 (fun q => q.2.2.2.elim c c2)
    exact ⟨fun _ => no, fun _ => ⟨fun _ => no, fun _ => ⟨fun _ => no, fun _ => ⟨fun _ => no, fun _ => ⟨fun z => absurd rfl z, fun _ => no⟩⟩⟩⟩⟩
  refine bX11_series_0 R (k_seriesAt S V.2.1.2.1 (fun c => ⟨R, fun c1 => k17 none (Or.inl c1) (by rw [if_pos c1]), fun c1 => ⟨fun _ => ⟨fun c2 => bad (fun q => q.elim c1 c) _, fun c2 => k_personAt S (fun c3 => ⟨R, fun _ => ?_, fun _ e => by cases e⟩) (fun p o a e hp hl => ⟨R, fun e => (by cases e), fun _ _ => bad (fun q => q.elim c1 c) _⟩)⟩, fun _ e => by cases e⟩⟩) (fun s o e hs hl => ⟨R, fun c1 => ?_, fun c1 => ⟨fun e => (by cases e), fun _ _ => k17 _ (Or.inr (inS s e hs)) ?_⟩⟩))
  · have no := k0 (fun q => q.2.2.1.elim c1 c)
    exact ⟨fun _ => no, fun _ => ⟨fun _ => no, fun _ => ⟨fun _ => no, fun _ => ⟨fun _ => no, fun z => absurd rfl z⟩⟩⟩⟩
  · have := (inS s e hs).1
    rw [c1, ti_m1] at this
    omega
  · rw [if_neg c1, e, nI_clamp (by omega)]
    exact hl.1.1.1.symm
