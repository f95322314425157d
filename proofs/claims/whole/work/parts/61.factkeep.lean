/-! ===== change, feast, busy, cant: the whole relation kept ===== -/
theorem CLs2.fact {h : aH} {ow fk : Nat} {a b c x1 x2 x3 x4 x5 : Int32} (S : SK h) (c2 : CLs2 h h) (hn : 99 ≤ hN h) (hf : ¬ hI h 63 8 = nI 400) (ho : 99 ≤ ow ∧ ow < hN h) (hot : ¬ hT h ow = (0, 3)) (hcp : c = vp_nar .boolean x5)
    (hca : ∀ s o : Nat, (s : Int) < (hI h 63 14).toInt → SeAt h s o → ((x1 = nI 3 ∧ x3 = nI s) ↔ (o = ow ∧ fk = 8))) (hs3 : ∀ s o : Nat, (s : Int) < (hI h 63 14).toInt → SeAt h s o → o = ow → fk = 8) (h8 : fk = 8 → a = x2 ∧ b = x4) : CLs2 (kFactH h ow fk a b c) (rFact h x1 x2 x3 x4 x5) := by
  obtain ⟨⟨SHh, hRI⟩, n1, n2, n3⟩ := S
  have hNn := hRI.1
  unfold RIn at hNn
  obtain ⟨m1, m2, m3⟩ := rF_n (x1 := x1) (x2 := x2) (x3 := x3) (x4 := x4) (x5 := x5) hRI hf
  have e11 : hI h 0 11 = nI (nF h) := n1.2.2.1.trans (i32_nn hNn.2.2.1.1)
  have hex : exH h (kFactH h ow fk a b c) := exH.new h _
  obtain ⟨z1, z2, z3, z4, z5⟩ := rF_at (h := h) (x1 := x1) (x2 := x2) (x3 := x3) (x4 := x4) (x5 := x5) (nF h)
  rw [if_pos rfl] at z1 z2 z3 z4 z5
  intro s hs
  have hs : (s : Int) < (hI h 63 14).toInt := hs
  obtain ⟨o, hb, hc⟩ := c2 s hs
  have qc := hca s o hs ⟨hb, hc⟩
  have q3 := hs3 s o hs ⟨hb, hc⟩
  obtain ⟨⟨t1, t2, t3⟩, t4, t5, t6, t7⟩ := hb.2.2.2.2
  have oN : o ≠ hN h := by omega
  have hA' : ∀ q, q ≠ hN h → hA (kFactH h ow fk a b c) q = hA h q := fun q hq => up1_ne hq
  have hQ' : hQ (kFactH h ow fk a b c) 3 = hQ h 3 := up1_ne (by omega)
  refine ⟨o, hb.mv (hRI.2.2.2.2.2.1 s hs).2.2.2.1.2 (by rw [hQ']) (fun _ => by rw [hQ']) (kF_I (by omega) oN) (fun k hk => ?_) (hA' _ (by omega)) (hA' _ (by omega)) (hA' _ (by omega)) hex (sameS.rf h s), ?_⟩
  · rw [kF_R k oN, if_neg (fun w => hk (w.2.trans (q3 w.1)))]
  · unfold cCa2
    rw [m1]
    refine chn.fact hn (by omega) hot e11 (fun k hk => ?_) hc (fun hP => ?_) (fun hP => ?_)
    · obtain ⟨a1, a2, a3, a4, a5⟩ := rF_at (h := h) (x1 := x1) (x2 := x2) (x3 := x3) (x4 := x4) (x5 := x5) k
      have g : ¬ k = nF h := by omega
      rw [if_neg g] at a1 a2 a3 a4 a5
      rw [a1, a2, a3, a4, a5]
      exact ⟨Iff.rfl, rfl, rfl, rfl⟩
    · rw [z1, z3] at hP
      obtain ⟨w1, w2⟩ := qc.mp hP
      obtain ⟨w3, w4⟩ := h8 w2
      rw [kF_R 8 oN, if_pos ⟨w1, w2.symm⟩, z2, z4, z5, w1, w2]
      exact ⟨rfl, rfl, w3, w4, hcp⟩
    · rw [z1, z3] at hP
      rw [kF_R 8 oN, if_neg (fun w => hP (qc.mpr ⟨w.1, w.2.symm⟩))]
theorem CL.rest {h : aH} {ow fk : Nat} {a b c x1 x2 x3 x4 x5 : Int32} (V : LV h) (ho : 99 ≤ ow ∧ ow < hN h) (hp : hT h ow = (0, 6) → fk = 4) : CLd (kFactH h ow fk a b c) (rFact h x1 x2 x3 x4 x5) ∧ CLe (kFactH h ow fk a b c) (rFact h x1 x2 x3 x4 x5) ∧ CLk (kFactH h ow fk a b c) (rFact h x1 x2 x3 x4 x5) ∧ 99 ≤ hN (kFactH h ow fk a b c) := by
  obtain ⟨R, ⟨c1, c2, c3, c4, c5⟩, hn⟩ := V
  have hQ' : ∀ q, q ≠ hN h → hQ (kFactH h ow fk a b c) q = hQ h q := fun q hq => up1_ne hq
  refine ⟨⟨fun i j hi hj e => ?_, fun p q hp hq e => ?_, fun p q o o' hp' hq' e1 e2 e3 => ?_⟩, fun s t hs ht e => ?_, ⟨?_, c5.2⟩, by show 99 ≤ hN h + 1; omega⟩
  · rw [hQ' 1 (by omega)] at e
    exact c3.1 i j hi hj e
  · rw [hQ' 2 (by omega)] at e
    exact c3.2.1 p q hp hq e
  · rw [hQ' 2 (by omega)] at e1 e2
    have old : ∀ p o : Nat, (p : Int) < (hI h 63 3).toInt → hQ h 2 p = some (0, 6, o) → hR (kFactH h ow fk a b c) o 2 = hR h o 2 := fun p o hp1 ho1 => by
      obtain ⟨o1, a1, ho2⟩ := c1.2.2 p hp1
      have := ref_inj (ho1.symm.trans ho2.1)
      subst this
      obtain ⟨g1, g2, g3⟩ := ho2.2.2.2.2.2.2.2.1
      rw [kF_R 2 (by omega), if_neg]
      rintro ⟨rfl, w⟩
      have := hp g3
      omega
    rw [old p o hp' e1, old q o' hq' e2] at e3
    exact c3.2.2 p q o o' hp' hq' e1 e2 e3
  · rw [hQ' 3 (by omega)] at e
    exact c4 s t hs ht e
  · rw [kF_I0 hn, if_neg (by decide)]
    exact c5.1
theorem CL.change {h : aH} {x1 x2 x3 : Int32} {i o : Nat} (V : LV h) (ok : rChangeOK h x1 x2 x3) (e : x1 = nI i) (hi : (i : Int) < (hI h 63 1).toInt) (hl : LdAt h i o) : SH (kFactH h o 1 x2 x3 (nI 0)) ∧ RE h (kFactH h o 1 x2 x3 (nI 0)) ∧ CL (kFactH h o 1 x2 x3 (nI 0)) (rFact h (nI 0) x1 x2 x3 (nI 0)) ∧ RI (rFact h (nI 0) x1 x2 x3 (nI 0)) ∧ 99 ≤ hN (kFactH h o 1 x2 x3 (nI 0)) := by
  obtain ⟨q1, q2, q3, q4, q5⟩ := SK2.change V.sk V.2.1.2.2.1 V.2.2 ok e hi hl
  obtain ⟨g1, g2, g3⟩ := hl.2.2.2.2
  obtain ⟨r1, r2, r3, r4⟩ := CL.rest (ow := o) (fk := 1) (a := x2) (b := x3) (c := nI 0) (x1 := nI 0) (x2 := x1) (x3 := x2) (x4 := x3) (x5 := nI 0) V ⟨g1, g2⟩ (fun z => by rw [g3] at z; cases z)
  refine ⟨q2, q3, ⟨q4, CLs2.fact V.sk V.2.1.2.1 V.2.2 ok.1 ⟨g1, g2⟩ (by rw [g3]; decide) rfl (fun s q hs hq => ⟨fun w => absurd w.1 (by decide), fun w => absurd w.2 (by decide)⟩) (fun s q hs hq w => ?_) (fun w => absurd w (by decide)), r1, r2, r3⟩, q1, r4⟩
  have := hq.1.2.2.2.2.1.2.2
  rw [w, g3] at this
  cases this
theorem CL.feast {h : aH} {x1 x2 : Int32} {i o : Nat} (V : LV h) (ok : rFeastOK h x1 x2) (e : x1 = nI i) (hi : (i : Int) < (hI h 63 1).toInt) (hl : LdAt h i o) : SH (kFactH h o 2 x2 x2 (nI 0)) ∧ RE h (kFactH h o 2 x2 x2 (nI 0)) ∧ CL (kFactH h o 2 x2 x2 (nI 0)) (rFact h (nI 1) x1 x2 (nI 0) (nI 0)) ∧ RI (rFact h (nI 1) x1 x2 (nI 0) (nI 0)) ∧ 99 ≤ hN (kFactH h o 2 x2 x2 (nI 0)) := by
  obtain ⟨q1, q2, q3, q4, q5⟩ := SK2.feast V.sk V.2.1.2.2.1 V.2.2 ok e hi hl
  obtain ⟨g1, g2, g3⟩ := hl.2.2.2.2
  obtain ⟨r1, r2, r3, r4⟩ := CL.rest (ow := o) (fk := 2) (a := x2) (b := x2) (c := nI 0) (x1 := nI 1) (x2 := x1) (x3 := x2) (x4 := nI 0) (x5 := nI 0) V ⟨g1, g2⟩ (fun z => by rw [g3] at z; cases z)
  refine ⟨q2, q3, ⟨q4, CLs2.fact V.sk V.2.1.2.1 V.2.2 ok.1 ⟨g1, g2⟩ (by rw [g3]; decide) rfl (fun s q hs hq => ⟨fun w => absurd w.1 (by decide), fun w => absurd w.2 (by decide)⟩) (fun s q hs hq w => ?_) (fun w => absurd w (by decide)), r1, r2, r3⟩, q1, r4⟩
  have := hq.1.2.2.2.2.1.2.2
  rw [w, g3] at this
  cases this
theorem CL.busy {h : aH} {x1 x2 x3 x4 : Int32} {p o a : Nat} (V : LV h) (h4 : x4 = nI 0 ∨ x4 = nI 1) (ok : rBusyOK h x1 x2 x3) (e : x1 = nI p) (hi : (p : Int) < (hI h 63 3).toInt) (hl : PeAt h p o a) : SH (kFactH h o 4 x2 x3 x4) ∧ RE h (kFactH h o 4 x2 x3 x4) ∧ CL (kFactH h o 4 x2 x3 x4) (rFact h (nI 2) x1 x2 x3 x4) ∧ RI (rFact h (nI 2) x1 x2 x3 x4) ∧ 99 ≤ hN (kFactH h o 4 x2 x3 x4) := by
  obtain ⟨q1, q2, q3, q4, q5⟩ := SK2.busy V.sk V.2.1.2.2.1 V.2.2 h4 ok e hi hl
  obtain ⟨g1, g2, g3⟩ := hl.2.2.2.2.2.2.2.1
  have hc : x4 = vp_nar .boolean x4 := by rcases h4 with rfl | rfl <;> rfl
  obtain ⟨r1, r2, r3, r4⟩ := CL.rest (ow := o) (fk := 4) (a := x2) (b := x3) (c := x4) (x1 := nI 2) (x2 := x1) (x3 := x2) (x4 := x3) (x5 := x4) V ⟨g1, g2⟩ (fun z => rfl)
  refine ⟨q2, q3, ⟨q4, CLs2.fact V.sk V.2.1.2.1 V.2.2 ok.1 ⟨g1, g2⟩ (by rw [g3]; decide) hc (fun s q hs hq => ⟨fun w => absurd w.1 (by decide), fun w => absurd w.2 (by decide)⟩) (fun s q hs hq w => ?_) (fun w => absurd w (by decide)), r1, r2, r3⟩, q1, r4⟩
  have := hq.1.2.2.2.2.1.2.2
  rw [w, g3] at this
  cases this
/-! cant -/
theorem k_seriesAt {l : Launch} {E : eE} {d bc bs : Nat} {h : aH} {K : aR → aH → Prop} {x : Int32} (S : SK h) (C : CLs2 h h) (k0 : ¬ inI x (hI h 63 14) → K none h) (k1 : ∀ s o : Nat, x = nI s → (s : Int) < (hI h 63 14).toInt → SeAt h s o → K (some (0, 9, o)) h) : CR l E d bc bs mX11_seriesAt [.inr (some (0, 11, 0)), .inl x] h K := by
  have hN := S.n
  unfold RIn at hN
  refine bX11_seriesAt_0 S.1.1 ⟨fun c => k0 ?_, fun c => ⟨fun c2 => k0 ?_, fun c2 => ?_⟩⟩
  · simp only [Int32.lt_iff_toInt_lt, Int32.le_iff_toInt_le, ti_z, ti_m1, ti_m24, ti_0, ti_1, ti_2, ti_3, ti_4, ti_5, ti_6, ti_7, ti_8, ti_11, ti_12, ti_15, ti_24, ti_28, ti_31, ti_47, ti_48, ti_52, ti_90, ti_100, ti_127, ti_336, ti_363, ti_364, ti_400, ti_416, ti_576, ti_17471, ti_17472] at c; intro q; omega
  · rw [S.2.1.2.2.2] at c2; simp only [Int32.lt_iff_toInt_lt, Int32.le_iff_toInt_le, ti_z, ti_m1, ti_m24, ti_0, ti_1, ti_2, ti_3, ti_4, ti_5, ti_6, ti_7, ti_8, ti_11, ti_12, ti_15, ti_24, ti_28, ti_31, ti_47, ti_48, ti_52, ti_90, ti_100, ti_127, ti_336, ti_363, ti_364, ti_400, ti_416, ti_576, ti_17471, ti_17472] at c2; intro q; omega
  · rw [S.2.1.2.2.2] at c2
    simp only [Int32.lt_iff_toInt_lt, Int32.le_iff_toInt_le, ti_z, ti_m1, ti_m24, ti_0, ti_1, ti_2, ti_3, ti_4, ti_5, ti_6, ti_7, ti_8, ti_11, ti_12, ti_15, ti_24, ti_28, ti_31, ti_47, ti_48, ti_52, ti_90, ti_100, ti_127, ti_336, ti_363, ti_364, ti_400, ti_416, ti_576, ti_17471, ti_17472] at c c2
    have e := i32_clamp (x := x) (by omega)
    obtain ⟨o, hp⟩ := C x.toNatClampNeg (by omega)
    refine ⟨vp_of (by omega) (by omega), ?_⟩
    rw [hp.1.1.1]
    exact k1 _ o (i32_nn (by omega)) (by omega) hp
abbrev rCantOK (h : aH) (x1 x2 x3 : Int32) : Prop := ¬ hI h 63 8 = nI 400 ∧ inI x1 (hI h 63 3) ∧ inI x2 (hI h 63 14) ∧ 0 ≤ x3.toInt ∧ x3.toInt < 52
theorem c_cant {l : Launch} {E : eE} {d bc bs : Nat} {h : aH} {K : Int32 → aH → Prop} {x1 x2 x3 : Int32} (S : SR h) (hd : 1 ≤ d) (k1 : rCantOK h x1 x2 x3 → K (hI h 63 8) (rFact h (nI 3) x1 x2 x3 (nI 0))) (k0 : ¬ rCantOK h x1 x2 x3 → K (-1) h) : CI l E d bc bs mX12_cant [.inr (some (0, 12, 63)), .inl x1, .inl x2, .inl x3] h K := by
  obtain ⟨d, rfl⟩ : ∃ d', d = d' + 1 := ⟨d - 1, by omega⟩
  have hN := S.2.1
  unfold RIn at hN
  refine bX12_cant_0 S.1 ⟨fun c => k0 (fun q => q.1 c), fun c => ⟨fun c1 => k0 (fun q => c1 q.2.1), fun c1 => ⟨fun c2 => k0 (fun q => c2 q.2.2.1), fun c2 => ⟨fun c3 => ⟨?_, k1 ⟨c, c1, c2, c3⟩⟩, fun c3 => k0 (fun q => c3 q.2.2.2)⟩⟩⟩⟩
  have := cnt1 (n := 400) (by decide) hN.2.2.1 c
  exact vp_of (by omega) (by omega)
theorem k_cant {l : Launch} {E : eE} {d bc bs : Nat} {h : aH} {K : Int32 → aH → Prop} {x1 x2 x3 : Int32} (V : LV h) (hd : 2 ≤ d) (k1 : rCantOK h x1 x2 x3 → ∀ s o : Nat, x2 = nI s → (s : Int) < (hI h 63 14).toInt → SeAt h s o → K (hI h 63 8) (kFactH h o 8 x1 x3 (nI 0))) (k0 : ¬ rCantOK h x1 x2 x3 → K (-1) h) : CI l E d (bc + 1) (bs + 5) mX11_cant [.inr (some (0, 11, 0)), .inl x1, .inl x2, .inl x3] h K := by
  obtain ⟨d, rfl⟩ : ∃ d', d = d' + 1 := ⟨d - 1, by omega⟩
  have S := V.sk
  have hn := V.2.2
  have R := S.1.1
  have hN := S.n
  unfold RIn at hN
  have e11 := S.2.1.2.2.1
  have h400 : nI 400 ≤ hI h 0 11 → ¬ ¬ hI h 63 8 = nI 400 := fun c q => by
    rw [e11, Int32.le_iff_toInt_le, ti_400] at c
    exact q (i32_eq (by decide) (by omega))
  have inP : ∀ p : Nat, x1 = nI p → (p : Int) < (hI h 63 3).toInt → inI x1 (hI h 63 3) := fun p e hp => by
    rw [e]; exact ⟨by rw [nI_toInt (by omega)]; omega, by rw [nI_toInt (by omega)]; exact hp⟩
  have inS : ∀ p : Nat, x2 = nI p → (p : Int) < (hI h 63 14).toInt → inI x2 (hI h 63 14) := fun p e hp => by
    rw [e]; exact ⟨by rw [nI_toInt (by omega)]; omega, by rw [nI_toInt (by omega)]; exact hp⟩
  refine bX11_cant_0 R (k_seriesAt S V.2.1.2.1 (fun c => ⟨R, fun c1 => k0 (fun q => h400 c1 q.1), fun c1 => k_personAt S (fun c2 => ⟨R, fun _ => k0 (fun q => c2 q.2.1), fun _ e => by cases e⟩) (fun p o a e hp hl => ⟨R, fun e => (by cases e), fun _ _ => ⟨fun _ => k0 (fun q => c q.2.2.1), fun _ e => by cases e⟩⟩)⟩)
    (fun s o e hs hl => ⟨R, fun c1 => k0 (fun q => h400 c1 q.1), fun c1 => k_personAt S (fun c2 => ⟨R, fun _ => k0 (fun q => c2 q.2.1), fun _ e => by cases e⟩) (fun p o2 a e2 hp hl2 => ⟨R, fun e => (by cases e), fun _ _ => ⟨fun e => (by cases e), fun _ _ => k_isWeek R ⟨R, fun c3 => ⟨o, rfl, ?_⟩, fun c3 => k0 (fun q => (bI0.mp c3) q.2.2.2)⟩⟩⟩)⟩))
  have ok : rCantOK h x1 x2 x3 := ⟨fun q => c1 (by rw [e11, q]; exact Int32.le_refl _), inP p e2 hp, inS s e hs, bI1.mp c3⟩
  obtain ⟨g1, g2, g3⟩ := hl.1.2.2.2.2.1
  have kk := k1 ok s o e hs hl
  rw [← e11] at kk
  exact fact_tail R (by omega) hn ⟨g1, g2⟩ (Or.inl rfl) kk
theorem CL.cant {h : aH} {x1 x2 x3 : Int32} {s o : Nat} (V : LV h) (ok : rCantOK h x1 x2 x3) (e : x2 = nI s) (hi : (s : Int) < (hI h 63 14).toInt) (hl : SeAt h s o) : SH (kFactH h o 8 x1 x3 (nI 0)) ∧ RE h (kFactH h o 8 x1 x3 (nI 0)) ∧ CL (kFactH h o 8 x1 x3 (nI 0)) (rFact h (nI 3) x1 x2 x3 (nI 0)) ∧ RI (rFact h (nI 3) x1 x2 x3 (nI 0)) ∧ 99 ≤ hN (kFactH h o 8 x1 x3 (nI 0)) := by
  have S := V.sk
  have hNn := S.n
  unfold RIn at hNn
  obtain ⟨g1, g2, g3⟩ := hl.1.2.2.2.2.1
  obtain ⟨z1, z2, z3, z4, z5⟩ := rF_at (h := h) (x1 := nI 3) (x2 := x1) (x3 := x2) (x4 := x3) (x5 := nI 0) (nF h)
  rw [if_pos rfl] at z1 z2 z3 z4 z5
  obtain ⟨r1, r2, r3, r4⟩ := CL.rest (ow := o) (fk := 8) (a := x1) (b := x3) (c := nI 0) (x1 := nI 3) (x2 := x1) (x3 := x2) (x4 := x3) (x5 := nI 0) V ⟨g1, g2⟩ (fun z => by rw [g3] at z; cases z)
  have hne : ∀ i q : Nat, (i : Int) < (hI h 63 1).toInt → LdAt h i q → ¬ q = o := fun i q hi hq w => by
    have := hq.2.2.2.2.2.2
    rw [w, g3] at this
    cases this
  have hnp : ∀ p q b : Nat, (p : Int) < (hI h 63 3).toInt → PeAt h p q b → ¬ q = o := fun i q b hi hq w => by
    have := hq.2.2.2.2.2.2.2.1.2.2
    rw [w, g3] at this
    cases this
  obtain ⟨q3, q4, q5⟩ := SK2.fact (ow := o) (fk := 8) (a := x1) (b := x3) (c := nI 0) (x1 := nI 3) (x2 := x1) (x3 := x2) (x4 := x3) (x5 := nI 0) S V.2.2 ok.1 ⟨g1, g2⟩ (by rw [g3]; decide) rfl (fun j q hj hq => ⟨fun w => absurd w.1 (by decide), fun w => absurd w.2 (by decide)⟩) (fun j q hj hq => ⟨fun w => absurd w.1 (by decide), fun w => absurd w.2 (by decide)⟩) (fun j q b hj hq => ⟨fun w => absurd w.1 (by decide), fun w => absurd w.2 (by decide)⟩) (fun j q hj hq w => absurd w (hne j q hj hq)) (fun j q b hj hq w => absurd w (hnp j q b hj hq)) (fun w => absurd w (by decide)) (fun w => absurd w (by decide)) (fun w => absurd w (by decide))
  refine ⟨sh_kf V.1.1 V.2.2 g1, q3, ⟨q4, CLs2.fact S V.2.1.2.1 V.2.2 ok.1 ⟨g1, g2⟩ (by rw [g3]; decide) rfl (fun t q ht hq => ⟨fun w => ⟨?_, rfl⟩, fun w => ⟨rfl, ?_⟩⟩) (fun t q ht hq w => rfl) (fun _ => ⟨rfl, rfl⟩), r1, r2, r3⟩, ?_, r4⟩
  · have : s = t := nI_inj (by omega) (by omega) (e.symm.trans w.2)
    subst this
    exact ref_inj (hq.1.1.1.symm.trans hl.1.1.1)
  · have : t = s := V.2.1.2.2.2.1 t s ht hi (by rw [hq.1.1.1, hl.1.1.1, w.1])
    rw [this]; exact e
  · exact RI.fact S.1.2 ok.1 (Or.inr (Or.inr (Or.inr ⟨z1, by rw [z2]; exact ok.2.1, by rw [z3]; exact ok.2.2.1, by rw [z4]; exact ok.2.2.2⟩))) (Or.inl rfl)
