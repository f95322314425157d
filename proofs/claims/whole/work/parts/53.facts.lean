/-! ===== change, feast, busy, cant of clocks and persons: both sides ===== -/
theorem SK2.fact {h : aH} {ow fk : Nat} {a b c x1 x2 x3 x4 x5 : Int32} (S : SK h) (hn : 99 ≤ hN h) (hf : ¬ hI h 63 8 = nI 400) (ho : 99 ≤ ow ∧ ow < hN h) (hot : ¬ hT h ow = (0, 3)) (hcp : c = vp_nar .boolean x5)
    (hch : ∀ i o : Nat, (i : Int) < (hI h 63 1).toInt → LdAt h i o → ((x1 = 0 ∧ x2 = nI i) ↔ (o = ow ∧ fk = 1))) (hfe : ∀ i o : Nat, (i : Int) < (hI h 63 1).toInt → LdAt h i o → ((x1 = nI 1 ∧ x2 = nI i) ↔ (o = ow ∧ fk = 2))) (hbu : ∀ p o q : Nat, (p : Int) < (hI h 63 3).toInt → PeAt h p o q → ((x1 = nI 2 ∧ x2 = nI p) ↔ (o = ow ∧ fk = 4)))
    (hl3 : ∀ i o : Nat, (i : Int) < (hI h 63 1).toInt → LdAt h i o → o = ow → fk = 1 ∨ fk = 2) (hp3 : ∀ p o q : Nat, (p : Int) < (hI h 63 3).toInt → PeAt h p o q → o = ow → fk = 4)
    (h1 : fk = 1 → a = x3 ∧ b = x4) (h2 : fk = 2 → a = x3 ∧ b = x3) (h4 : fk = 4 → a = x3 ∧ b = x4) : RE h (kFactH h ow fk a b c) ∧ SK2 (kFactH h ow fk a b c) (rFact h x1 x2 x3 x4 x5) ∧ exH h (kFactH h ow fk a b c) := by
  obtain ⟨⟨SHh, hRI⟩, n1, n2, n3⟩ := S
  have hNn := hRI.1
  unfold RIn at hNn
  obtain ⟨m1, m2, m3⟩ := rF_n (x1 := x1) (x2 := x2) (x3 := x3) (x4 := x4) (x5 := x5) hRI hf
  have e11 : hI h 0 11 = nI (nF h) := n1.2.2.1.trans (i32_nn hNn.2.2.1.1)
  have hex : exH h (kFactH h ow fk a b c) := exH.new h _
  have agree : ∀ k, k < nF h → hA (rFact h x1 x2 x3 x4 x5) 69 k = hA h 69 k ∧ hA (rFact h x1 x2 x3 x4 x5) 70 k = hA h 70 k ∧ hA (rFact h x1 x2 x3 x4 x5) 71 k = hA h 71 k ∧ hA (rFact h x1 x2 x3 x4 x5) 72 k = hA h 72 k ∧ hA (rFact h x1 x2 x3 x4 x5) 73 k = hA h 73 k := fun k hk => by
    obtain ⟨a1, a2, a3, a4, a5⟩ := rF_at (h := h) (x1 := x1) (x2 := x2) (x3 := x3) (x4 := x4) (x5 := x5) k
    have g : ¬ k = nF h := by omega
    rw [if_neg g] at a1 a2 a3 a4 a5
    exact ⟨a1, a2, a3, a4, a5⟩
  obtain ⟨z1, z2, z3, z4, z5⟩ := rF_at (h := h) (x1 := x1) (x2 := x2) (x3 := x3) (x4 := x4) (x5 := x5) (nF h)
  rw [if_pos rfl] at z1 z2 z3 z4 z5
  refine ⟨⟨kF_I (by decide) (by omega), fun q g1 g2 => up1_ne (by omega)⟩, ⟨⟨?_, ?_, ?_, ?_⟩, fun i hi => ?_, fun p hp => ?_⟩, hex⟩
  · rw [kF_I0 hn, if_neg (by decide)]; exact n1.1
  · rw [kF_I0 hn, if_neg (by decide)]; exact n1.2.1
  · rw [kF_I0 hn, if_pos rfl, n1.2.2.1]; rfl
  · rw [kF_I0 hn, if_neg (by decide)]; exact n1.2.2.2
  · obtain ⟨o, hl⟩ := n2 i hi
    have qc := hch i o hi hl
    have qf := hfe i o hi hl
    have ql := hl3 i o hi hl
    obtain ⟨l1, l2, l3, l4, g1, g2, g3⟩ := hl
    have oN : o ≠ hN h := by omega
    refine ⟨o, ?_, ?_, ?_, ?_, g1, Nat.lt_of_lt_of_le g2 hex.1, by rw [hex.2 o g2]; exact g3⟩
    · show up1 (hQ h) (hN h) (fun _ => none) 1 i = _
      rw [up1_ne (by omega)]; exact l1
    · rw [kF_I (by omega) oN]; exact l2
    · unfold cCh2
      rw [m1]
      refine chn.fact hn (by omega) hot e11 (fun k hk => ?_) l3 (fun hP => ?_) (fun hP => ?_)
      · obtain ⟨y1, y2, y3, y4, y5⟩ := agree k hk
        rw [y1, y2, y3, y4, y5]
        exact ⟨Iff.rfl, rfl, rfl, rfl⟩
      · rw [z1, z2] at hP
        obtain ⟨w1, w2⟩ := qc.mp hP
        obtain ⟨w3, w4⟩ := h1 w2
        rw [kF_R 1 oN, if_pos ⟨w1, w2.symm⟩, z3, z4, z5, w1, w2]
        exact ⟨rfl, rfl, w3, w4, hcp⟩
      · rw [z1, z2] at hP
        rw [kF_R 1 oN, if_neg (fun w => hP (qc.mpr ⟨w.1, w.2.symm⟩))]
    · unfold cFe2
      rw [m1]
      refine chn.fact hn (by omega) hot e11 (fun k hk => ?_) l4 (fun hP => ?_) (fun hP => ?_)
      · obtain ⟨y1, y2, y3, y4, y5⟩ := agree k hk
        rw [y1, y2, y3, y5]
        exact ⟨Iff.rfl, rfl, rfl, rfl⟩
      · rw [z1, z2] at hP
        obtain ⟨w1, w2⟩ := qf.mp hP
        obtain ⟨w3, w4⟩ := h2 w2
        rw [kF_R 2 oN, if_pos ⟨w1, w2.symm⟩, z3, z5, w1, w2]
        exact ⟨rfl, rfl, w3, w4, hcp⟩
      · rw [z1, z2] at hP
        rw [kF_R 2 oN, if_neg (fun w => hP (qf.mpr ⟨w.1, w.2.symm⟩))]
  · obtain ⟨o, q, hl⟩ := n3 p hp
    have qc := hbu p o q hp hl
    have ql := hp3 p o q hp hl
    obtain ⟨q1, q2, q3, q4, q5, q6, q7, ⟨g1, g2, g3⟩, y1, y2, y3⟩ := hl
    have oN : o ≠ hN h := by omega
    have nr : ∀ k, k ≠ 4 → hR (kFactH h ow fk a b c) o k = hR h o k := fun k hk => by
      rw [kF_R k oN, if_neg (fun w => hk (w.2.trans (ql w.1)))]
    refine ⟨o, q, ?_, ?_, ?_, ?_, ?_, fun w i hi => ?_, ?_, ⟨g1, Nat.lt_of_lt_of_le g2 hex.1, by rw [hex.2 o g2]; exact g3⟩, y1, Nat.lt_of_lt_of_le y2 hex.1, by rw [hex.2 q y2]; exact y3⟩
    · show up1 (hQ h) (hN h) (fun _ => none) 2 p = _
      rw [up1_ne (by omega)]; exact q1
    · rw [nr 0 (by decide)]
      show _ = up1 (hQ h) (hN h) (fun _ => none) 1 _
      rw [up1_ne (by omega)]; exact q2
    · rw [kF_I (by omega) oN]; exact q3
    · rw [nr 2 (by decide)]; exact q4
    · rw [kF_I (by omega) oN]; exact q5
    · show up1 (hA h) (hN h) (fun _ => 0) q i = _
      rw [up1_ne (by omega)]; exact q6 w i hi
    · unfold cBu2
      rw [m1]
      refine chn.fact hn (by omega) hot e11 (fun k hk => ?_) q7 (fun hP => ?_) (fun hP => ?_)
      · obtain ⟨y1, y2, y3, y4, y5⟩ := agree k hk
        rw [y1, y2, y3, y4, y5]
        exact ⟨Iff.rfl, rfl, rfl, rfl⟩
      · rw [z1, z2] at hP
        obtain ⟨w1, w2⟩ := qc.mp hP
        obtain ⟨w3, w4⟩ := h4 w2
        rw [kF_R 4 oN, if_pos ⟨w1, w2.symm⟩, z3, z4, z5, w1, w2]
        exact ⟨rfl, rfl, w3, w4, hcp⟩
      · rw [z1, z2] at hP
        rw [kF_R 4 oN, if_neg (fun w => hP (qc.mpr ⟨w.1, w.2.symm⟩))]
