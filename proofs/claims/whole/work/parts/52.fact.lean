/-! ===== one fact more, on both sides ===== -/
theorem chn.mv3 {h h' : aH} {P P' : Nat → Prop} {a b c a' b' c' : Nat → Int32} (hf : ∀ q, isO h q 3 → hI h' q = hI h q ∧ hR h' q = hR h q) (hex : exH h h') : ∀ (m : Nat) (r : aR), (∀ k, k < m → (P k ↔ P' k) ∧ a k = a' k ∧ b k = b' k ∧ c k = c' k) → chn h P a b c m r → chn h' P' a' b' c' m r
  | 0, r, _, hc => hc
  | m + 1, r, he, hc => by
    obtain ⟨e1, e2, e3, e4⟩ := he m (Nat.lt_succ_self m)
    rcases hc with ⟨hP, o, hr, f0, f1, f2, f3, hc, g1, g2, g3⟩ | ⟨hP, hc⟩
    · obtain ⟨x1, x2⟩ := hf o ⟨g1, g2, g3⟩
      refine Or.inl ⟨e1.mp hP, o, hr, by rw [x1]; exact f0, by rw [x1, ← e2]; exact f1, by rw [x1, ← e3]; exact f2, by rw [x1, ← e4]; exact f3, ?_, g1, Nat.lt_of_lt_of_le g2 hex.1, by rw [hex.2 o g2]; exact g3⟩
      rw [x2]
      exact chn.mv3 hf hex m _ (fun k hk => he k (by omega)) hc
    · exact Or.inr ⟨fun q => hP (e1.mpr q), chn.mv3 hf hex m r (fun k hk => he k (by omega)) hc⟩
/-- the class's heap with a new fact object, hung before what the owner had -/
def kFactH (h : aH) (ow fk : Nat) (a b c : Int32) : aH := stI (stR (stR (stI (stI (stI (stI (stN h (0, 3)) (hN h) 0 (hI h 0 11)) (hN h) 1 a) (hN h) 2 b) (hN h) 3 c) (hN h) 4 (hR h ow fk)) ow fk (some (0, 3, hN h))) 0 11 (hI h 0 11 + nI 1)
theorem kF_I {h : aH} {ow fk : Nat} {a b c : Int32} {q : Nat} (h0 : q ≠ 0) (h1 : q ≠ hN h) : hI (kFactH h ow fk a b c) q = hI h q := by
  show up2 (up2 (up2 (up2 (up2 (up1 (hI h) (hN h) (fun _ => 0)) (hN h) 0 (hI h 0 11)) (hN h) 1 a) (hN h) 2 b) (hN h) 3 c) 0 11 (hI h 0 11 + nI 1) q = _
  rw [up2_ne h0, up2_ne h1, up2_ne h1, up2_ne h1, up2_ne h1, up1_ne h1]
theorem kF_I0 {h : aH} {ow fk : Nat} {a b c : Int32} (hn : 99 ≤ hN h) (k : Nat) : hI (kFactH h ow fk a b c) 0 k = if k = 11 then hI h 0 11 + nI 1 else hI h 0 k := by
  show up2 (up2 (up2 (up2 (up2 (up1 (hI h) (hN h) (fun _ => 0)) (hN h) 0 (hI h 0 11)) (hN h) 1 a) (hN h) 2 b) (hN h) 3 c) 0 11 (hI h 0 11 + nI 1) 0 k = _
  have e : ∀ (f : Nat → Nat → Int32) (v : Int32) (j : Nat), up2 f (hN h) j v 0 = f 0 := fun f v j => up2_ne (by omega)
  have e1 : up1 (hI h) (hN h) (fun _ => 0) 0 = hI h 0 := up1_ne (by omega)
  rw [show up2 (up2 (up2 (up2 (up2 (up1 (hI h) (hN h) (fun _ => 0)) (hN h) 0 (hI h 0 11)) (hN h) 1 a) (hN h) 2 b) (hN h) 3 c) 0 11 (hI h 0 11 + nI 1) 0 k = if k = 11 then hI h 0 11 + nI 1 else (up2 (up2 (up2 (up2 (up1 (hI h) (hN h) (fun _ => 0)) (hN h) 0 (hI h 0 11)) (hN h) 1 a) (hN h) 2 b) (hN h) 3 c) 0 k by simp [up2]]
  rw [e, e, e, e, e1]
theorem kF_IN {h : aH} {ow fk : Nat} {a b c : Int32} (hn : 99 ≤ hN h) : hI (kFactH h ow fk a b c) (hN h) 0 = hI h 0 11 ∧ hI (kFactH h ow fk a b c) (hN h) 1 = a ∧ hI (kFactH h ow fk a b c) (hN h) 2 = b ∧ hI (kFactH h ow fk a b c) (hN h) 3 = c := by
  have e : hI (kFactH h ow fk a b c) (hN h) = (up2 (up2 (up2 (up2 (up1 (hI h) (hN h) (fun _ => 0)) (hN h) 0 (hI h 0 11)) (hN h) 1 a) (hN h) 2 b) (hN h) 3 c) (hN h) := by
    show up2 _ 0 11 (hI h 0 11 + nI 1) (hN h) = _
    rw [up2_ne (by omega)]
    rfl
  rw [e]
  simp [up2]
theorem kF_R {h : aH} {ow fk : Nat} {a b c : Int32} {q : Nat} (k : Nat) (h1 : q ≠ hN h) : hR (kFactH h ow fk a b c) q k = if q = ow ∧ k = fk then some (0, 3, hN h) else hR h q k := by
  show up2 (up2 (up1 (hR h) (hN h) (fun _ => none)) (hN h) 4 (hR h ow fk)) ow fk (some (0, 3, hN h)) q k = _
  rw [show up2 (up2 (up1 (hR h) (hN h) (fun _ => none)) (hN h) 4 (hR h ow fk)) ow fk (some (0, 3, hN h)) q k = if q = ow ∧ k = fk then some (0, 3, hN h) else up2 (up1 (hR h) (hN h) (fun _ => none)) (hN h) 4 (hR h ow fk) q k from rfl]
  rw [up2_ne h1, up1_ne h1]
theorem kF_RN {h : aH} {ow fk : Nat} {a b c : Int32} (ho : ow ≠ hN h) : hR (kFactH h ow fk a b c) (hN h) 4 = hR h ow fk := by
  show up2 (up2 (up1 (hR h) (hN h) (fun _ => none)) (hN h) 4 (hR h ow fk)) ow fk (some (0, 3, hN h)) (hN h) 4 = _
  rw [up2_ne (fun e => ho e.symm)]
  simp [up2]
/-- reading the reference behind a fact -/
theorem rF_at {h : aH} {x1 x2 x3 x4 x5 : Int32} (k : Nat) : hA (rFact h x1 x2 x3 x4 x5) 69 k = (if k = nF h then x1 else hA h 69 k) ∧ hA (rFact h x1 x2 x3 x4 x5) 70 k = (if k = nF h then x2 else hA h 70 k) ∧ hA (rFact h x1 x2 x3 x4 x5) 71 k = (if k = nF h then x3 else hA h 71 k) ∧ hA (rFact h x1 x2 x3 x4 x5) 72 k = (if k = nF h then x4 else hA h 72 k) ∧ hA (rFact h x1 x2 x3 x4 x5) 73 k = (if k = nF h then vp_nar .boolean x5 else hA h 73 k) := by
  refine ⟨?_, ?_, ?_, ?_, ?_⟩
  · show (if (69 : Nat) = 69 ∧ k = nF h then x1 else hA h 69 k) = _; simp
  · show (if (70 : Nat) = 70 ∧ k = nF h then x2 else hA h 70 k) = _; simp
  · show (if (71 : Nat) = 71 ∧ k = nF h then x3 else hA h 71 k) = _; simp
  · show (if (72 : Nat) = 72 ∧ k = nF h then x4 else hA h 72 k) = _; simp
  · show (if (73 : Nat) = 73 ∧ k = nF h then vp_nar .boolean x5 else hA h 73 k) = _; simp
theorem rF_n {h : aH} {x1 x2 x3 x4 x5 : Int32} (S : RI h) (hf : ¬ hI h 63 8 = nI 400) : nF (rFact h x1 x2 x3 x4 x5) = nF h + 1 ∧ (hI h 63 8 + nI 1).toInt = (hI h 63 8).toInt + 1 ∧ (hI h 63 8).toInt < 400 := by
  have hN := S.1
  unfold RIn at hN
  obtain ⟨c1, c2⟩ := cnt1 (n := 400) (by decide) hN.2.2.1 hf
  refine ⟨?_, c2, by omega⟩
  show (hI h 63 8 + nI 1).toNatClampNeg = _
  have e1 := i32_clamp (x := hI h 63 8 + nI 1) (by omega)
  have e2 := i32_clamp hN.2.2.1.1
  show _ = (hI h 63 8).toNatClampNeg + 1
  omega
theorem RI.fact {h : aH} {x1 x2 x3 x4 x5 : Int32} (S : RI h) (hf : ¬ hI h 63 8 = nI 400) (hnew : RF (rFact h x1 x2 x3 x4 x5) (nF h)) (h5 : x5 = nI 0 ∨ x5 = nI 1) : RI (rFact h x1 x2 x3 x4 x5) := by
  obtain ⟨n1, n2, n3⟩ := rF_n (x1 := x1) (x2 := x2) (x3 := x3) (x4 := x4) (x5 := x5) S hf
  obtain ⟨hN, hL, hP, hC, hF, hSe⟩ := S
  unfold RIn at hN
  have e2 : (nF h : Int) = (hI h 63 8).toInt := i32_clamp hN.2.2.1.1
  have f8 : hI (rFact h x1 x2 x3 x4 x5) 63 8 = hI h 63 8 + nI 1 := rfl
  refine ⟨⟨hN.1, hN.2.1, by rw [f8, n2]; omega, hN.2.2.2⟩, hL, hP, hC, fun k hk => ?_, hSe⟩
  rw [f8, n2] at hk
  obtain ⟨a1, a2, a3, a4, a5⟩ := rF_at (h := h) (x1 := x1) (x2 := x2) (x3 := x3) (x4 := x4) (x5 := x5) k
  by_cases g : k = nF h
  · subst g
    refine ⟨hnew, ?_⟩
    rw [a5, if_pos rfl]
    rcases h5 with rfl | rfl
    · exact Or.inl rfl
    · exact Or.inr rfl
  · rw [if_neg g] at a1 a2 a3 a4 a5
    obtain ⟨q1, q2⟩ := hF k (by omega)
    exact ⟨RF.more (h := h) (Int.le_refl _) (Int.le_refl _) (Int.le_refl _) a1 a2 a3 a4 q1, by rw [a5]; exact q2⟩
/-- the chain of an owner behind a fact: one more if it is the owner's, else as it was -/
theorem chn.fact {h : aH} {ow fk : Nat} {a b c : Int32} {P P' : Nat → Prop} {fa fb fc fa' fb' fc' : Nat → Int32} {m : Nat} {r r' : aR} (hn : 99 ≤ hN h) (ho : ow ≠ hN h) (hot : ¬ hT h ow = (0, 3)) (hm : hI h 0 11 = nI m) (he : ∀ k, k < m → (P k ↔ P' k) ∧ fa k = fa' k ∧ fb k = fb' k ∧ fc k = fc' k) (hc : chn h P fa fb fc m r)
    (hy : P' m → r' = some (0, 3, hN h) ∧ r = hR h ow fk ∧ a = fa' m ∧ b = fb' m ∧ c = fc' m) (hno : ¬ P' m → r' = r) : chn (kFactH h ow fk a b c) P' fa' fb' fc' (m + 1) r' := by
  have hex : exH h (kFactH h ow fk a b c) := exH.new h _
  have hf : ∀ q, isO h q 3 → hI (kFactH h ow fk a b c) q = hI h q ∧ hR (kFactH h ow fk a b c) q = hR h q := fun q hq => by
    have h1 : q ≠ hN h := by have := hq.2.1; omega
    refine ⟨kF_I (by have := hq.1; omega) h1, ?_⟩
    funext k
    rw [kF_R k h1, if_neg (show ¬ (q = ow ∧ k = fk) from fun z => hot (z.1 ▸ hq.2.2))]
  by_cases g : P' m
  · obtain ⟨e1, e2, e3, e4, e5⟩ := hy g
    obtain ⟨i0, i1, i2, i3⟩ := kF_IN (h := h) (ow := ow) (fk := fk) (a := a) (b := b) (c := c) hn
    refine Or.inl ⟨g, hN h, e1, i0.trans hm, i1.trans e3, i2.trans e4, i3.trans e5, ?_, hn, Nat.lt_succ_self _, by show up1 (hT h) (hN h) (0, 3) (hN h) = _; simp [up1]⟩
    rw [kF_RN ho, ← e2]
    exact chn.mv3 hf hex m r he hc
  · exact Or.inr ⟨g, by rw [hno g]; exact chn.mv3 hf hex m r he hc⟩
