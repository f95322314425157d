/-! ===== the series: the class's objects beside the reference's arrays ===== -/
/-- a choice of the class beside what the reference has planned -/
def ChOf (chair c i j : Int32) : Prop := (c = -1 ∧ i = -1 ∧ j = -1) ∨ (chair = -1 ∧ c = i ∧ j = -1 ∧ ∃ n : Nat, n < 6 ∧ i = nI n) ∨ (¬ chair = -1 ∧ ∃ n : Nat, n < 15 ∧ c = nI n ∧ i = tb1.getD n 0 ∧ j = tb2.getD n 0)
def SeSl (h g : aH) (s o : Nat) : Prop := ∀ i : Nat, (i : Int) < (hA g 77 s).toInt → hA h (o + 1) i = hA g 78 (6 * s + i)
def SeRo (h g : aH) (s o : Nat) : Prop := ∀ r : Nat, r < 6 → sm 12 (hA h (o + 2) r) ∧ (1 ≤ r → ∀ p : Nat, p < 12 → (bt (hA h (o + 2) r) p = true ↔ hA g 79 (12 * s + p) = nI r))
def SeCh (h g : aH) (s o : Nat) : Prop := ∀ w : Nat, w < 52 → ChOf (hA g 76 s) (hA h (o + 3) w) (hA g 80 (104 * s + 2 * w)) (hA g 80 (104 * s + 2 * w + 1))
def SeT (h : aH) (o : Nat) : Prop := isO h o 9 ∧ o + 3 < hN h ∧ hT h (o + 1) = (1, 6) ∧ hT h (o + 2) = (1, 6) ∧ hT h (o + 3) = (1, 52)
def SeF (h g : aH) (s o : Nat) : Prop := hQ h 3 s = some (0, 9, o) ∧ hI h o 0 = nI s ∧ hI h o 1 = hA g 74 s ∧ hR h o 2 = (if hA g 75 s = -1 then none else hQ h 3 (hA g 75 s).toNatClampNeg) ∧ hI h o 3 = hA g 76 s ∧ hI h o 7 = hA g 77 s ∧ hR h o 4 = some (1, 6, o + 1) ∧ hR h o 5 = some (1, 6, o + 2) ∧ hR h o 6 = some (1, 52, o + 3)
def SeB (h g : aH) (s o : Nat) : Prop := SeF h g s o ∧ SeSl h g s o ∧ SeRo h g s o ∧ SeCh h g s o ∧ SeT h o
def SeAt2 (h g : aH) (s o : Nat) : Prop := SeB h g s o ∧ cCa2 h g s (hR h o 8)
def SeAt (h : aH) (s o : Nat) : Prop := SeAt2 h h s o
def CLs2 (h g : aH) : Prop := ∀ s : Nat, (s : Int) < (hI g 63 14).toInt → ∃ o, SeAt2 h g s o
def CLe (h g : aH) : Prop := ∀ s t : Nat, (s : Int) < (hI g 63 14).toInt → (t : Int) < (hI g 63 14).toInt → hQ h 3 s = hQ h 3 t → s = t
def CLk (h g : aH) : Prop := hI h 0 13 = hI g 63 38 ∧ sm 12 (hI g 63 38)
def CL (h g : aH) : Prop := SK2 h g ∧ CLs2 h g ∧ CLd h g ∧ CLe h g ∧ CLk h g
/-- what holds between two calls -/
def LV (h : aH) : Prop := SR h ∧ CL h h ∧ 99 ≤ hN h
theorem LV.sk {h : aH} (V : LV h) : SK h := ⟨V.1, V.2.1.1⟩
/-- series s has the same data -/
def sameS (g g' : aH) (s : Nat) : Prop := hA g' 74 s = hA g 74 s ∧ hA g' 75 s = hA g 75 s ∧ hA g' 76 s = hA g 76 s ∧ hA g' 77 s = hA g 77 s ∧ (∀ i, i < 6 → hA g' 78 (6 * s + i) = hA g 78 (6 * s + i)) ∧ (∀ p, p < 12 → hA g' 79 (12 * s + p) = hA g 79 (12 * s + p)) ∧ (∀ w, w < 104 → hA g' 80 (104 * s + w) = hA g 80 (104 * s + w))
theorem sameS.rf (g : aH) (s : Nat) : sameS g g s := ⟨rfl, rfl, rfl, rfl, fun _ _ => rfl, fun _ _ => rfl, fun _ _ => rfl⟩
theorem SeT.mv {h h' : aH} {o : Nat} (t : SeT h o) (ex : exH h h') : SeT h' o := by
  obtain ⟨⟨t1, t2, t3⟩, t4, t5, t6, t7⟩ := t
  have := ex.1
  exact ⟨⟨t1, by omega, by rw [ex.2 o t2]; exact t3⟩, by omega, by rw [ex.2 _ (by omega)]; exact t5, by rw [ex.2 _ (by omega)]; exact t6, by rw [ex.2 _ (by omega)]; exact t7⟩
theorem SeB.mv {h h' g g' : aH} {s o : Nat} (b : SeB h g s o) (hs6 : (hA g 77 s).toInt ≤ 6) (q3 : hQ h' 3 s = hQ h 3 s) (qc : ¬ hA g 75 s = -1 → hQ h' 3 (hA g 75 s).toNatClampNeg = hQ h 3 (hA g 75 s).toNatClampNeg) (i : hI h' o = hI h o) (r : ∀ k, k ≠ 8 → hR h' o k = hR h o k) (a1 : hA h' (o + 1) = hA h (o + 1)) (a2 : hA h' (o + 2) = hA h (o + 2)) (a3 : hA h' (o + 3) = hA h (o + 3)) (ex : exH h h') (e : sameS g g' s) : SeB h' g' s o := by
  obtain ⟨⟨f1, f2, f3, f4, f5, f6, f7, f8, f9⟩, b2, b3, b4, b5⟩ := b
  obtain ⟨e4, e5, e6, e7, e8, e9, e0⟩ := e
  refine ⟨⟨q3.trans f1, by rw [i]; exact f2, by rw [i, e4]; exact f3, ?_, by rw [i, e6]; exact f5, by rw [i, e7]; exact f6, by rw [r 4 (by decide)]; exact f7, by rw [r 5 (by decide)]; exact f8, by rw [r 6 (by decide)]; exact f9⟩, fun k hk => ?_, fun k hk => ?_, fun w hw => ?_, b5.mv ex⟩
  · rw [r 2 (by decide), e5, f4]
    by_cases c : hA g 75 s = -1
    · rw [if_pos c, if_pos c]
    · rw [if_neg c, if_neg c, qc c]
  · rw [e7] at hk
    rw [a1, e8 k (by omega)]
    exact b2 k hk
  · rw [a2]
    refine ⟨(b3 k hk).1, fun h1 p hp => ?_⟩
    rw [e9 p hp]
    exact (b3 k hk).2 h1 p hp
  · rw [a3, e6, e0 (2 * w) (by omega), Nat.add_assoc, e0 (2 * w + 1) (by omega)]
    exact b4 w hw
/-- the class's series are the same -/
def FMs (h h' : aH) : Prop := exH h h' ∧ (∀ q, 99 ≤ q → q < hN h → (hT h q = (0, 9) ∨ hT h q = (0, 3)) → hI h' q = hI h q ∧ hR h' q = hR h q) ∧ (∀ q, 99 ≤ q → q < hN h → (hT h q = (1, 6) ∨ hT h q = (1, 52)) → hA h' q = hA h q) ∧ hQ h' 3 = hQ h 3
theorem SeAt2.mv {h h' g g' : aH} {s o : Nat} (b : SeAt2 h g s o) (hs6 : (hA g 77 s).toInt ≤ 6) (m : FMs h h') (e : sameS g g' s) (hs : sameF g g') : SeAt2 h' g' s o := by
  obtain ⟨ex, m1, m2, m3⟩ := m
  obtain ⟨b, c⟩ := b
  obtain ⟨⟨t1, t2, t3⟩, t4, t5, t6, t7⟩ := b.2.2.2.2
  obtain ⟨i, r⟩ := m1 o t1 t2 (Or.inl t3)
  refine ⟨b.mv hs6 (by rw [m3]) (fun _ => by rw [m3]) i (fun k _ => by rw [r]) (m2 _ (by omega) (by omega) (Or.inl t5)) (m2 _ (by omega) (by omega) (Or.inl t6)) (m2 _ (by omega) (by omega) (Or.inr t7)) ex e, ?_⟩
  obtain ⟨s1, s2, s3, s4, s5, s6⟩ := hs
  unfold cCa2
  rw [s1, s2, s3, s4, s5, s6, r]
  exact chn.mv3 (fun q hq => m1 q hq.1 hq.2.1 (Or.inr hq.2.2)) ex _ _ (fun k _ => ⟨Iff.rfl, rfl, rfl, rfl⟩) c
theorem CLs2.mv {h h' g g' : aH} (S : RIs g) (m : FMs h h') (e : ∀ s : Nat, (s : Int) < (hI g 63 14).toInt → sameS g g' s) (hs : sameF g g') (e14 : hI g' 63 14 = hI g 63 14) (c : CLs2 h g) : CLs2 h' g' := fun s h14 => by
  rw [e14] at h14
  obtain ⟨o, ho⟩ := c s h14
  exact ⟨o, ho.mv (S.1 s h14).2.2.2.1.2 m (e s h14) hs⟩
/-! ===== the reference's own changes ===== -/
def MO (h h' : aH) : Prop := hR h' = hR h ∧ hQ h' = hQ h ∧ hT h' = hT h ∧ hN h' = hN h ∧ (∀ q, q ≠ 63 → hI h' q = hI h q) ∧ (∀ a, (a < 64 ∨ 98 < a) → hA h' a = hA h a)
theorem MO.rf (h : aH) : MO h h := ⟨rfl, rfl, rfl, rfl, fun _ _ => rfl, fun _ _ => rfl⟩
theorem MO.tr {a b c : aH} (h1 : MO a b) (h2 : MO b c) : MO a c := ⟨h2.1.trans h1.1, h2.2.1.trans h1.2.1, h2.2.2.1.trans h1.2.2.1, h2.2.2.2.1.trans h1.2.2.2.1, fun q hq => (h2.2.2.2.2.1 q hq).trans (h1.2.2.2.2.1 q hq), fun q hq => (h2.2.2.2.2.2 q hq).trans (h1.2.2.2.2.2 q hq)⟩
theorem mo_I (h : aH) (k : Nat) (v : Int32) : MO h (stI h 63 k v) := ⟨rfl, rfl, rfl, rfl, fun _ hq => up2_ne hq, fun _ _ => rfl⟩
theorem mo_A (h : aH) {a : Nat} (k : Nat) (v : Int32) (ha : 64 ≤ a ∧ a ≤ 98) : MO h (stA h a k v) := ⟨rfl, rfl, rfl, rfl, fun _ _ => rfl, fun _ hq => up2_ne (by omega)⟩
theorem mo_AA (h : aH) {a : Nat} (f : Nat → Int32) (ha : 64 ≤ a ∧ a ≤ 98) : MO h (stAA h a f) := ⟨rfl, rfl, rfl, rfl, fun _ _ => rfl, fun _ hq => up1_ne (by omega)⟩
theorem MO.sh {h h' : aH} (m : MO h h') (S : SH h) : SH h' := by
  obtain ⟨m1, m2, -⟩ := m
  unfold SH at S ⊢
  rw [m1, m2]
  exact S
theorem MO.ex {h h' : aH} (m : MO h h') : exH h h' := ⟨by rw [m.2.2.2.1]; exact Nat.le_refl _, fun i _ => by rw [m.2.2.1]⟩
theorem MO.fm {h h' : aH} (m : MO h h') : FM h h' := ⟨m.ex, fun q h1 h2 => ⟨m.2.2.2.2.1 q (by omega), by rw [m.1], m.2.2.2.2.2 q (by omega)⟩, by rw [m.2.1], by rw [m.2.1], m.2.2.2.2.1 0 (by decide)⟩
theorem MO.fms {h h' : aH} (m : MO h h') : FMs h h' := ⟨m.ex, fun q h1 h2 _ => ⟨m.2.2.2.2.1 q (by omega), by rw [m.1]⟩, fun q h1 h2 _ => m.2.2.2.2.2 q (by omega), by rw [m.2.1]⟩
theorem sameF.rf (g : aH) : sameF g g := ⟨rfl, rfl, rfl, rfl, rfl, rfl⟩
theorem MO.cl {h h' g : aH} (m : MO h h') (S : RIs g) (c : CL h g) : CL h' g := by
  obtain ⟨c1, c2, c3, c4, c5⟩ := c
  refine ⟨c1.fm m.fm, c2.mv S m.fms (fun s _ => sameS.rf g s) (sameF.rf g) rfl, ?_, ?_, ?_⟩
  · unfold CLd at c3 ⊢
    rw [m.2.1, m.1]
    exact c3
  · unfold CLe at c4 ⊢
    rw [m.2.1]
    exact c4
  · unfold CLk at c5 ⊢
    rw [m.2.2.2.2.1 0 (by decide)]
    exact c5
/-- the reference's lasting part is the same -/
def REp (g h : aH) : Prop := (hI h 63 1 = hI g 63 1 ∧ hI h 63 3 = hI g 63 3 ∧ hI h 63 8 = hI g 63 8 ∧ hI h 63 14 = hI g 63 14 ∧ hI h 63 38 = hI g 63 38) ∧ ∀ a, 64 ≤ a → a ≤ 80 → hA h a = hA g a
theorem RE.p {g h : aH} (e : RE g h) : REp g h := ⟨⟨by rw [e.1], by rw [e.1], by rw [e.1], by rw [e.1], by rw [e.1]⟩, fun a h1 h2 => e.2 a h1 (by omega)⟩
theorem REp.rf (h : aH) : REp h h := ⟨⟨rfl, rfl, rfl, rfl, rfl⟩, fun _ _ _ => rfl⟩
theorem REp.tr {a b c : aH} (h1 : REp a b) (h2 : REp b c) : REp a c := ⟨⟨h2.1.1.trans h1.1.1, h2.1.2.1.trans h1.1.2.1, h2.1.2.2.1.trans h1.1.2.2.1, h2.1.2.2.2.1.trans h1.1.2.2.2.1, h2.1.2.2.2.2.trans h1.1.2.2.2.2⟩, fun k g1 g2 => (h2.2 k g1 g2).trans (h1.2 k g1 g2)⟩
theorem REp.sy {a b : aH} (h1 : REp a b) : REp b a := ⟨⟨h1.1.1.symm, h1.1.2.1.symm, h1.1.2.2.1.symm, h1.1.2.2.2.1.symm, h1.1.2.2.2.2.symm⟩, fun k g1 g2 => (h1.2 k g1 g2).symm⟩
theorem REp.ri {g h : aH} (e : REp g h) (S : RI g) : RI h := by
  obtain ⟨⟨i1, i3, i8, i14, -⟩, e⟩ := e
  have e64 := e 64 (by decide) (by decide); have e65 := e 65 (by decide) (by decide); have e66 := e 66 (by decide) (by decide); have e67 := e 67 (by decide) (by decide); have e68 := e 68 (by decide) (by decide)
  have e69 := e 69 (by decide) (by decide); have e70 := e 70 (by decide) (by decide); have e71 := e 71 (by decide) (by decide); have e72 := e 72 (by decide) (by decide); have e73 := e 73 (by decide) (by decide)
  have e74 := e 74 (by decide) (by decide); have e75 := e 75 (by decide) (by decide); have e76 := e 76 (by decide) (by decide); have e77 := e 77 (by decide) (by decide); have e78 := e 78 (by decide) (by decide); have e79 := e 79 (by decide) (by decide); have e80 := e 80 (by decide) (by decide)
  unfold RI RIn RIl RIp RIc RIf RIs RF RSe RPl at S ⊢
  rw [i1, i3, i8, i14, e64, e65, e66, e67, e68, e69, e70, e71, e72, e73, e74, e75, e76, e77, e78, e79, e80]
  exact S
theorem REp.cl {h g g' : aH} (e : REp g g') (c : CL h g) : CL h g' := by
  obtain ⟨⟨i1, i3, i8, i14, i38⟩, e⟩ := e
  have e64 := e 64 (by decide) (by decide); have e65 := e 65 (by decide) (by decide); have e66 := e 66 (by decide) (by decide); have e67 := e 67 (by decide) (by decide); have e68 := e 68 (by decide) (by decide)
  have e69 := e 69 (by decide) (by decide); have e70 := e 70 (by decide) (by decide); have e71 := e 71 (by decide) (by decide); have e72 := e 72 (by decide) (by decide); have e73 := e 73 (by decide) (by decide)
  have e74 := e 74 (by decide) (by decide); have e75 := e 75 (by decide) (by decide); have e76 := e 76 (by decide) (by decide); have e77 := e 77 (by decide) (by decide); have e78 := e 78 (by decide) (by decide); have e79 := e 79 (by decide) (by decide); have e80 := e 80 (by decide) (by decide)
  unfold CL SK2 CLn2 CLl2 CLp2 CLs2 SeAt2 SeB SeF SeSl SeRo SeCh CLd CLe CLk LdAt2 PeAt2 cCh2 cFe2 cBu2 cCa2 nF at c ⊢
  rw [i1, i3, i8, i14, i38, e64, e65, e66, e67, e68, e69, e70, e71, e72, e73, e74, e75, e76, e77, e78, e79, e80]
  exact c
/-- a call behind which all is well: the class's heap h1, the reference's data gr, the heap h2 at the end -/
theorem LV.done {h1 gr h2 : aH} (S1 : SH h1) (cl : CL h1 gr) (ri : RI gr) (hn : 99 ≤ hN h1) (e : REp gr h2) (m : MO h1 h2) : LV h2 :=
  ⟨⟨m.sh S1, e.ri ri⟩, e.cl (m.cl ri.2.2.2.2.2 cl), by rw [m.2.2.2.1]; exact hn⟩
theorem RE.stI {h h1 : aH} (k : Nat) (v : Int32) (e : RE h h1) : RE (stI h 63 k v) (stI h1 63 k v) := ⟨by
  show up2 (hI h1) 63 k v 63 = up2 (hI h) 63 k v 63
  funext j
  unfold up2
  rw [e.1], fun a g1 g2 => e.2 a g1 g2⟩
theorem RE.stA {h h1 : aH} (a k : Nat) (v : Int32) (e : RE h h1) : RE (stA h a k v) (stA h1 a k v) := ⟨e.1, fun b g1 g2 => by
  show up2 (hA h1) a k v b = up2 (hA h) a k v b
  funext j
  unfold up2
  rw [e.2 b g1 g2]⟩
theorem RE.stAA {h h1 : aH} (a : Nat) (f : Nat → Int32) (e : RE h h1) : RE (stAA h a f) (stAA h1 a f) := ⟨e.1, fun b g1 g2 => by
  show up1 (hA h1) a f b = up1 (hA h) a f b
  unfold up1
  rw [e.2 b g1 g2]⟩
