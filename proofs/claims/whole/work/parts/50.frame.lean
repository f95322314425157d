/-! ===== frames: what a change leaves as it is ===== -/
theorem chn.mv {h h' : aH} {P P' : Nat → Prop} {a b c a' b' c' : Nat → Int32} (hf : ∀ q, 99 ≤ q → q < hN h → hI h' q = hI h q ∧ hR h' q = hR h q) (hex : exH h h') : ∀ (m : Nat) (r : aR), (∀ k, k < m → (P k ↔ P' k) ∧ a k = a' k ∧ b k = b' k ∧ c k = c' k) → chn h P a b c m r → chn h' P' a' b' c' m r
  | 0, r, _, hc => hc
  | m + 1, r, he, hc => by
    obtain ⟨e1, e2, e3, e4⟩ := he m (Nat.lt_succ_self m)
    rcases hc with ⟨hP, o, hr, f0, f1, f2, f3, hc, g1, g2, g3⟩ | ⟨hP, hc⟩
    · obtain ⟨x1, x2⟩ := hf o g1 g2
      refine Or.inl ⟨e1.mp hP, o, hr, by rw [x1]; exact f0, by rw [x1, ← e2]; exact f1, by rw [x1, ← e3]; exact f2, by rw [x1, ← e4]; exact f3, ?_, g1, Nat.lt_of_lt_of_le g2 hex.1, by rw [hex.2 o g2]; exact g3⟩
      rw [x2]
      exact chn.mv hf hex m _ (fun k hk => he k (by omega)) hc
    · exact Or.inr ⟨fun q => hP (e1.mpr q), chn.mv hf hex m r (fun k hk => he k (by omega)) hc⟩
theorem chn_none {h : aH} {P : Nat → Prop} {a b c : Nat → Int32} : ∀ m, (∀ k, k < m → ¬ P k) → chn h P a b c m none
  | 0, _ => rfl
  | m + 1, hn => Or.inr ⟨hn m (Nat.lt_succ_self m), chn_none m (fun k hk => hn k (by omega))⟩
/-- the facts are the same -/
def sameF (g g' : aH) : Prop := hA g' 69 = hA g 69 ∧ hA g' 70 = hA g 70 ∧ hA g' 71 = hA g 71 ∧ hA g' 72 = hA g 72 ∧ hA g' 73 = hA g 73 ∧ nF g' = nF g
theorem LdAt2.mv {h h' g g' : aH} {i o : Nat} (hl : LdAt2 h g i o) (hq : hQ h' 1 i = hQ h 1 i) (hf : ∀ q, 99 ≤ q → q < hN h → hI h' q = hI h q ∧ hR h' q = hR h q) (hex : exH h h') (hg : hA g' 64 i = hA g 64 i) (hs : sameF g g') : LdAt2 h' g' i o := by
  obtain ⟨h1, h2, h3, h4, g1, g2, g3⟩ := hl
  obtain ⟨s1, s2, s3, s4, s5, s6⟩ := hs
  obtain ⟨x1, x2⟩ := hf o g1 g2
  refine ⟨hq.trans h1, by rw [x1, hg]; exact h2, ?_, ?_, g1, Nat.lt_of_lt_of_le g2 hex.1, by rw [hex.2 o g2]; exact g3⟩
  · unfold cCh2
    rw [s1, s2, s3, s4, s5, s6, x2]
    exact chn.mv hf hex _ _ (fun k _ => ⟨Iff.rfl, rfl, rfl, rfl⟩) h3
  · unfold cFe2
    rw [s1, s2, s3, s5, s6, x2]
    exact chn.mv hf hex _ _ (fun k _ => ⟨Iff.rfl, rfl, rfl, rfl⟩) h4
theorem PeAt2.mv {h h' g g' : aH} {p o a : Nat} (hp : PeAt2 h g p o a) (hq : hQ h' 2 p = hQ h 2 p) (hq1 : hQ h' 1 (hA g 65 p).toNatClampNeg = hQ h 1 (hA g 65 p).toNatClampNeg) (hf : ∀ q, 99 ≤ q → q < hN h → hI h' q = hI h q ∧ hR h' q = hR h q) (ha : hA h' a = hA h a) (hex : exH h h') (h5 : hA g' 65 p = hA g 65 p) (h6 : hA g' 66 p = hA g 66 p) (h7 : hA g' 67 p = hA g 67 p) (h8 : ∀ i : Nat, i < 48 → hA g' 68 (48 * p + i) = hA g 68 (48 * p + i)) (hs : sameF g g') : PeAt2 h' g' p o a := by
  obtain ⟨q1, q2, q3, q4, q5, q6, q7, ⟨g1, g2, g3⟩, y1, y2, y3⟩ := hp
  obtain ⟨s1, s2, s3, s4, s5, s6⟩ := hs
  obtain ⟨x1, x2⟩ := hf o g1 g2
  refine ⟨hq.trans q1, by rw [x2, h5, hq1]; exact q2, by rw [x1, h6]; exact q3, by rw [x2]; exact q4, by rw [x1, h7]; exact q5, fun w i hi => by rw [ha, h8 i hi]; exact q6 (h7 ▸ w) i hi, ?_, ⟨g1, Nat.lt_of_lt_of_le g2 hex.1, by rw [hex.2 o g2]; exact g3⟩, y1, Nat.lt_of_lt_of_le y2 hex.1, by rw [hex.2 a y2]; exact y3⟩
  unfold cBu2
  rw [s1, s2, s3, s4, s5, s6, x2]
  exact chn.mv hf hex _ _ (fun k _ => ⟨Iff.rfl, rfl, rfl, rfl⟩) q7
/-- the reference's part is the same -/
def RE (g h : aH) : Prop := hI h 63 = hI g 63 ∧ ∀ a, 64 ≤ a → a ≤ 98 → hA h a = hA g a
theorem RE.rf (h : aH) : RE h h := ⟨rfl, fun _ _ _ => rfl⟩
theorem RE.tr {a b c : aH} (h1 : RE a b) (h2 : RE b c) : RE a c := ⟨h2.1.trans h1.1, fun k g1 g2 => (h2.2 k g1 g2).trans (h1.2 k g1 g2)⟩
theorem RI.re {g h : aH} (e : RE g h) (S : RI g) : RI h := by
  obtain ⟨e0, e⟩ := e
  have e64 := e 64 (by decide) (by decide); have e65 := e 65 (by decide) (by decide); have e66 := e 66 (by decide) (by decide); have e67 := e 67 (by decide) (by decide); have e68 := e 68 (by decide) (by decide)
  have e69 := e 69 (by decide) (by decide); have e70 := e 70 (by decide) (by decide); have e71 := e 71 (by decide) (by decide); have e72 := e 72 (by decide) (by decide); have e73 := e 73 (by decide) (by decide)
  have e74 := e 74 (by decide) (by decide); have e75 := e 75 (by decide) (by decide); have e76 := e 76 (by decide) (by decide); have e77 := e 77 (by decide) (by decide); have e78 := e 78 (by decide) (by decide); have e79 := e 79 (by decide) (by decide); have e80 := e 80 (by decide) (by decide)
  unfold RI RIn RIl RIp RIc RIf RIs RF RSe RPl at S ⊢
  rw [e0, e64, e65, e66, e67, e68, e69, e70, e71, e72, e73, e74, e75, e76, e77, e78, e79, e80]
  exact S
theorem SK2.re {h g g' : aH} (e : RE g g') (S : SK2 h g) : SK2 h g' := by
  obtain ⟨e0, e⟩ := e
  have e64 := e 64 (by decide) (by decide); have e65 := e 65 (by decide) (by decide); have e66 := e 66 (by decide) (by decide); have e67 := e 67 (by decide) (by decide); have e68 := e 68 (by decide) (by decide)
  have e69 := e 69 (by decide) (by decide); have e70 := e 70 (by decide) (by decide); have e71 := e 71 (by decide) (by decide); have e72 := e 72 (by decide) (by decide); have e73 := e 73 (by decide) (by decide)
  unfold SK2 CLn2 CLl2 CLp2 LdAt2 PeAt2 cCh2 cFe2 cBu2 nF at S ⊢
  rw [e0, e64, e65, e66, e67, e68, e69, e70, e71, e72, e73]
  exact S
/-- the class's lands and persons are the same -/
def FM (h h' : aH) : Prop := exH h h' ∧ (∀ q, 99 ≤ q → q < hN h → hI h' q = hI h q ∧ hR h' q = hR h q ∧ hA h' q = hA h q) ∧ hQ h' 1 = hQ h 1 ∧ hQ h' 2 = hQ h 2 ∧ hI h' 0 = hI h 0
theorem SK2.fm {h h' g : aH} (m : FM h h') (S : SK2 h g) : SK2 h' g := by
  obtain ⟨hex, hf, q1, q2, q0⟩ := m
  have hf2 : ∀ q, 99 ≤ q → q < hN h → hI h' q = hI h q ∧ hR h' q = hR h q := fun q a b => ⟨(hf q a b).1, (hf q a b).2.1⟩
  have hs : sameF g g := ⟨rfl, rfl, rfl, rfl, rfl, rfl⟩
  refine ⟨by unfold CLn2; rw [q0]; exact S.1, fun i hi => ?_, fun p hp => ?_⟩
  · obtain ⟨o, ho⟩ := S.2.1 i hi
    exact ⟨o, ho.mv (by rw [q1]) hf2 hex rfl hs⟩
  · obtain ⟨o, a, ho⟩ := S.2.2 p hp
    exact ⟨o, a, ho.mv (by rw [q2]) (by rw [q1]) hf2 (hf a ho.2.2.2.2.2.2.2.2.1 ho.2.2.2.2.2.2.2.2.2.1).2.2 hex rfl rfl rfl (fun _ _ => rfl) hs⟩
/-! SH under changes elsewhere -/
theorem SH.stR {h : aH} {o k : Nat} {v : aR} (S : SH h) (ho : 99 ≤ o) : SH (stR h o k v) := by
  refine ⟨fun q hq => ?_, S.2⟩
  have hb : q.1 < 99 := by
    have : ∀ q ∈ shT, q.1 < 99 := by decide
    exact this q hq
  show up2 (hR h) o k v q.1 q.2.1 = q.2.2
  rw [up2_ne (by omega)]
  exact S.1 q hq
theorem SH.stQ {h : aH} {a i : Nat} {v : aR} (S : SH h) (h4 : a ≠ 4) (h50 : a ≠ 50) : SH (stQ h a i v) := by
  refine ⟨S.1, fun j hj => ?_, fun j hj => ?_⟩
  · show up2 (hQ h) a i v 4 j = _
    rw [up2_ne (fun e => h4 e.symm)]
    exact S.2.1 j hj
  · show up2 (hQ h) a i v 50 j = _
    rw [up2_ne (fun e => h50 e.symm)]
    exact S.2.2 j hj
theorem SH.stN {h : aH} {t : Nat × Nat} (S : SH h) (hn : 99 ≤ hN h) : SH (stN h t) := by
  refine ⟨fun q hq => ?_, fun j hj => ?_, fun j hj => ?_⟩
  · have hb : q.1 < 99 := by
      have : ∀ q ∈ shT, q.1 < 99 := by decide
      exact this q hq
    show up1 (hR h) (hN h) (fun _ => none) q.1 q.2.1 = q.2.2
    rw [up1_ne (by omega)]
    exact S.1 q hq
  · show up1 (hQ h) (hN h) (fun _ => none) 4 j = _
    rw [up1_ne (by omega)]
    exact S.2.1 j hj
  · show up1 (hQ h) (hN h) (fun _ => none) 50 j = _
    rw [up1_ne (by omega)]
    exact S.2.2 j hj
