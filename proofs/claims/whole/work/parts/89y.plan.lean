/-! ===== what plan and move write: one series' choices ===== -/
theorem REq.clw {h g g' : aH} (e : REq g g') (c : CLW h g) : CLW h g' := by
  obtain ⟨⟨i1, i3, i8, i14⟩, e⟩ := e
  have e64 := e 64 (by decide) (by decide); have e65 := e 65 (by decide) (by decide); have e66 := e 66 (by decide) (by decide); have e67 := e 67 (by decide) (by decide); have e68 := e 68 (by decide) (by decide)
  have e69 := e 69 (by decide) (by decide); have e70 := e 70 (by decide) (by decide); have e71 := e 71 (by decide) (by decide); have e72 := e 72 (by decide) (by decide); have e73 := e 73 (by decide) (by decide)
  have e74 := e 74 (by decide) (by decide); have e75 := e 75 (by decide) (by decide); have e76 := e 76 (by decide) (by decide); have e77 := e 77 (by decide) (by decide); have e78 := e 78 (by decide) (by decide); have e79 := e 79 (by decide) (by decide); have e80 := e 80 (by decide) (by decide)
  unfold CLW SK2 CLn2 CLl2 CLp2 CLs2 SeAt2 SeB SeF SeSl SeRo SeCh CLd CLe LdAt2 PeAt2 cCh2 cFe2 cBu2 cCa2 nF at c ⊢
  rw [i1, i3, i8, i14, e64, e65, e66, e67, e68, e69, e70, e71, e72, e73, e74, e75, e76, e77, e78, e79, e80]
  exact c
theorem REq.ri {g h : aH} (e : REq g h) (S : RI g) : RI h := by
  obtain ⟨⟨i1, i3, i8, i14⟩, e⟩ := e
  have e64 := e 64 (by decide) (by decide); have e65 := e 65 (by decide) (by decide); have e66 := e 66 (by decide) (by decide); have e67 := e 67 (by decide) (by decide); have e68 := e 68 (by decide) (by decide)
  have e69 := e 69 (by decide) (by decide); have e70 := e 70 (by decide) (by decide); have e71 := e 71 (by decide) (by decide); have e72 := e 72 (by decide) (by decide); have e73 := e 73 (by decide) (by decide)
  have e74 := e 74 (by decide) (by decide); have e75 := e 75 (by decide) (by decide); have e76 := e 76 (by decide) (by decide); have e77 := e 77 (by decide) (by decide); have e78 := e 78 (by decide) (by decide); have e79 := e 79 (by decide) (by decide); have e80 := e 80 (by decide) (by decide)
  unfold RI RIn RIl RIp RIc RIf RIs RF RSe RPl at S ⊢
  rw [i1, i3, i8, i14, e64, e65, e66, e67, e68, e69, e70, e71, e72, e73, e74, e75, e76, e77, e78, e79, e80]
  exact S
/-- the class's lasting part is the same -/
theorem CL.fr {h h' g : aH} (S : RIs g) (c : CL h g) (r : hR h' = hR h) (q : ∀ a, a ≠ 48 → a ≠ 49 → hQ h' a = hQ h a) (t : hT h' = hT h) (n : hN h' = hN h) (i0 : hI h' 0 = hI h 0) (i : ∀ q, 99 ≤ q → hI h' q = hI h q) (a : ∀ q, 99 ≤ q → hA h' q = hA h q) : CL h' g := by
  have ex : exH h h' := ⟨by rw [n]; exact Nat.le_refl _, fun i _ => by rw [t]⟩
  have fm : FM h h' := ⟨ex, fun q h1 _ => ⟨i q h1, by rw [r], a q h1⟩, q 1 (by decide) (by decide), q 2 (by decide) (by decide), i0⟩
  have fms : FMs h h' := ⟨ex, fun q h1 _ _ => ⟨i q h1, by rw [r]⟩, fun q h1 _ _ => a q h1, q 3 (by decide) (by decide)⟩
  obtain ⟨w1, w2, w3, w4⟩ := CLW.fms S fm fms (q 1 (by decide) (by decide)) (q 2 (by decide) (by decide)) (q 3 (by decide) (by decide)) r ⟨c.1, c.2.1, c.2.2.1, c.2.2.2.1⟩
  refine ⟨w1, w2, w3, w4, ?_⟩
  unfold CLk
  rw [i0]
  exact c.2.2.2.2
/-- the stuck ones of the reference put beside the class's -/
theorem LW.at38 {g : aH} {v : Int32} (V : LW g) (e : hI g 0 13 = v) (sv : sm 12 v) : LV (stI g 63 38 v) := by
  have mo := mo_I g 38 v
  have q := q38 g v
  have w : CLW (stI g 63 38 v) (stI g 63 38 v) := q.clw (CLW.fms V.1.2.2.2.2.2.2 mo.fm mo.fms rfl rfl rfl rfl V.2.1)
  refine ⟨⟨mo.sh V.1.1, q.ri V.1.2⟩, ⟨w.1, w.2.1, w.2.2.1, w.2.2.2, ?_, ?_⟩, V.2.2⟩
  · show hI g 0 13 = v
    exact e
  · show sm 12 v
    exact sv
/-- other choices of one series, on both sides -/
theorem LV.cho {h : aH} {s o : Nat} (V : LV h) (hs : (s : Int) < (hI h 63 14).toInt) (hl : SeAt h s o) (f p : Nat → Int32) (hp : ∀ j, (j < 104 * s ∨ 104 * s + 104 ≤ j) → p j = hA h 80 j) (hc : ∀ w, w < 52 → ChOf (hA h 76 s) (f w) (p (104 * s + 2 * w)) (p (104 * s + 2 * w + 1))) (hr : ∀ w, w < 52 → RPl (stAA h 80 p) s w) : LV (stAA (stAA h (o + 3) f) 80 p) := by
  obtain ⟨b1, b2, b3, b4, b5⟩ := hl.1
  have ho := hl.o
  have hb : SeB (stAA h (o + 3) f) (stAA h 80 p) s o := by
    refine ⟨b1, fun i hi => ?_, fun r hr => ?_, fun w hw => ?_, b5⟩
    · rw [hA_AAn _ _ (by omega)]; exact b2 i hi
    · rw [hA_AAn _ _ (by omega)]; exact b3 r hr
    · rw [hA_AA, hA_AA]; exact hc w hw
  obtain ⟨re, cl, hn⟩ := CL.ser V hs hl (h' := stAA h (o + 3) f) (g := stAA h 80 p) (fun _ _ => rfl) rfl (fun q _ _ h3 => up1_ne h3) rfl rfl rfl rfl (fun a h1 h2 => up1_ne (by omega)) (fun t ht hts => ⟨rfl, rfl, rfl, rfl, fun _ _ => rfl, fun _ _ => rfl, fun w hw => by rw [hA_AA]; exact hp _ (by omega)⟩) hb
  obtain ⟨r1, r2, r3, r4, r5, r6, r7, r8, r9⟩ := V.1.2
  have ri : RI (stAA h 80 p) := by
    refine ⟨r1, r2, r3, r4, r5, r6, r7, r8, fun t w ht hw => ?_⟩
    by_cases c : t = s
    · subst c; exact hr w hw
    · have q := r9 t w ht hw
      unfold RPl at q ⊢
      rw [hA_AA, hp _ (by omega), hp _ (by omega)]
      exact q
  have mo : MO (stAA h (o + 3) f) (stAA (stAA h (o + 3) f) 80 p) := mo_AA _ _ (by decide)
  have S1 : SH (stAA h (o + 3) f) := V.1.1
  refine LV.done S1 cl ri hn ⟨⟨rfl, rfl, rfl, rfl, rfl⟩, fun a h1 h2 => ?_⟩ mo
  by_cases c : a = 80
  · subst c; rw [hA_AA, hA_AA]
  · rw [hA_AAn _ _ c, hA_AAn _ _ c, hA_AAn _ _ (by omega)]
theorem ChOf.of {ch : Int32} {c : Nat} (h15 : c < 15) (h6 : ch = -1 → c < 6) : ChOf ch (nI c) (fO ch (nI c)) (sO ch (nI c)) := by
  by_cases e : ch = -1
  · refine Or.inr (Or.inl ⟨e, ?_, ?_, c, h6 e, ?_⟩)
    · unfold fO; rw [if_pos e]
    · unfold sO; rw [if_pos e]
    · unfold fO; rw [if_pos e]
  · refine Or.inr (Or.inr ⟨e, c, h15, rfl, ?_, ?_⟩)
    · unfold fO; rw [if_neg e, nI_clamp (by omega)]
    · unfold sO; rw [if_neg e, nI_clamp (by omega)]
theorem RPl.of {g : aH} (S : RI g) {s w : Nat} {i j : Int32} (hs : (s : Int) < (hI g 63 14).toInt) (ok : okP g s i j) (sd : sdO g w s i j) {p : Nat → Int32} (ei : p (2 * (52 * s + w)) = i) (ej : p (2 * (52 * s + w) + 1) = j) : RPl (stAA g 80 p) s w := by
  have h6 := op6 S hs
  obtain ⟨i', e1, h1, h2⟩ := ok
  obtain ⟨d1, d2⟩ := sd
  unfold RPl
  rw [hA_AA, ei, ej]
  have x1 : stO g w s i' + lnO g s ≤ 17472 := by rw [e1, nI_clamp (by omega)] at d1; exact d1
  refine Or.inr ⟨hs, i', e1, h1, x1, ?_⟩
  rcases h2 with ⟨q1, q2⟩ | ⟨q1, j', q2, q3, q4⟩
  · exact Or.inl ⟨q1, q2⟩
  · have nj : ¬ j = -1 := by rw [q4]; exact nI_m1 (by omega)
    have x2 : stO g w s j' + lnO g s ≤ 17472 := by
      have := (d2 nj).1
      rw [q4, nI_clamp (by omega)] at this
      exact this
    exact Or.inr ⟨q1, j', q2, q3, q4, x2⟩
/-- a choice in the list -/
theorem clO_in {g : aH} (S : RI g) {s c : Nat} (hs : (s : Int) < (hI g 63 14).toInt) (hc : c ∈ clO g s) : c < 15 ∧ (hA g 76 s = -1 → c < 6) ∧ okP g s (fO (hA g 76 s) (nI c)) (sO (hA g 76 s) (nI c)) := by
  have h6 := op6 S hs
  obtain ⟨h1, h2⟩ := List.mem_filter.mp hc
  have h15 := List.mem_range.mp h1
  refine ⟨h15, fun e => ?_, ((clsP_iff S hs h15).mp h2).2⟩
  unfold clsP at h2
  rw [if_pos e] at h2
  have := of_decide_eq_true h2
  have ec := i32_clamp h6.1
  omega
section
variable {np m : Nat} {D : Nat → Nat → Prop} {SU : (Nat → Nat) → Nat → Int} {L : List Nat}
theorem fl_mem {α : Type} {f : α → Nat → α} {P : α → Prop} : ∀ (L : List Nat) (b : α), P b → (∀ b c, c ∈ L → P b → P (f b c)) → P (L.foldl f b)
  | [], _, h, _ => h
  | c :: L, b, h, k => by rw [List.foldl_cons]; exact fl_mem L (f b c) (k b c List.mem_cons_self h) (fun b c' hc => k b c' (List.mem_cons_of_mem _ hc))
theorem foB_mem : ∀ (j k : Nat) (v : Nat → Nat) (B : Option (Nat → Nat)), k + j = m → (∀ x, x < k → v x ∈ L) → (∀ u, B = some u → ∀ x, x < m → u x ∈ L) → ∀ u, foB np m D SU L j k v B = some u → ∀ x, x < m → u x ∈ L
  | 0, k, v, B, hk, hv, hB => by
    intro u hu
    unfold foB lfB at hu
    split at hu
    · obtain ⟨u', e, q⟩ := updB_some (np := np) (SU := SU) v B
      rw [e] at hu
      have : u' = u := Option.some.inj hu
      subst this
      rcases q with rfl | q
      · exact fun x hx => hv x (by omega)
      · exact hB u' q
    · exact hB u hu
  | j + 1, k, v, B, hk, hv, hB => by
    unfold foB
    exact fl_mem (P := fun B => ∀ u, B = some u → ∀ x, x < m → u x ∈ L) L B hB (fun b c hc hb => foB_mem j (k + 1) (upN v k c) b (by omega) (fun x hx => by
      unfold upN
      split
      · exact hc
      · exact hv x (by omega)) hb)
end
