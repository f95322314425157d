/-! ===== the class: changes of its scratch alone ===== -/
/-- a change within some arrays and the numbers of some objects -/
def Ch (A O : Nat → Prop) (h h' : aH) : Prop := hR h' = hR h ∧ hQ h' = hQ h ∧ hT h' = hT h ∧ hN h' = hN h ∧ (∀ q, ¬ O q → hI h' q = hI h q) ∧ (∀ a, ¬ A a → hA h' a = hA h a)
theorem Ch.rf {A O : Nat → Prop} (h : aH) : Ch A O h h := ⟨rfl, rfl, rfl, rfl, fun _ _ => rfl, fun _ _ => rfl⟩
theorem Ch.tr {A O : Nat → Prop} {a b c : aH} (h1 : Ch A O a b) (h2 : Ch A O b c) : Ch A O a c := ⟨h2.1.trans h1.1, h2.2.1.trans h1.2.1, h2.2.2.1.trans h1.2.2.1, h2.2.2.2.1.trans h1.2.2.2.1, fun q hq => (h2.2.2.2.2.1 q hq).trans (h1.2.2.2.2.1 q hq), fun q hq => (h2.2.2.2.2.2 q hq).trans (h1.2.2.2.2.2 q hq)⟩
theorem Ch.mono {A O A' O' : Nat → Prop} {h h' : aH} (c : Ch A O h h') (hA' : ∀ a, A a → A' a) (hO' : ∀ a, O a → O' a) : Ch A' O' h h' := ⟨c.1, c.2.1, c.2.2.1, c.2.2.2.1, fun q hq => c.2.2.2.2.1 q (fun z => hq (hO' q z)), fun q hq => c.2.2.2.2.2 q (fun z => hq (hA' q z))⟩
theorem ch_I {A O : Nat → Prop} (h : aH) {o : Nat} (k : Nat) (v : Int32) (ho : O o) : Ch A O h (stI h o k v) := ⟨rfl, rfl, rfl, rfl, fun _ hq => up2_ne (fun z => hq (z ▸ ho)), fun _ _ => rfl⟩
theorem ch_A {A O : Nat → Prop} (h : aH) {a : Nat} (k : Nat) (v : Int32) (ha : A a) : Ch A O h (stA h a k v) := ⟨rfl, rfl, rfl, rfl, fun _ _ => rfl, fun _ hq => up2_ne (fun z => hq (z ▸ ha))⟩
theorem ch_AA {A O : Nat → Prop} (h : aH) {a : Nat} (f : Nat → Int32) (ha : A a) : Ch A O h (stAA h a f) := ⟨rfl, rfl, rfl, rfl, fun _ _ => rfl, fun _ hq => up1_ne (fun z => hq (z ▸ ha))⟩
theorem Ch.sh {A O : Nat → Prop} {h h' : aH} (c : Ch A O h h') (S : SH h) : SH h' := by
  unfold SH at S ⊢
  rw [c.1, c.2.1]
  exact S
theorem hA_st (h : aH) (a k : Nat) (v : Int32) (b j : Nat) : hA (stA h a k v) b j = if b = a ∧ j = k then v else hA h b j := rfl
theorem hI_st (h : aH) (o k : Nat) (v : Int32) (b j : Nat) : hI (stI h o k v) b j = if b = o ∧ j = k then v else hI h b j := rfl
theorem hA_sI (h : aH) (o k : Nat) (v : Int32) : hA (stI h o k v) = hA h := rfl
theorem hI_sA (h : aH) (o k : Nat) (v : Int32) : hI (stA h o k v) = hI h := rfl
/-- the class's scratch alone has changed -/
def KS (g h : aH) : Prop := hR h = hR g ∧ (∀ a, a ≠ 48 → a ≠ 49 → hQ h a = hQ g a) ∧ hT h = hT g ∧ hN h = hN g ∧ (∀ q, (q = 0 ∨ 62 < q) → hI h q = hI g q) ∧ (∀ a, 62 < a → hA h a = hA g a)
theorem KS.rf (g : aH) : KS g g := ⟨rfl, fun _ _ _ => rfl, rfl, rfl, fun _ _ => rfl, fun _ _ => rfl⟩
theorem KS.tr {a b c : aH} (h1 : KS a b) (h2 : KS b c) : KS a c := ⟨h2.1.trans h1.1, fun q u v => (h2.2.1 q u v).trans (h1.2.1 q u v), h2.2.2.1.trans h1.2.2.1, h2.2.2.2.1.trans h1.2.2.2.1, fun q hq => (h2.2.2.2.2.1 q hq).trans (h1.2.2.2.2.1 q hq), fun q hq => (h2.2.2.2.2.2 q hq).trans (h1.2.2.2.2.2 q hq)⟩
theorem Ch.ks {A O : Nat → Prop} {h h' : aH} (c : Ch A O h h') (hA' : ∀ a, A a → 1 ≤ a ∧ a ≤ 62) (hO' : ∀ a, O a → 1 ≤ a ∧ a ≤ 62) : KS h h' := ⟨c.1, fun _ _ _ => by rw [c.2.1], c.2.2.1, c.2.2.2.1, fun q hq => c.2.2.2.2.1 q (fun z => by have := hO' q z; omega), fun q hq => c.2.2.2.2.2 q (fun z => by have := hA' q z; omega)⟩
theorem KS.re {g h : aH} (k : KS g h) : RE g h := ⟨k.2.2.2.2.1 63 (by omega), fun a h1 _ => k.2.2.2.2.2 a (by omega)⟩
/-- what holds between two calls, but for the stuck ones -/
def CLW (h g : aH) : Prop := SK2 h g ∧ CLs2 h g ∧ CLd h g ∧ CLe h g
def LW (h : aH) : Prop := SR h ∧ CLW h h ∧ 99 ≤ hN h
theorem LV.w {h : aH} (V : LV h) : LW h := ⟨V.1, ⟨V.2.1.1, V.2.1.2.1, V.2.1.2.2.1, V.2.1.2.2.2.1⟩, V.2.2⟩
theorem LW.sk {h : aH} (V : LW h) : SK h := ⟨V.1, V.2.1.1⟩
theorem REp.clw {h g g' : aH} (e : REp g g') (c : CLW h g) : CLW h g' := by
  obtain ⟨⟨i1, i3, i8, i14, -⟩, e⟩ := e
  have e64 := e 64 (by decide) (by decide); have e65 := e 65 (by decide) (by decide); have e66 := e 66 (by decide) (by decide); have e67 := e 67 (by decide) (by decide); have e68 := e 68 (by decide) (by decide)
  have e69 := e 69 (by decide) (by decide); have e70 := e 70 (by decide) (by decide); have e71 := e 71 (by decide) (by decide); have e72 := e 72 (by decide) (by decide); have e73 := e 73 (by decide) (by decide)
  have e74 := e 74 (by decide) (by decide); have e75 := e 75 (by decide) (by decide); have e76 := e 76 (by decide) (by decide); have e77 := e 77 (by decide) (by decide); have e78 := e 78 (by decide) (by decide); have e79 := e 79 (by decide) (by decide); have e80 := e 80 (by decide) (by decide)
  unfold CLW SK2 CLn2 CLl2 CLp2 CLs2 SeAt2 SeB SeF SeSl SeRo SeCh CLd CLe LdAt2 PeAt2 cCh2 cFe2 cBu2 cCa2 nF at c ⊢
  rw [i1, i3, i8, i14, e64, e65, e66, e67, e68, e69, e70, e71, e72, e73, e74, e75, e76, e77, e78, e79, e80]
  exact c
theorem CLW.fms {h h' g : aH} (S : RIs g) (fm : FM h h') (fms : FMs h h') (q1 : hQ h' 1 = hQ h 1) (q2 : hQ h' 2 = hQ h 2) (q3 : hQ h' 3 = hQ h 3) (r : hR h' = hR h) (c : CLW h g) : CLW h' g := by
  obtain ⟨c1, c2, c3, c4⟩ := c
  refine ⟨c1.fm fm, c2.mv S fms (fun s _ => sameS.rf g s) (sameF.rf g) rfl, ?_, ?_⟩
  · unfold CLd at c3 ⊢
    rw [q1, q2, r]
    exact c3
  · unfold CLe at c4 ⊢
    rw [q3]
    exact c4
theorem KS.lv {g h : aH} (k : KS g h) (V : LW g) : LW h := by
  obtain ⟨⟨S, ri⟩, c, hn⟩ := V
  have e := k.re
  obtain ⟨k1, k2, k3, k4, k5, k6⟩ := k
  have ex : exH g h := ⟨by rw [k4]; exact Nat.le_refl _, fun i _ => by rw [k3]⟩
  have fm : FM g h := ⟨ex, fun q h1 _ => ⟨k5 q (by omega), by rw [k1], k6 q (by omega)⟩, k2 1 (by decide) (by decide), k2 2 (by decide) (by decide), k5 0 (Or.inl rfl)⟩
  have fms : FMs g h := ⟨ex, fun q h1 _ _ => ⟨k5 q (by omega), by rw [k1]⟩, fun q h1 _ _ => k6 q (by omega), k2 3 (by decide) (by decide)⟩
  refine ⟨⟨?_, e.p.ri ri⟩, e.p.clw (c.fms ri.2.2.2.2.2 fm fms (k2 1 (by decide) (by decide)) (k2 2 (by decide) (by decide)) (k2 3 (by decide) (by decide)) k1), by rw [k4]; exact hn⟩
  unfold SH at S ⊢
  rw [k1, k2 4 (by decide) (by decide), k2 50 (by decide) (by decide)]
  exact S
/-- and for the stuck ones -/
theorem KS.full {g h : aH} (k : KS g h) (V : LV g) : LV h := by
  have w := k.lv V.w
  refine ⟨w.1, ⟨w.2.1.1, w.2.1.2.1, w.2.1.2.2.1, w.2.1.2.2.2, ?_⟩, w.2.2⟩
  unfold CLk
  rw [k.2.2.2.2.1 0 (Or.inl rfl), k.re.1]
  exact V.2.1.2.2.2.2
theorem KS.se {g h : aH} (k : KS g h) (V : LW g) {s o : Nat} (hs : (s : Int) < (hI g 63 14).toInt) (hl : SeAt g s o) : SeAt h s o := by
  have hl2 := (k.lv V).2.1.2.1 s (by rw [k.re.1]; exact hs)
  obtain ⟨o2, ho2⟩ := hl2
  have : o2 = o := by
    have q1 := ho2.1.1.1
    rw [k.2.1 3 (by decide) (by decide), hl.1.1.1] at q1
    have := Option.some.inj q1
    exact (Prod.mk.inj (Prod.mk.inj this).2).2.symm
  rw [this] at ho2
  exact ho2
theorem SeAt.o {g : aH} {s o : Nat} (hl : SeAt g s o) : 99 ≤ o := hl.1.2.2.2.2.1.1
theorem cantO_c {g h : aH} (e : REp g h) (w n s p : Nat) : cantO h w n s p = cantO g w n s p := by
  unfold cantO
  rw [e.2 69 (by decide) (by decide), e.2 70 (by decide) (by decide), e.2 71 (by decide) (by decide), e.2 72 (by decide) (by decide)]
theorem w_kcant {l : Launch} {E : eE} {d bc bs : Nat} {h : aH} {K : Int32 → aH → Prop} {o s p w : Nat} {n : Nat} (S : SH h) (hn : n < 2 ^ 31) (k1 : cantO h w n s p → K (nI 1) h) (k0 : ¬ cantO h w n s p → K (nI 0) h) : ∀ (m : Nat) (r : aR), m < 2 ^ 31 → chn h (fun k => hA h 69 k = nI 3 ∧ hA h 71 k = nI s) (hA h 70) (hA h 72) (hA h 73) m r → (∀ j, m ≤ j → j < n → ¬ (hA h 69 j = nI 3 ∧ hA h 70 j = nI p ∧ hA h 71 j = nI s ∧ hA h 72 j = nI w)) → LX9_hasCant_6 l E d bc bs o (nI p) (nI w) (nI n) r h K := by
  intro m
  induction m with
  | zero =>
    intro r _ hc hno
    have hc : r = none := hc
    subst hc
    exact bX9_hasCant_6 S ⟨fun _ => k0 (fun ⟨j, hj, q⟩ => hno j (Nat.zero_le j) hj q), fun q e => by cases e⟩
  | succ m ih =>
    intro r hm hc hno
    rcases hc with ⟨hP, q, rfl, f0, f1, f2, f3, hc, -⟩ | ⟨hP, hc⟩
    · refine bX9_hasCant_6 S ⟨fun e => (by cases e), fun _ _ => ⟨q, rfl, ?_⟩⟩
      rw [f0, f1, f2]
      have st : (m < n → ¬ (hA h 70 m = nI p ∧ hA h 72 m = nI w)) → LX9_hasCant_6 l E d bc bs o (nI p) (nI w) (nI n) (hR h q 4) h K := fun z => ih _ (by omega) hc (fun j h1 h2 => by
        rcases Nat.lt_or_ge m j with g | g
        · exact hno j g h2
        · have e : j = m := by omega
          subst e
          exact fun y => z h2 ⟨y.2.1, y.2.2.2⟩)
      refine ⟨fun c => st (fun z => absurd ((nI_leI hn (by omega)).mp c) (by omega)), fun c => ⟨fun c1 => st (fun _ y => c1 y.1), fun c1 => ⟨fun c2 => st (fun _ y => c2 y.2), fun c2 => ?_⟩⟩⟩
      have hmn : ¬ n ≤ m := fun z => c ((nI_leI hn (by omega)).mpr z)
      exact k1 ⟨m, by omega, hP.1, c1, hP.2, c2⟩
    · refine ih r (by omega) hc (fun j h1 h2 => ?_)
      rcases Nat.lt_or_ge m j with g | g
      · exact hno j g h2
      · rw [show j = m by omega]; exact fun z => hP ⟨z.1, z.2.2.1⟩
theorem k_hasCant {l : Launch} {E : eE} {d bc bs : Nat} {h : aH} {K : Int32 → aH → Prop} {o s p w n : Nat} (R : SR h) (hl : SeAt h s o) (hn : (n : Int) ≤ (hI h 63 8).toInt) (k1 : cantO h w n s p → K (nI 1) h) (k0 : ¬ cantO h w n s p → K (nI 0) h) : CI l E d bc bs mX9_hasCant [.inr (some (0, 9, o)), .inl (nI p), .inl (nI w), .inl (nI n)] h K := by
  have hN := R.2.1
  unfold RIn at hN
  have hm := nF_eq R
  exact bX9_hasCant_0 R.1 (w_kcant R.1 (by omega) k1 k0 (nF h) _ (by omega) hl.2 (fun j h1 h2 => by omega))
/-! ===== Sheet.fill ===== -/
/-- what a sheet says of option i -/
def ShF (g : aH) (w n s : Nat) (W : Nat → Prop) (i : Nat) (f1 f2 f3 : Nat → Int32) : Prop := f1 i = (if inO g w s i then rAt g s i w else -1) ∧ sm 12 (f2 i) ∧ (∀ p, p < 12 → (bt (f2 i) p = true ↔ (W p ∧ ablO g w n s p i))) ∧ (∀ p, p < 12 → bt (f2 i) p = true → f3 (12 * i + p) = prO g w n s p i)
abbrev ShO (g h : aH) (w n s sh : Nat) (W : Nat → Prop) (i : Nat) : Prop := ShF g w n s W i (hA h (sh + 1)) (hA h (sh + 2)) (hA h (sh + 3))
abbrev shA (sh : Nat) : Nat → Prop := fun a => a = sh + 1 ∨ a = sh + 2 ∨ a = sh + 3
abbrev noO : Nat → Prop := fun _ => False
theorem isSh.rng {sh : Nat} (q : isSh sh) : 5 ≤ sh ∧ sh ≤ 17 := by rcases q with rfl | rfl | rfl | rfl <;> decide
theorem shA.ks {sh : Nat} {h h' : aH} (q : isSh sh) (c : Ch (shA sh) noO h h') : KS h h' := c.ks (fun a ha => by have := q.rng; rcases ha with rfl | rfl | rfl <;> omega) (fun _ z => z.elim)
theorem w_fill79 {l : Launch} {E : eE} {d bc bs : Nat} {K : aH → Prop} {g h0 : aH} {o s w n sh i : Nat} {x2 who : Int32} (V : LW g) (ks0 : KS g h0) (hsh : isSh sh) (hs : (s : Int) < (hI g 63 14).toInt) (hl : SeAt g s o) (hw : w < 52) (hn : (n : Int) ≤ (hI g 63 8).toInt) (hwho : ∀ p, bt who p = true → (p : Int) < (hI g 63 3).toInt) (hd : 4 ≤ d) (hi : (i : Int) < (hA g 77 s).toInt) (hin : inO g w s i)
    (k : ∀ h1, Ch (shA sh) noO h0 h1 → (∀ i', i' < i → bt x2 i' = true → ShO g h1 w n s sh (fun p => bt who p = true) i') → ShO g h1 w n s sh (fun p => bt who p = true) i → LX10_fill_3 l E (d + 1) bc bs sh o x2 (nI w) (nI n) who 2 (nI (i + 1)) h1 K) :
    ∀ (j p : Nat) (h1 : aH), p + j = 12 → Ch (shA sh) noO h0 h1 → (∀ i', i' < i → bt x2 i' = true → ShO g h1 w n s sh (fun p => bt who p = true) i') → hA h1 (sh + 1) i = rAt g s i w → sm 12 (hA h1 (sh + 2) i) → (∀ q, q < 12 → (bt (hA h1 (sh + 2) i) q = true ↔ (q < p ∧ bt who q = true ∧ ablO g w n s q i))) → (∀ q, q < 12 → bt (hA h1 (sh + 2) i) q = true → hA h1 (sh + 3) (12 * i + q) = prO g w n s q i) → LX10_fill_79 l E (d + 1) bc bs sh o x2 (nI w) (nI n) who 2 (nI i) (rAt g s i w) (nI 1) (nI p) h1 K := by
  have hN := V.1.2.1
  unfold RIn at hN
  have h6 := op6 V.1.2 hs
  have hst := stO_int (w := w) V.1.2 hs hi hw
  have hln : 1 ≤ (hA g 74 s).toInt ∧ (hA g 74 s).toInt ≤ 6 := (V.1.2.2.2.2.2.2.1 s hs).1
  have hin2 := hin
  unfold inO lnO at hin2
  have ho := hl.o
  intro j
  induction j with
  | zero =>
    intro p h1 hp c hb e1 e2 e3 e4
    have hp : p = 12 := by omega
    subst hp
    have S1 := c.sh (ks0.lv V).1.1
    refine bX10_fill_79 S1 hsh ⟨fun _ => ?_, fun z => absurd (nI_le (Nat.le_refl 12) (by omega)) z⟩
    rw [nI_add]
    refine k h1 c hb ⟨by rw [if_pos hin]; exact e1, e2, fun q hq => ?_, e4⟩
    rw [e3 q hq]
    exact ⟨fun z => z.2, fun z => ⟨hq, z⟩⟩
  | succ j ih =>
    intro p h1 hp c hb e1 e2 e3 e4
    have ks1 : KS g h1 := ks0.tr (shA.ks hsh c)
    have V1 := ks1.lv V
    have S1 := V1.1.1
    have re := ks1.re
    have f1 : hI h1 o 1 = hA g 74 s := by rw [ks1.2.2.2.2.1 o (by omega)]; exact hl.1.1.2.2.1
    have skip : ¬ (bt who p = true ∧ ablO g w n s p i) → LX10_fill_79 l E (d + 1) bc bs sh o x2 (nI w) (nI n) who 2 (nI i) (rAt g s i w) (nI 1) (nI p + nI 1) h1 K := fun z => by
      rw [nI_add]
      refine ih (p + 1) h1 (by omega) c hb e1 e2 (fun q hq => ?_) e4
      rw [e3 q hq]
      refine ⟨fun y => ⟨by omega, y.2⟩, fun y => ⟨?_, y.2⟩⟩
      by_cases e : q = p
      · subst e; exact absurd y.2 z
      · omega
    refine bX10_fill_79 S1 hsh ⟨fun z => absurd z (nI_ge (by omega) (by omega)), fun _ => ⟨fun z => absurd z (by decide), fun _ => ⟨vp_in_nI (by omega) (by omega), ?_⟩⟩⟩
    rw [nI_clamp (n := p) (by omega), nI_clamp (n := i) (by omega)]
    refine ⟨fun z => skip (fun y => ?_), fun q4 z => k_isIn S1 (by omega) ?_⟩
    · obtain ⟨po, pa, hpe⟩ := V1.2.1.1.2.2 p (by rw [re.1]; exact hwho p y.1)
      rw [hpe.1] at z
      cases z
    · cases eb : bt who p with
      | false => exact ⟨S1, fun _ => skip (fun y => by rw [eb] at y; cases y.1), fun y => absurd rfl y⟩
      | true =>
        have hpp : (p : Int) < (hI g 63 3).toInt := hwho p eb
        obtain ⟨po, pa, hpe⟩ := V1.2.1.1.2.2 p (by rw [re.1]; exact hpp)
        have nnn : 0 ≤ (nI n).toInt ∧ (nI n).toInt ≤ (hI h1 63 8).toInt := by rw [nI_toInt (by omega), re.1]; omega
        have cn : (nI n).toNatClampNeg = n := nI_clamp (by omega)
        refine ⟨S1, fun y => absurd y (by decide), fun _ => k_hasCant V1.1 (ks1.se V hs hl) (by rw [re.1]; exact hn) (fun y => ⟨S1, fun _ => skip (fun u => u.2.2.2 (by rw [← cantO_c re.p]; exact y)), fun u => absurd u (by decide)⟩) (fun y => ⟨S1, fun u => absurd rfl u, fun _ => ⟨po, hpe.1, ?_⟩⟩)⟩
        rw [cantO_c re.p] at y
        refine k_hind V1.sk (by omega) hpe (by rw [re.1]; exact hpp) (by rw [f1]; omega) nnn ⟨S1, ?_⟩
        rw [cn, f1, rReasons_c re.p]
        refine ⟨fun u => skip (fun t => u t.2.2.1), fun u => ⟨vp_in_nI (by omega) (by omega), ?_⟩⟩
        have ab : ablO g w n s p i := ⟨hin, u, y⟩
        have c2 : Ch (shA sh) noO h1 (stA h1 (sh + 2) i (hA h1 (sh + 2) i ||| (nI 1 <<< (nI p &&& 31)))) := ch_A h1 i _ (Or.inr (Or.inl rfl))
        have ks2 := ks1.tr (shA.ks hsh c2)
        have V2 := ks2.lv V
        obtain ⟨po2, pa2, hpe2⟩ := V2.2.1.1.2.2 p (by rw [ks2.re.1]; exact hpp)
        have epo : po2 = po := by
          have q1 := hpe2.1
          have q2 := hpe.1
          rw [show hQ (stA h1 (sh + 2) i (hA h1 (sh + 2) i ||| (nI 1 <<< (nI p &&& 31)))) 2 p = hQ h1 2 p from rfl, q2] at q1
          exact (Prod.mk.inj (Prod.mk.inj (Option.some.inj q1)).2).2.symm
        subst epo
        refine k_price V2.sk (by omega) hpe2 (by rw [ks2.re.1]; exact hpp) (by omega) (by rw [nI_toInt (by omega), ks2.re.1]; omega) ⟨V2.1.1, by rw [nI_mul, nI_add]; exact vp_in_nI (by omega) (by omega), ?_⟩
        rw [cn, rCosts_c ks2.re.p, ix2 (by omega), nI_add]
        generalize hx : hA h1 (sh + 2) i ||| (nI 1 <<< (nI p &&& 31)) = x at *
        have bx : ∀ q, q < 12 → (bt x q = true ↔ (bt (hA h1 (sh + 2) i) q = true ∨ q = p)) := fun q hq => by
          rw [← hx, bt_or, Bool.or_eq_true, bt_pow (by omega) (by omega), decide_eq_true_iff]
        refine ih (p + 1) _ (by omega) ((c.tr c2).tr (ch_A _ _ _ (Or.inr (Or.inr rfl)))) (fun i' h1' h2' => ?_) ?_ ?_ (fun q hq => ?_) (fun q hq hb2 => ?_)
        · obtain ⟨u1, u2, u3, u4⟩ := hb i' h1' h2'
          unfold ShO ShF
          simp only [hA_st]
          refine ⟨by simpa using u1, ?_, fun q hq => ?_, fun q hq => ?_⟩
          · simp [show ¬ i' = i by omega]; exact u2
          · simp [show ¬ i' = i by omega]; exact u3 q hq
          · simp [show ¬ i' = i by omega, show ¬ 12 * i' + q = i * 12 + p by omega]; exact u4 q hq
        · simp only [hA_st]; simpa using e1
        · simp only [hA_st]; simp; rw [← hx]; exact sm_or e2 (sm_pow (by omega) (by decide))
        · simp only [hA_st]; simp; rw [bx q hq, e3 q hq]
          constructor
          · rintro (t | rfl)
            · exact ⟨by omega, t.2⟩
            · exact ⟨by omega, eb, ab⟩
          · rintro ⟨t1, t2⟩
            by_cases e : q = p
            · exact Or.inr e
            · exact Or.inl ⟨by omega, t2⟩
        · simp only [hA_st] at hb2 ⊢
          simp at hb2 ⊢
          rw [bx q hq] at hb2
          by_cases e : q = p
          · subst e; rw [if_pos (by omega)]
          · rw [if_neg (by omega)]; exact e4 q hq (hb2.resolve_right e)
