/-! ===== the class: Planner.begin, leastAt, findBest, rate ===== -/
theorem k_begin {l : Launch} {E : eE} {d bc bs : Nat} {h : aH} {K : aH → Prop} {m np : Nat} (S : SH h) (hm : m ≤ 6) (hn : np ≤ 12) (hd : 2 ≤ d) (k : ∀ h1, Ch (isA 37) (fun q => q = 27 ∨ q = 28) h h1 → hI h1 27 9 = nI m → hI h1 27 10 = nI np → EvR h1 28 np none → (∀ p, p < 12 → hA h1 37 p = nI 0) → K h1) : CV l E d bc bs mX7_begin [.inr (some (0, 7, 27)), .inl (nI m), .inl (nI np)] h K := by
  obtain ⟨d, rfl⟩ : ∃ d', d = d' + 1 := ⟨d - 1, by omega⟩
  obtain ⟨d, rfl⟩ : ∃ d', d = d' + 1 := ⟨d - 1, by omega⟩
  have c1 : Ch (isA 37) (fun q => q = 27 ∨ q = 28) h (stI h 27 9 (nI m)) := ch_I h 9 _ (Or.inl rfl)
  have c2 := c1.tr (ch_I (A := isA 37) (O := fun q => q = 27 ∨ q = 28) (stI h 27 9 (nI m)) (o := 27) 10 (nI np) (Or.inl rfl))
  have c3 := (c2.tr (ch_I (A := isA 37) (O := fun q => q = 27 ∨ q = 28) _ (o := 28) 2 (nI np) (Or.inr rfl))).tr (ch_I (A := isA 37) (O := fun q => q = 27 ∨ q = 28) _ (o := 28) 3 (nI 0) (Or.inr rfl))
  refine bX7_begin_0 S (c_min S ⟨S, ?_⟩)
  rw [if_neg (nI_nlt hm (by omega))]
  refine c_min (c1.sh S) ⟨c1.sh S, ?_⟩
  rw [if_neg (nI_nlt hn (by omega))]
  refine bX2_begin_0 (c2.sh S) (Or.inl rfl) (c_min (c2.sh S) ⟨c2.sh S, ?_⟩)
  rw [if_neg (nI_nlt hn (by omega))]
  refine ⟨c3.sh S, c_fillI (c3.sh S) (by decide) ⟨(c3.tr (ch_AA _ _ rfl)).sh S, k _ (c3.tr (ch_AA _ _ rfl)) ?_ ?_ ⟨hn, ?_, fun _ => ?_, fun b hb => (by cases hb)⟩ (fun p hp => ?_)⟩⟩
  · show hI (stI (stI (stI (stI h 27 9 (nI m)) 27 10 (nI np)) 28 2 (nI np)) 28 3 (nI 0)) 27 9 = nI m
    simp [hI_st]
  · show hI (stI (stI (stI (stI h 27 9 (nI m)) 27 10 (nI np)) 28 2 (nI np)) 28 3 (nI 0)) 27 10 = nI np
    simp [hI_st]
  · show hI (stI (stI (stI (stI h 27 9 (nI m)) 27 10 (nI np)) 28 2 (nI np)) 28 3 (nI 0)) 28 2 = nI np
    simp [hI_st]
  · show hI (stI (stI (stI (stI h 27 9 (nI m)) 27 10 (nI np)) 28 2 (nI np)) 28 3 (nI 0)) 28 3 = nI 0
    simp [hI_st]
  · rw [hA_AA]
    unfold fil
    rw [if_pos ⟨Nat.zero_le p, hp⟩]
theorem k_leastAt {l : Launch} {E : eE} {d bc bs : Nat} {h : aH} {K : Int32 → aH → Prop} {g : aH} {s a n np k p m : Nat} (ri : RI g) (S : SH h) (hs : (s : Int) < (hI g 63 14).toInt) (hnp : (np : Int) = (hI g 63 3).toInt) (hk : k < m) (hm : m ≤ 6) (hp : p < np) (pr : PlR g h s a n np m) (hd : 1 ≤ d) (kk : ∀ v : Int32, -1 ≤ v.toInt → v.toInt ≤ 1200 → (∀ c, c < 15 → plD g s a n k c → v.toInt ≤ (plP g s a n k c p).toInt) → K v h) : CI l E d bc bs mX7_leastAt [.inr (some (0, 7, 27)), .inl (nI k), .inl (nI p)] h K := by
  obtain ⟨d, rfl⟩ : ∃ d', d = d' + 1 := ⟨d - 1, by omega⟩
  have hN := ri.1
  unfold RIn at hN
  obtain ⟨pb, pc⟩ := pr k hk
  have lp : ∀ (b c : Nat) (x : Int32), c + b = 15 → ((x = -1 ∧ ∀ c', c' < c → ¬ plD g s a n k c') ∨ (0 ≤ x.toInt ∧ x.toInt ≤ 1200 ∧ ∀ c', c' < c → plD g s a n k c' → x.toInt ≤ (plP g s a n k c' p).toInt)) → LX7_leastAt_5 l E (d + 1) bc bs (nI k) (nI p) x (nI c) h K := by
    intro b
    induction b with
    | zero =>
      intro c x hc hx
      have hc : c = 15 := by omega
      subst hc
      refine bX7_leastAt_5 S ⟨fun _ => ?_, fun z => absurd (nI_le (Nat.le_refl 15) (by omega)) z⟩
      rcases hx with ⟨rfl, hx⟩ | ⟨x0, x1, hx⟩
      · exact kk _ (by decide) (by decide) (fun c hc hD => absurd hD (hx c hc))
      · exact kk _ (by omega) x1 hx
    | succ b ih =>
      intro c x hc hx
      obtain ⟨pc1, pc2⟩ := pc c (by omega)
      refine bX7_leastAt_5 S ⟨fun z => absurd z (nI_ge (by omega) (by omega)), fun _ => ⟨vp_in_nI (by omega) (by omega), k_isIn S (by omega) ?_⟩⟩
      rw [nI_clamp (n := k) (by omega)]
      cases eb : bt (hA h 34 k) c with
      | false =>
        have nD : ¬ plD g s a n k c := fun z => by rw [pc1.mpr z] at eb; cases eb
        refine ⟨S, fun _ => ?_, fun z => absurd rfl z⟩
        rw [nI_add]
        refine ih (c + 1) x (by omega) (hx.imp (fun q => ⟨q.1, lt_s q.2 nD⟩) (fun q => ⟨q.1, q.2.1, fun c' hc' hD => ?_⟩))
        by_cases y : c' = c
        · rw [y] at hD; exact absurd hD nD
        · exact q.2.2 c' (by omega) hD
      | true =>
        have hD : plD g s a n k c := pc1.mp eb
        have e := pc2 hD p hp
        have r := plP_rng ri (a := a) (n := n) (k := k) (c := c) hs (show (p : Int) < (hI g 63 3).toInt by omega)
        refine ⟨S, fun z => absurd z (by decide), fun _ => k_priceAt S (by omega) (by omega) ⟨S, ?_⟩⟩
        rw [nI_add ((15 * k + c) * 12) p, nI_clamp (n := (15 * k + c) * 12 + p) (by omega), e, nI_add c 1]
        refine ⟨vp_in_nI (by omega) (by omega), fun z => c_min S ⟨S, ?_⟩, fun z => ih (c + 1) _ (by omega) (Or.inr ⟨r.1, r.2, fun c' hc' hD' => ?_⟩)⟩
        · rcases hx with hx | ⟨x0, x1, hx⟩
          · exact absurd hx.1 z
          · refine ih (c + 1) _ (by omega) (Or.inr ?_)
            by_cases y : plP g s a n k c p < x
            · rw [if_pos y]
              rw [Int32.lt_iff_toInt_lt] at y
              refine ⟨r.1, r.2, fun c' hc' hD' => ?_⟩
              by_cases t : c' = c
              · rw [t]; exact Int.le_refl _
              · have := hx c' (by omega) hD'; omega
            · rw [if_neg y]
              rw [Int32.lt_iff_toInt_lt] at y
              refine ⟨x0, x1, fun c' hc' hD' => ?_⟩
              by_cases t : c' = c
              · rw [t]; omega
              · exact hx c' (by omega) hD'
        · by_cases t : c' = c
          · rw [t]; exact Int.le_refl _
          · rcases hx with hx | ⟨x0, x1, hx⟩
            · exact absurd hD' (hx.2 c' (by omega))
            · rw [z, ti_m1] at x0; omega
  exact bX7_leastAt_0 S (lp 15 0 (-1) (by omega) (Or.inl ⟨rfl, fun c' hc' => absurd hc' (Nat.not_lt_zero c')⟩))
abbrev fbA : Nat → Prop := fun q => q = 36 ∨ scA q
theorem fbA.ks {h h' : aH} (c : Ch fbA scO h h') : KS h h' := c.ks (fun a ha => by unfold fbA scA at ha; omega) (fun a z => by have : a = 28 := z; omega)
theorem k_findBest {l : Launch} {E : eE} {d bc bs : Nat} {h : aH} {K : aH → Prop} {g : aH} {s a n m np : Nat} (V : LW g) (ks : KS g h) (hs : (s : Int) < (hI g 63 14).toInt) (hnp : (np : Int) = (hI g 63 3).toInt) (hm : m ≤ 6) (hm1 : 1 ≤ m) (e9 : hI h 27 9 = nI m) (e10 : hI h 27 10 = nI np) (pr : PlR g h s a n np m) (ev : EvR h 28 np none) (su : ∀ p, p < 12 → hA h 37 p = nI 0) (hd : 2 * m + 4 ≤ d) (k : ∀ h1, Ch fbA scO h h1 → PlT g h1 s a n m np (fun _ => 0) 0 (plB g s a n m np m 0 (fun _ => 0) none) → K h1) : CV l E d bc bs mX7_findBest [.inr (some (0, 7, 27))] h K := by
  obtain ⟨d, rfl⟩ : ∃ d', d = d' + 1 := ⟨d - 1, by omega⟩
  have S := (ks.lv V).1.1
  have hN := V.1.2.1
  unfold RIn at hN
  have c0 : Ch (isA 36) noO h (stAA h 36 (fil (hA h 36) 0 84 (nI 0))) := ch_AA h _ rfl
  refine bX7_findBest_0 S (c_fillI S (by decide) ⟨c0.sh S, ?_⟩)
  have z0 : ∀ j, j < 84 → hA (stAA h 36 (fil (hA h 36) 0 84 (nI 0))) 36 j = nI 0 := fun j hj => by
    rw [hA_AA]; unfold fil; rw [if_pos ⟨Nat.zero_le j, hj⟩]
  generalize stAA h 36 (fil (hA h 36) 0 84 (nI 0)) = h0 at c0 z0
  have e9' : ∀ {h1}, Ch (isA 36) noO h h1 → hI h1 27 9 = nI m ∧ hI h1 27 10 = nI np := fun c => by rw [c.2.2.2.2.1 27 (fun z => z)]; exact ⟨e9, e10⟩
  rw [(e9' c0).1]
  have lp : ∀ (kk : Nat) (h1 : aH), kk ≤ m → Ch (isA 36) noO h h1 → LfR g h1 s a n m np kk → LX7_findBest_15 l E (d + 1) bc bs (nI kk - nI 1) h1 K := by
    intro kk
    induction kk with
    | zero =>
      intro h1 _ c lf
      have S1 := c.sh S
      refine bX7_findBest_15 S1 ⟨fun _ => ?_, fun z => absurd (by decide) z⟩
      have ks1 : KS g h1 := ks.tr (c.ks (fun a ha => by have : a = 36 := ha; omega) (fun _ z => z.elim))
      have pr1 : PlR g h1 s a n np m := pr.ar (c.2.2.2.2.2 34 (by show ¬ 34 = 36; decide)) (c.2.2.2.2.2 35 (by show ¬ 35 = 36; decide))
      refine k_search V hs hnp hm m 0 d 0 0 h1 (fun _ => 0) none _ (by omega) (by omega) ⟨ks1, (e9' c).1, (e9' c).2, pr1, lf⟩ ⟨fun x hx => absurd hx (Nat.not_lt_zero x), fun p hp => ?_, ?_, fun u hu => (by cases hu)⟩ (fun x hx => absurd hx (Nat.not_lt_zero x)) (fun h2 c2 T2 => ⟨c2.sh S1, k h2 ((c.mono (fun a ha => Or.inl ha) (fun _ z => z.elim)).tr (c2.mono (fun a ha => Or.inr ha) (fun _ z => z))) T2⟩)
      · rw [c.2.2.2.2.2 37 (by show ¬ 37 = 36; decide), su p (by omega), plS]; decide
      · unfold EvR
        rw [c.2.2.2.2.1 28 (fun z => z), c.2.2.2.2.2 29 (by show ¬ 29 = 36; decide)]
        exact ev
    | succ kk ih =>
      intro h1 hk c lf
      have S1 := c.sh S
      refine bX7_findBest_15 S1 ?_
      rw [nI_p1 kk]
      refine ⟨fun z => absurd z (nI_pos (by omega)), fun _ => ?_⟩
      have inn : ∀ (b p : Nat) (h2 : aH), p + b = np → Ch (isA 36) noO h h2 → LfR g h2 s a n m np (kk + 1) → (∀ q, q < p → ((kk : Int) - m ≤ (hA h2 36 (12 * kk + q)).toInt ∧ (hA h2 36 (12 * kk + q)).toInt ≤ 1200 * ((m : Int) - kk)) ∧ ∀ v : Nat → Nat, (∀ x, kk ≤ x → x < m → v x < 15 ∧ plD g s a n x (v x)) → (hA h2 36 (12 * kk + q)).toInt ≤ plS g s a n v q m - plS g s a n v q kk) → LX7_findBest_21 l E (d + 1) bc bs (nI kk) (nI p) h2 K := by
        intro b
        induction b with
        | zero =>
          intro p h2 hp c2 lf2 q2
          have hp : p = np := by omega
          subst hp
          refine bX7_findBest_21 (c2.sh S) ⟨fun _ => ?_, fun z => absurd ?_ z⟩
          · have em : nI kk + (-1) = nI kk - nI 1 := by
              rw [Int32.sub_eq_add_neg]
              rfl
            rw [em]
            refine ih h2 (by omega) c2 ⟨lf2.1, fun k2 q hk1 hk2 hq => ?_⟩
            by_cases y : k2 = kk
            · rw [y]; exact q2 q hq
            · exact lf2.2 k2 q (by omega) hk2 hq
          · rw [(e9' c2).2]; exact nI_le (Nat.le_refl p) (by omega)
        | succ b ihb =>
          intro p h2 hp c2 lf2 q2
          have pr2 : PlR g h2 s a n np m := pr.ar (c2.2.2.2.2.2 34 (by show ¬ 34 = 36; decide)) (c2.2.2.2.2.2 35 (by show ¬ 35 = 36; decide))
          refine bX7_findBest_21 (c2.sh S) ⟨fun z => absurd z (by rw [(e9' c2).2]; exact nI_ge (by omega) (by omega)), fun _ => ?_⟩
          rw [nI_add kk 1, ix2 (a := kk + 1) (by omega), show (kk + 1) * 12 + p = 12 * (kk + 1) + p by omega, ix2 (a := kk) (by omega), show kk * 12 + p = 12 * kk + p by omega]
          refine ⟨vp2 (by omega) (by omega), k_leastAt V.1.2 (c2.sh S) hs hnp (show kk < m by omega) hm (by omega) pr2 (by omega) (fun v v0 v1 v2 => ⟨c2.sh S, vp2 (by omega) (by omega), ?_⟩)⟩
          rw [nI_add p 1]
          obtain ⟨⟨l1, l2⟩, l3⟩ := lf2.2 (kk + 1) p (Nat.le_refl _) (by omega) (by omega)
          have ea : (hA h2 36 (12 * (kk + 1) + p) + v).toInt = (hA h2 36 (12 * (kk + 1) + p)).toInt + v.toInt := i_add (by omega) (by omega)
          refine ihb (p + 1) _ (by omega) (c2.tr (ch_A (A := isA 36) (O := noO) h2 _ _ rfl)) ⟨fun q hq => ?_, fun k2 q hk1 hk2 hq => ?_⟩ (fun q hq => ?_)
          · rw [hA_st, if_neg (by omega)]; exact lf2.1 q hq
          · rw [hA_st, if_neg (by omega)]; exact lf2.2 k2 q hk1 hk2 hq
          · rw [hA_st]
            by_cases y : q = p
            · subst y
              rw [if_pos ⟨rfl, rfl⟩, ea]
              refine ⟨⟨by omega, by omega⟩, fun w hw => ?_⟩
              have a1 := l3 w (fun x x1 x2 => hw x (by omega) x2)
              have a2 := v2 (w kk) (hw kk (Nat.le_refl kk) (by omega)).1 (hw kk (Nat.le_refl kk) (by omega)).2
              rw [plS] at a1
              omega
            · rw [if_neg (by omega)]; exact q2 q (by omega)
      exact inn np 0 h1 (by omega) c lf (fun q hq => absurd hq (Nat.not_lt_zero q))
  refine lp m h0 (Nat.le_refl m) c0 ⟨fun p hp => z0 _ (by omega), fun k2 p h1 h2 hp => ?_⟩
  have : k2 = m := by omega
  subst this
  rw [z0 _ (by omega)]
  refine ⟨⟨by rw [ti_0]; omega, by rw [ti_0]; omega⟩, fun v _ => by rw [ti_0]; omega⟩
abbrev rtA : Nat → Prop := fun q => q = 34 ∨ q = 35
abbrev rtO : Nat → Prop := fun q => q = 31
theorem rtA.ks {h h' : aH} (c : Ch rtA rtO h h') : KS h h' := c.ks (fun a ha => by unfold rtA at ha; omega) (fun a z => by have : a = 31 := z; omega)
theorem scr31 : scr 31 := by decide
theorem co_ev {g : aH} {w n s p b : Nat} {F : Nat → Nat → Prop} {i j : Int32} (t : coF g w n s F p i j b) : evO g s p := by
  cases b with
  | zero => exact t.1.imp id (fun y => y.2)
  | succ b => exact t.2.1
theorem k_rate {l : Launch} {E : eE} {d bc bs : Nat} {h : aH} {K : Int32 → aH → Prop} {g : aH} {s a n np x o sh : Nat} {W : Nat → Prop} (V : LW g) (hs : (s : Int) < (hI g 63 14).toInt) (hl : SeAt g s o) (hnp : (np : Int) = (hI g 63 3).toInt) (hsh : isSh sh) (hx : x < 6) (hw : a + x < 52) (Bd : BdS g h (a + x) n (evO g s) s) (so : ∀ i : Nat, (i : Int) < (hA g 77 s).toInt → ShO g h (a + x) n s sh W i) (hW : ∀ p, p < 12 → (W p ↔ evO g s p)) (hW2 : ∀ p, W p → p < 12) (pr : PlR g h s a n np x) (e10 : hI h 27 10 = nI np) (hd : 5 ≤ d)
    (k : ∀ v h1, Ch rtA rtO h h1 → PlR g h1 s a n np (x + 1) → ((v = nI 1 ∧ ∃ c, c ∈ clO g s ∧ plD g s a n x c) ∨ (v = nI 0 ∧ ∀ c, c ∈ clO g s → ¬ plD g s a n x c)) → K v h1) : CI l E d bc bs mX7_rate [.inr (some (0, 7, 27)), .inl (nI x), .inr (some (0, 9, o)), .inr (some (0, 10, sh)), .inr (some (0, 1, 21))] h K := by
  obtain ⟨d, rfl⟩ : ∃ d', d = d' + 1 := ⟨d - 1, by omega⟩
  obtain ⟨ks, bd, ed, ez⟩ := Bd
  have S := (ks.lv V).1.1
  have hN := V.1.2.1
  unfold RIn at hN
  have h6 := op6 V.1.2 hs
  have ec77 := i32_clamp h6.1
  have ho := hl.o
  have hr := hsh.rng
  obtain ⟨nc, hnc, enc⟩ : ∃ nc : Nat, (nc = 6 ∧ hA g 76 s = -1 ∨ nc = 15 ∧ ¬ hA g 76 s = -1) ∧ (if hA g 76 s = -1 then nI 6 else nI 15) = nI nc := by
    by_cases e : hA g 76 s = -1
    · exact ⟨6, Or.inl ⟨rfl, e⟩, if_pos e⟩
    · exact ⟨15, Or.inr ⟨rfl, e⟩, if_neg e⟩
  have okc : ∀ c, c < nc → okC (hA g 76 s) (nI c) := fun c hc => by
    unfold okC
    rcases hnc with ⟨e1, e2⟩ | ⟨e1, e2⟩
    · rw [if_pos e2, nI_toInt (by omega)]; omega
    · rw [if_neg e2, nI_toInt (by omega)]; omega
  have big : ∀ c, nc ≤ c → c < 15 → ¬ plD g s a n x c := fun c h1 h2 q => by
    have := q.1
    unfold clsP at this
    rcases hnc with ⟨e1, e2⟩ | ⟨e1, e2⟩
    · rw [if_pos e2, decide_eq_true_iff] at this; omega
    · omega
  have memc : ∀ c, c ∈ clO g s ↔ (c < 15 ∧ clsP (hA g 76 s) (hA g 77 s).toNatClampNeg c = true) := fun c => by
    unfold clO cls
    rw [List.mem_filter, List.mem_range]
  -- the state before choice c
  have lp : ∀ (b c : Nat) (h1 : aH), c + b = nc → Ch rtA rtO h h1 → (∀ y, y ≠ x → hA h1 34 y = hA h 34 y) → (∀ j, j < 180 * x → hA h1 35 j = hA h 35 j) → sm 15 (hA h1 34 x) → (∀ c', c' < 15 → (bt (hA h1 34 x) c' = true ↔ (c' < c ∧ plD g s a n x c'))) → (∀ c', c' < c → plD g s a n x c' → ∀ p, p < np → hA h1 35 ((15 * x + c') * 12 + p) = plP g s a n x c' p) → LX7_rate_10 l E (d + 1) bc bs (nI x) o sh 21 (nI c) h1 K := by
    intro b
    induction b with
    | zero =>
      intro c h1 hc c1 q1 q2 q3 q4 q5
      have hc : c = nc := by omega
      subst hc
      have S1 := c1.sh S
      have ks1 := ks.tr (rtA.ks c1)
      have f5 : hI h1 o 3 = hA g 76 s := by rw [ks1.2.2.2.2.1 o (by omega)]; exact hl.1.1.2.2.2.2.1
      have pr1 : PlR g h1 s a n np (x + 1) := fun y hy => by
        by_cases e : y = x
        · subst e
          refine ⟨q3, fun c' hc' => ⟨?_, fun hD p hp => ?_⟩⟩
          · rw [q4 c' hc']
            exact ⟨fun z => z.2, fun z => ⟨Decidable.byContradiction fun t => big c' (by omega) hc' z, z⟩⟩
          · exact q5 c' (Decidable.byContradiction fun t => big c' (by omega) hc' hD) hD p hp
        · obtain ⟨r1, r2⟩ := pr y (by omega)
          rw [q1 y e]
          refine ⟨r1, fun c' hc' => ⟨(r2 c' hc').1, fun hD p hp => ?_⟩⟩
          rw [q2 _ (by omega)]
          exact (r2 c' hc').2 hD p hp
      refine bX7_rate_10 S1 hsh bd21 (k_choices S1 (by omega) ⟨S1, ?_⟩)
      rw [f5, enc, nI_clamp (n := x) (by omega)]
      refine ⟨fun _ => ⟨vp_in_nI (by omega) (by omega), fun z => k _ h1 c1 pr1 (Or.inr ⟨rfl, fun c' hc' hD => ?_⟩), fun z => k _ h1 c1 pr1 (Or.inl ⟨rfl, ?_⟩)⟩, fun z => absurd (nI_le (Nat.le_refl c) (by omega)) z⟩
      · have hc' := (memc c').mp hc'
        have := (pr1 x (by omega)).2 c' hc'.1
        rw [z, bt_0] at this
        exact absurd (this.1.mpr hD) (by decide)
      · obtain ⟨c', hc', e⟩ := sm_ne q3 z
        have := ((q4 c' hc').mp e).2
        exact ⟨c', (memc c').mpr ⟨hc', this.1⟩, this⟩
    | succ b ih =>
      intro c h1 hc c1 q1 q2 q3 q4 q5
      have S1 := c1.sh S
      have ks1 := ks.tr (rtA.ks c1)
      have oc := okc c (by omega)
      have c15 : c < 15 := by omega
      have f5 : hI h1 o 3 = hA g 76 s := by rw [ks1.2.2.2.2.1 o (by omega)]; exact hl.1.1.2.2.2.2.1
      have so1 : ∀ i : Nat, (i : Int) < (hA g 77 s).toInt → ShO g h1 (a + x) n s sh W i := fun i hi => ShF.ch c1 (by unfold rtA; omega) (by unfold rtA; omega) (by unfold rtA; omega) (so i hi)
      have bd1 := bd.ch c1 (by unfold rtA; omega) (by unfold rtA; omega) (by unfold rtA; omega) (by unfold rtO; omega)
      have ed1 := EdO.ch c1 (show ¬ rtA (21 + 4) by unfold rtA; omega) ed
      have soP : okP g s (fO (hA g 76 s) (nI c)) (sO (hA g 76 s) (nI c)) → ∀ h1, (∀ i : Nat, (i : Int) < (hA g 77 s).toInt → ShO g h1 (a + x) n s sh W i) → ShO g h1 (a + x) n s sh W (fO (hA g 76 s) (nI c)).toNatClampNeg ∧ (¬ sO (hA g 76 s) (nI c) = -1 → ShO g h1 (a + x) n s sh W (sO (hA g 76 s) (nI c)).toNatClampNeg) := fun ok h1 so1 => by
        obtain ⟨i', a1, a2, a3, a4, a5⟩ := ok.c V.1.2 hs
        refine ⟨by rw [a2]; exact so1 i' a4, fun nj => ?_⟩
        rcases a5 with a5 | ⟨-, -, j', b1, b2, b3, b4, b5⟩
        · exact absurd a5.2 nj
        · rw [b2]; exact so1 j' b5
      have clc := clsP_iff V.1.2 hs c15
      refine bX7_rate_10 S1 hsh bd21 (k_choices S1 (by omega) ⟨S1, ?_⟩)
      rw [f5, enc]
      refine ⟨fun z => absurd z (nI_ge (by omega) (by omega)), fun _ => k_suits V ks1 hsh bd21 scr31 (by omega) hs hl hw oc rfl rfl (fun ok => soP ok h1 so1) bd1 (by omega) ed1 (fun p q => (hW p (hW2 p q)).mp q) hW (fun h5 c5 ok ft st => ⟨c5.sh S1, fun z => absurd z (by decide), fun _ => ⟨vp_in_nI (by omega) (by omega), ?_⟩⟩) (fun h5 c5 nf => ⟨c5.sh S1, fun _ => ?_, fun z => absurd rfl z⟩)⟩
      · have hD : plD g s a n x c := ⟨clc.mpr ⟨oc, ok⟩, ft⟩
        rw [nI_clamp (n := x) (by omega), c5.2.2.2.2.2 34 (fun z => z)]
        have c6 : Ch rtA rtO h (stA h5 34 x (hA h1 34 x ||| (nI 1 <<< (nI c &&& 31)))) := (c1.tr (c5.mono (fun _ z => z.elim) (fun _ z => z))).tr (ch_A _ x _ (Or.inl rfl))
        have b6 : ∀ c', c' < 15 → (bt (hA h1 34 x ||| (nI 1 <<< (nI c &&& 31))) c' = true ↔ (c' < c + 1 ∧ plD g s a n x c')) := fun c' hc' => by
          rw [bt_or, Bool.or_eq_true, q4 c' hc', bt_pow (by omega) (by omega), decide_eq_true_iff]
          constructor
          · rintro (t | rfl)
            · exact ⟨by omega, t.2⟩
            · exact ⟨by omega, hD⟩
          · rintro ⟨t1, t2⟩
            by_cases e : c' = c
            · exact Or.inr e
            · exact Or.inl ⟨by omega, t2⟩
        have s6 : sm 15 (hA h1 34 x ||| (nI 1 <<< (nI c &&& 31))) := sm_or q3 (sm_pow (by omega) (by decide))
        generalize hA h1 34 x ||| (nI 1 <<< (nI c &&& 31)) = xb at c6 b6 s6
        -- the prices
        have pl : ∀ (b2 p : Nat) (h7 : aH), p + b2 = np → Ch (isA 35) noO (stA h5 34 x xb) h7 → (∀ j, j < (15 * x + c) * 12 → hA h7 35 j = hA h1 35 j) → (∀ p', p' < p → hA h7 35 ((15 * x + c) * 12 + p') = plP g s a n x c p') → LX7_rate_51 l E (d + 1) bc bs (nI x) o sh 21 (nI c) (nI p) h7 K := by
          intro b2
          induction b2 with
          | zero =>
            intro p h7 hp c7 r1 r2
            have hp : p = np := by omega
            subst hp
            have c17 : Ch rtA rtO h h7 := c6.tr (c7.mono (fun _ z => Or.inr z) (fun _ z => z.elim))
            refine bX7_rate_51 (c17.sh S) hsh bd21 ⟨fun _ => ?_, fun z => absurd ?_ z⟩
            · rw [nI_add]
              have a34 : hA h7 34 = hA (stA h5 34 x xb) 34 := c7.2.2.2.2.2 34 (by show ¬ 34 = 35; decide)
              refine ih (c + 1) h7 (by omega) c17 (fun y hy => ?_) (fun j hj => ?_) ?_ (fun c' hc' => ?_) (fun c' hc' hD' p' hp' => ?_)
              · rw [a34, hA_st, if_neg (fun z => hy z.2), c5.2.2.2.2.2 34 (fun z => z)]; exact q1 y hy
              · rw [r1 j (by omega)]; exact q2 j hj
              · rw [a34, hA_st, if_pos ⟨rfl, rfl⟩]; exact s6
              · rw [a34, hA_st, if_pos ⟨rfl, rfl⟩]; exact b6 c' hc'
              · by_cases e : c' = c
                · subst e; exact r2 p' hp'
                · rw [r1 _ (by omega)]; exact q5 c' (by omega) hD' p' hp'
            · rw [c17.2.2.2.2.1 27 (by unfold rtO; omega), e10]; exact nI_le (Nat.le_refl p) (by omega)
          | succ b2 ih2 =>
            intro p h7 hp c7 r1 r2
            have c17 : Ch rtA rtO h h7 := c6.tr (c7.mono (fun _ z => Or.inr z) (fun _ z => z.elim))
            have S7 := c17.sh S
            have so7 : ∀ i : Nat, (i : Int) < (hA g 77 s).toInt → ShO g h7 (a + x) n s sh W i := fun i hi => ShF.ch c17 (by unfold rtA; omega) (by unfold rtA; omega) (by unfold rtA; omega) (so i hi)
            have st7 : StO g h7 (a + x) n s 31 W (frP g (a + x) n (pI g (a + x)) (pJ g (a + x)) s) (fO (hA g 76 s) (nI c)) (sO (hA g 76 s) (nI c)) := by
              unfold StO
              rw [c7.2.2.2.2.1 31 (fun z => z)]
              exact st
            refine bX7_rate_51 S7 hsh bd21 ⟨fun z => absurd z ?_, fun _ => k_priceAt S7 (by omega) (by omega) ⟨S7, k_priceFor S7 V.1.2 hs hsh (by omega) (by omega) ok (fun q y t => t.1) (soP ok h7 so7).1 (soP ok h7 so7).2 st7 ⟨S7, ?_⟩⟩⟩
            · rw [c17.2.2.2.2.1 27 (by unfold rtO; omega), e10]; exact nI_ge (by omega) (by omega)
            · rw [nI_add ((15 * x + c) * 12) p, nI_clamp (n := (15 * x + c) * 12 + p) (by omega), nI_add p 1]
              refine ⟨vp_in_nI (by omega) (by omega), ih2 (p + 1) _ (by omega) (c7.tr (ch_A (A := isA 35) (O := noO) h7 _ _ rfl)) (fun j hj => ?_) (fun p' hp' => ?_)⟩
              · rw [hA_st, if_neg (by omega)]; exact r1 j hj
              · rw [hA_st]
                by_cases e : p' = p
                · subst e
                  rw [if_pos ⟨rfl, rfl⟩]
                  unfold plP
                  have eq : ∀ b, (W p' ∧ coF g (a + x) n s (frP g (a + x) n (pI g (a + x)) (pJ g (a + x)) s) p' (fO (hA g 76 s) (nI c)) (sO (hA g 76 s) (nI c)) b) = coF g (a + x) n s (plF g s a n x) p' (fO (hA g 76 s) (nI c)) (sO (hA g 76 s) (nI c)) b := fun b => propext ⟨fun z => z.2, fun z => ⟨(hW p' (by omega)).mpr (co_ev z), z⟩⟩
                  rw [eq 0, eq 1]
                · rw [if_neg (by omega)]; exact r2 p' (by omega)
        refine pl np 0 _ (by omega) (Ch.rf _) (fun j hj => ?_) (fun p' hp' => absurd hp' (Nat.not_lt_zero p'))
        rw [hA_stn _ _ _ _ (by decide), c5.2.2.2.2.2 35 (fun z => z)]
      · have nD : ¬ plD g s a n x c := fun z => nf ⟨(clc.mp z.1).2, z.2⟩
        have a34 : hA h5 34 = hA h1 34 := c5.2.2.2.2.2 34 (fun z => z)
        have a35 : hA h5 35 = hA h1 35 := c5.2.2.2.2.2 35 (fun z => z)
        rw [nI_add]
        refine ih (c + 1) h5 (by omega) (c1.tr (c5.mono (fun _ z => z.elim) (fun _ z => z))) (fun y hy => by rw [a34]; exact q1 y hy) (fun j hj => by rw [a35]; exact q2 j hj) (by rw [a34]; exact q3) (fun c' hc' => ?_) (fun c' hc' hD' p' hp' => ?_)
        · rw [a34, q4 c' hc']
          refine ⟨fun t => ⟨by omega, t.2⟩, fun t => ⟨?_, t.2⟩⟩
          have : c' ≠ c := fun e => nD (e ▸ t.2)
          omega
        · rw [a35]
          by_cases e : c' = c
          · rw [e] at hD'; exact absurd hD' nD
          · exact q5 c' (by omega) hD' p' hp'
  refine bX7_rate_0 S hsh bd21 ⟨vp_in_nI (by omega) (by omega), ?_⟩
  rw [nI_clamp (n := x) (by omega)]
  refine lp nc 0 _ (by omega) (ch_A (A := rtA) (O := rtO) h x _ (Or.inl rfl)) (fun y hy => ?_) (fun j _ => by rw [hA_stn _ _ _ _ (by decide)]) ?_ (fun c' hc' => ?_) (fun c' hc' => absurd hc' (Nat.not_lt_zero c'))
  · rw [hA_st, if_neg (fun z => hy z.2)]
  · rw [hA_st, if_pos ⟨rfl, rfl⟩]; exact sm_0 15
  · rw [hA_st, if_pos ⟨rfl, rfl⟩, show bt (nI 0) c' = false from bt_0 c']
    exact ⟨fun z => (by cases z), fun z => absurd z.1 (Nat.not_lt_zero c')⟩
