/-! ===== the class: plan ===== -/
theorem SK2.fm2 {h h' g : aH} (hex : exH h h') (hf : ∀ q, 99 ≤ q → q < hN h → hI h' q = hI h q ∧ hR h' q = hR h q ∧ hA h' q = hA h q) (q1 : hQ h' 1 = hQ h 1) (q2 : hQ h' 2 = hQ h 2) (n : CLn2 h' g) (S : SK2 h g) : SK2 h' g := by
  have hf2 : ∀ q, 99 ≤ q → q < hN h → hI h' q = hI h q ∧ hR h' q = hR h q := fun q a b => ⟨(hf q a b).1, (hf q a b).2.1⟩
  have hs : sameF g g := ⟨rfl, rfl, rfl, rfl, rfl, rfl⟩
  refine ⟨n, fun i hi => ?_, fun p hp => ?_⟩
  · obtain ⟨o, ho⟩ := S.2.1 i hi
    exact ⟨o, ho.mv (by rw [q1]) hf2 hex rfl hs⟩
  · obtain ⟨o, a, ho⟩ := S.2.2 p hp
    exact ⟨o, a, ho.mv (by rw [q2]) (by rw [q1]) hf2 (hf a ho.2.2.2.2.2.2.2.2.1 ho.2.2.2.2.2.2.2.2.2.1).2.2 hex rfl rfl rfl (fun _ _ => rfl) hs⟩
/-- the stuck ones of the class are in no relation but their own -/
theorem CLW.st13 {h g : aH} (S : RIs g) (c : CLW h g) (v : Int32) : CLW (stI h 0 13 v) g := by
  have e0 : ∀ q, q ≠ 0 → hI (stI h 0 13 v) q = hI h q := fun q hq => up2_ne hq
  have ex : exH h (stI h 0 13 v) := ⟨Nat.le_refl _, fun _ _ => rfl⟩
  obtain ⟨c1, c2, c3, c4⟩ := c
  refine ⟨c1.fm2 ex (fun q h1 _ => ⟨e0 q (by omega), rfl, rfl⟩) rfl rfl ?_, c2.mv S ⟨ex, fun q h1 _ _ => ⟨e0 q (by omega), rfl⟩, fun _ _ _ _ => rfl, rfl⟩ (fun s _ => sameS.rf g s) (sameF.rf g) rfl, c3, c4⟩
  obtain ⟨n1, n2, n3, n4⟩ := c1.1
  refine ⟨?_, ?_, ?_, ?_⟩
  · rw [← n1]; simp [hI_st]
  · rw [← n2]; simp [hI_st]
  · rw [← n3]; simp [hI_st]
  · rw [← n4]; simp [hI_st]
theorem RI.h13 {h : aH} (v : Int32) (ri : RI h) : RI (stI h 0 13 v) := by
  unfold RI RIn RIl RIp RIc RIf RIs RF RSe RPl at ri ⊢
  exact ri
theorem REp.h13 (h : aH) (v : Int32) : REp h (stI h 0 13 v) := ⟨⟨rfl, rfl, rfl, rfl, rfl⟩, fun _ _ _ => rfl⟩
theorem LW.st13 {h : aH} (V : LW h) (v : Int32) : LW (stI h 0 13 v) := ⟨⟨V.1.1, V.1.2.h13 v⟩, (REp.h13 h v).clw (V.2.1.st13 V.1.2.2.2.2.2.2 v), V.2.2⟩
theorem k_mostWeeks {l : Launch} {E : eE} {d bc bs : Nat} {h : aH} {K : Int32 → aH → Prop} {o : Nat} (S : SH h) (hd : 1 ≤ d) (k : K (if hI h o 3 = -1 then nI 6 else nI 4) h) : CI l E d bc bs mX9_mostWeeks [.inr (some (0, 9, o))] h K := by
  obtain ⟨d, rfl⟩ : ∃ d', d = d' + 1 := ⟨d - 1, by omega⟩
  refine bX9_mostWeeks_0 S (k_isSplit S ⟨S, fun z => ?_, fun z => ?_⟩)
  · by_cases g : hI h o 3 = -1
    · rw [if_pos g] at k; exact k
    · rw [if_neg g] at z; exact absurd z (by decide)
  · by_cases g : hI h o 3 = -1
    · rw [if_pos g] at z; exact absurd rfl z
    · rw [if_neg g] at k; exact k
/-- the class's chosen of a series, after weeks were written -/
def kCho (h : aH) (o a : Nat) (u : Nat → Nat) (x : Nat) : Nat → Int32 := fun j => if a ≤ j ∧ j < a + x then nI (u (j - a)) else hA h (o + 3) j
theorem k_plan {l : Launch} {E : eE} {d bc bs : Nat} {h : aH} {K : Int32 → aH → Prop} {x1 x2 x3 x4 : Int32} {g : aH} (V0 : LW h) (eg : g = stI h 0 13 (nI 0)) (hd : 18 ≤ d)
    (k2 : ¬ plOK g x1 x2 x3 x4 → K (-2) h)
    (k1 : ∀ (s a m n np x : Nat) (v : Int32) (h' : aH), x1 = nI s → x2 = nI a → x3 = nI (a + m) → x4 = nI n → (s < 4 ∧ a + m ≤ 52 ∧ n ≤ 400) → plOK g x1 x2 x3 x4 → (np : Int) = (hI g 63 3).toInt → x < m → (∀ y, y < x → ∃ c, c ∈ clO g s ∧ plD g s a n y c) → (∀ c, c ∈ clO g s → ¬ plD g s a n x c) → stS g (a + x) s (plF g s a n x) v → KS g h' → K (-1) (stI h' 0 13 v))
    (k0 : ∀ (s a m n np o : Nat) (u : Nat → Nat) (v : Int32) (h' : aH), x1 = nI s → x2 = nI a → x3 = nI (a + m) → x4 = nI n → (s < 4 ∧ a + m ≤ 52 ∧ n ≤ 400) → plOK g x1 x2 x3 x4 → (np : Int) = (hI g 63 3).toInt → (∀ y, y < m → ∃ c, c ∈ clO g s ∧ plD g s a n y c) → plB g s a n m np m 0 (fun _ => 0) none = some u → plV g s a n m np u v → SeAt g s o → KS g h' → K v (stAA h' (o + 3) (kCho g o a u m))) :
    CI l E d bc bs mX11_plan [.inr (some (0, 11, 0)), .inl x1, .inl x2, .inl x3, .inl x4] h K := by
  obtain ⟨d, rfl⟩ : ∃ d', d = d' + 1 := ⟨d - 1, by omega⟩
  have hN := V0.1.2.1
  unfold RIn at hN
  have S := V0.1.1
  have V : LW g := by rw [eg]; exact V0.st13 _
  have gI : hI g 63 = hI h 63 := by rw [eg]; exact up2_ne (f := hI h) (i := 0) (k := 13) (j := 63) (v := nI 0) (by decide)
  have gA : hA g = hA h := by rw [eg]; rfl
  have c26 : ¬ plOK g x1 x2 x3 x4 → ∀ r5, (r5 = none ∨ ∃ q, r5 = some q) → LX11_plan_26 l E (d + 1) bc bs x1 x2 x3 x4 r5 h K := fun no r5 _ => bX11_plan_26 S ⟨fun _ => k2 no, fun q _ => k_isKnown V0.sk ⟨S, fun _ => k2 no, fun _ => ⟨fun _ => k2 no, fun t => absurd rfl t⟩⟩⟩
  -- with all conditions kept
  have main : ∀ s o, x1 = nI s → (s : Int) < (hI h 63 14).toInt → SeAt h s o → ¬ x2 < 0 → ¬ x3 ≤ x2 → ¬ nI 52 < x3 → (0 ≤ x4.toInt ∧ x4.toInt ≤ (hI h 63 8).toInt) → ((x3 - x2) ≤ (if hI h o 3 = -1 then nI 6 else nI 4) → (vp_in (hI (stI h 0 13 (nI 0)) o 0) 4 ∧ (CV l E d 0 0 mX7_begin [.inr (some (0, 7, 27)), .inl (x3 - x2), .inl (hI h 0 10)] (stI h 0 13 (nI 0)) (fun h13 => SH h13 ∧ LX11_plan_96 l E (d + 1) bc bs x1 x2 x3 x4 (some (0, 9, o)) (nI 1) (hQ (stI h 0 13 (nI 0)) 4 (hI (stI h 0 13 (nI 0)) o 0).toNatClampNeg) (nI 0) h13 K)))) ∧ (¬ (x3 - x2) ≤ (if hI h o 3 = -1 then nI 6 else nI 4) → K (-2) h) := fun s o e1 hs hl o3 o4 o5 o2 => by
    have ho := SeAt.o hl
    have f5 : hI h o 3 = hA h 76 s := hl.1.1.2.2.2.2.1
    have ec1 : x1.toNatClampNeg = s := by rw [e1, nI_clamp (by omega)]
    have i1 : inI x1 (hI g 63 14) := by rw [gI, e1]; exact ⟨by rw [nI_toInt (by omega)]; omega, by rw [nI_toInt (by omega)]; exact hs⟩
    rw [f5]
    refine ⟨fun c => ?_, fun c => k2 (fun q => c (by have := q.2.2.2.2.2; rw [ec1, gA] at this; exact this))⟩
    have ok : plOK g x1 x2 x3 x4 := ⟨i1, by rw [gI]; exact o2, o3, o4, o5, by rw [ec1, gA]; exact c⟩
    obtain ⟨s', a, m, n, q1, rfl, rfl, rfl, hs', hn, hm1, hm6, ham, hs4, hn4, ex⟩ := ok.n V.1.2
    have es : s' = s := nI_inj (by omega) (by omega) (q1.symm.trans e1)
    subst es
    subst e1
    rw [← eg, ex]
    obtain ⟨np, hnp, enp⟩ : ∃ np : Nat, (np : Int) = (hI g 63 3).toInt ∧ hI h 0 10 = nI np := ⟨_, i32_clamp V.1.2.1.2.1.1, by
      have := V0.2.1.1.1.2.1
      rw [this, ← gI]
      exact i32_nn V.1.2.1.2.1.1⟩
    have np12 : np ≤ 12 := by rw [gI] at hnp; omega
    have hlg : SeAt g s' o := by
      obtain ⟨o2, hl2⟩ := V.2.1.2.1 s' hs'
      have : o2 = o := by
        have q1 := hl2.1.1.1
        rw [eg] at q1
        have q1 : hQ h 3 s' = some (0, 9, o2) := q1
        rw [hl.1.1.1] at q1
        exact (Prod.mk.inj (Prod.mk.inj (Option.some.inj q1)).2).2.symm
      rw [this] at hl2
      exact hl2
    have f0 : hI g o 0 = nI s' := hlg.1.1.2.1
    have Sg := V.1.1
    have h6 := op6 V.1.2 hs'
    obtain ⟨no, hno, eno⟩ : ∃ no : Nat, (no : Int) = (hA g 77 s').toInt ∧ hA g 77 s' = nI no := ⟨_, i32_clamp h6.1, i32_nn h6.1⟩
    rw [f0, nI_clamp (n := s') (by omega), shId Sg (by omega), enp]
    have hsh := isSh_at (s := s') (by omega)
    refine ⟨vp_in_nI (by omega) (by omega), k_begin Sg hm6 np12 (by omega) (fun h13 c13 e9 e10 ev su => ⟨c13.sh Sg, ?_⟩)⟩
    have ks13 : KS g h13 := c13.ks (fun a ha => by have : a = 37 := ha; omega) (fun a ha => by omega)
    -- the state of the planner between the weeks
    have wks : ∀ (b x : Nat) (hw : aH), x + b = m → KS g hw → hI hw 27 9 = nI m → hI hw 27 10 = nI np → EvR hw 28 np none → (∀ p, p < 12 → hA hw 37 p = nI 0) → PlR g hw s' a n np x → (∀ y, y < x → ∃ c, c ∈ clO g s' ∧ plD g s' a n y c) → LX11_plan_96 l E (d + 1) bc bs (nI s') (nI a) (nI (a + m)) (nI n) (some (0, 9, o)) (nI 1) (some (0, 10, 5 + 4 * s')) (nI x) hw K := by
      intro b
      induction b with
      | zero =>
        intro x hw hx ks e9 e10 ev su pr all
        have hx : x = m := by omega
        subst hx
        have Sw := (ks.lv V).1.1
        refine bX11_plan_96 Sw ⟨fun _ => k_findBest V ks hs' hnp hm6 hm1 e9 e10 pr ev su (by omega) (fun h2 c2 T2 => ⟨c2.sh Sw, ?_⟩), fun z => absurd (by rw [ex]; exact nI_le (Nat.le_refl x) (by omega)) z⟩
        have ks2 := ks.tr (fbA.ks c2)
        have S2 := c2.sh Sw
        have hne := foB_some (np := np) (SU := plU g s' a n x) x 0 (fun _ => 0) none (Nat.zero_add x) (fun y hy => absurd hy (Nat.not_lt_zero y)) (fun y _ hy => all y hy)
        obtain ⟨u, hu⟩ : ∃ u, plB g s' a n x np x 0 (fun _ => 0) none = some u := by
          cases e : plB g s' a n x np x 0 (fun _ => 0) none with
          | none => exact absurd e hne
          | some u => exact ⟨u, rfl⟩
        rw [hu] at T2
        obtain ⟨-, -, ev2, best⟩ := T2
        have best := best u rfl
        obtain ⟨ev1, sz, -, evS⟩ := ev2
        obtain ⟨-, sd2⟩ := evS _ rfl
        -- write
        have wr : ∀ (b y : Nat), y + b = x → LX11_plan_200 l E (d + 1) bc bs (nI s') (nI a) (nI (a + x)) (nI n) (some (0, 9, o)) (nI 1) (some (0, 10, 5 + 4 * s')) (nI y) (stAA h2 (o + 3) (kCho g o a u y)) K := by
          have cc : ∀ f, SH (stAA h2 (o + 3) f) := fun f => by
            have : Ch (isA (o + 3)) noO h2 (stAA h2 (o + 3) f) := ch_AA h2 f rfl
            exact this.sh S2
          have ho9 := SeAt.o hlg
          intro b
          induction b with
          | zero =>
            intro y hy
            have hy : y = x := by omega
            subst hy
            have fin : ∀ v, v = (if np = 0 then nI 0 else hA h2 29 0) → K v (stAA h2 (o + 3) (kCho g o a u y)) := fun v hv => k0 s' a y n np o u v h2 rfl rfl rfl rfl ⟨by omega, by omega, by omega⟩ ok hnp all hu ⟨hA h2 29, sd2, hv⟩ hlg ks2
            refine bX11_plan_200 (cc _) ⟨fun _ => bX2_greatest_0 (cc _) (Or.inl rfl) ?_, fun z => absurd (by rw [ex]; exact nI_le (Nat.le_refl y) (by omega)) z⟩
            rw [show hI (stAA h2 (o + 3) (kCho g o a u y)) 28 2 = nI np from sz, show (nI 0).toNatClampNeg = 0 by decide, hA_AAn _ _ (show 28 + 1 ≠ o + 3 by omega)]
            refine ⟨fun z => ⟨cc _, fin _ (by rw [if_neg (fun t => z (by rw [t]; rfl))])⟩, fun z => ⟨cc _, fin _ (by rw [if_pos (Decidable.byContradiction fun t => nI_ne0 (by omega) (by omega) z)])⟩⟩
          | succ b ih =>
            intro y hy
            refine bX11_plan_200 (cc _) ⟨fun z => absurd z (by rw [ex]; exact nI_ge (by omega) (by omega)), fun _ => ⟨o, rfl, o + 3, ?_, ?_⟩⟩
            · show hR h2 o 6 = _
              rw [ks2.1]; exact hlg.1.1.2.2.2.2.2.2.2.2
            · rw [nI_add a y, nI_clamp (n := a + y) (by omega), nI_clamp (n := y) (by omega), hA_AAn _ _ (show 32 ≠ o + 3 by omega), best y (by omega), stA_stAA, nI_add y 1]
              refine ⟨vp_in_nI (by omega) (by omega), vp_in_nI (by omega) (by omega), ?_⟩
              have : (fun j => if j = a + y then nI (u y) else kCho g o a u y j) = kCho g o a u (y + 1) := by
                funext j
                unfold kCho
                by_cases e : j = a + y
                · subst e
                  rw [if_pos rfl, if_pos (by omega), show a + y - a = y by omega]
                · rw [if_neg e]
                  by_cases e2 : a ≤ j ∧ j < a + y
                  · rw [if_pos e2, if_pos (by omega)]
                  · rw [if_neg e2, if_neg (by omega)]
              rw [this]
              exact ih (y + 1) (by omega)
        have w0 := wr x 0 (by omega)
        have : stAA h2 (o + 3) (kCho g o a u 0) = h2 := by
          have : kCho g o a u 0 = hA h2 (o + 3) := by
            funext j
            unfold kCho
            rw [if_neg (by omega), ks2.2.2.2.2.2 (o + 3) (by have := SeAt.o hlg; omega)]
          rw [this, stAA_id]
        rw [this] at w0
        exact w0
      | succ b ih =>
        intro x hw hx ks e9 e10 ev su pr all
        have Sw := (ks.lv V).1.1
        refine bX11_plan_96 Sw ⟨fun z => absurd z (by rw [ex]; exact nI_ge (by omega) (by omega)), fun _ => ⟨o, rfl, ?_⟩⟩
        rw [nI_add a x]
        -- frames: what seating and filling leave alone
        refine k_lesserF V ks (by omega) hs' hlg (by omega) hn (fun h4 c4 B4 => ?_)
        obtain ⟨ks4, bd4, ed4, ez4⟩ := id B4
        have V4 := ks4.lv V
        have S4 := V4.1.1
        have ho9 := SeAt.o hlg
        have f7 : hI h4 o 7 = nI no := by rw [ks4.2.2.2.2.1 o (by omega), hlg.1.1.2.2.2.2.2.1]; exact eno
        refine ⟨S4, 5 + 4 * s', rfl, hsh, bX9_allOptions_0 S4 ⟨S4, k_everyone V4.1 (by omega) (by rw [ks4.re.1]; exact hs') (ks4.se V hs' hlg) (fun v7 sv hv => ⟨S4, ?_⟩)⟩⟩
        rw [f7, full_z no (by omega)]
        rw [ks4.re.2 79 (by decide) (by decide), ks4.re.2 76 (by decide) (by decide)] at hv
        have hlt : ∀ p, bt v7 p = true → (p : Int) < (hI g 63 3).toInt := fun p q => by
          have hp : p < 12 := Decidable.byContradiction fun y => by rw [sv p (by omega)] at q; cases q
          exact ev_lt V.1.2 hs' hp ((hv p hp).mp q)
        refine k_fill V ks4 hsh hs' hlg (by omega) hn hlt (by omega) (fun h8 c8 so8 => ⟨c8.sh S4, ?_⟩)
        have ks8 := ks4.tr (shA.ks hsh c8)
        have hrg := hsh.rng
        have B8 : BdS g h8 (a + x) n (evO g s') s' := ⟨ks8, bd4.ch c8 (by unfold shA; omega) (by unfold shA; omega) (by unfold shA; omega) (fun z => z), EdO.ch c8 (show ¬ shA (5 + 4 * s') (21 + 4) by unfold shA; omega) ed4, EdZ.ch c8 (show ¬ shA (5 + 4 * s') (21 + 4) by unfold shA; omega) ez4⟩
        have so : ∀ i : Nat, (i : Int) < (hA g 77 s').toInt → ShO g h8 (a + x) n s' (5 + 4 * s') (fun p => bt v7 p = true) i := fun i hi => so8 i hi (by
          have z12 : 2 ^ no ≤ 2 ^ 6 := Nat.pow_le_pow_right (by decide) (by omega)
          have zp : 1 ≤ 2 ^ no := Nat.one_le_two_pow
          rw [bt_nI (by omega), Nat.testBit_two_pow_sub_one, decide_eq_true_iff]
          omega)
        have fr : ∀ q, q ≠ 5 + 4 * s' + 1 → q ≠ 5 + 4 * s' + 2 → q ≠ 5 + 4 * s' + 3 → hA h8 q = hA h4 q := fun q a1 a2 a3 => c8.2.2.2.2.2 q (by unfold shA; omega)
        have i8 : hI h8 = hI h4 := by
          funext q
          exact c8.2.2.2.2.1 q (fun z => z)
        have pr8 : PlR g h8 s' a n np x := (pr.ar (c4.2.2.1 34 (by omega)) (c4.2.2.1 35 (by omega))).ar (fr 34 (by omega) (by omega) (by omega)) (fr 35 (by omega) (by omega) (by omega))
        have e10' : hI h8 27 10 = nI np := by rw [i8, c4.1]; exact e10
        have W2 : ∀ p, bt v7 p = true → p < 12 := fun p q => Decidable.byContradiction fun y => by rw [sv p (by omega)] at q; cases q
        refine k_rate V hs' hlg hnp hsh (by omega) (by omega) B8 so (fun p hp => hv p hp) W2 pr8 e10' (by omega) (fun v h9 c9 pr9 res => ⟨c9.sh (c8.sh S4), fun z => ?_, fun z => ?_⟩)
        · rcases res with ⟨-, ex9⟩ | ⟨e, -⟩
          · rw [nI_add x 1]
            refine ih (x + 1) h9 (by omega) (ks8.tr (rtA.ks c9)) ?_ ?_ ?_ (fun p hp => ?_) pr9 (fun y hy => ?_)
            · rw [c9.2.2.2.2.1 27 (by unfold rtO; omega), i8, c4.1]; exact e9
            · rw [c9.2.2.2.2.1 27 (by unfold rtO; omega)]; exact e10'
            · unfold EvR
              rw [c9.2.2.2.2.1 28 (by unfold rtO; omega), i8, c4.2.1, c9.2.2.2.2.2 29 (by unfold rtA; omega), fr 29 (by omega) (by omega) (by omega), c4.2.2.1 29 (by omega)]
              exact ev
            · rw [c9.2.2.2.2.2 37 (by unfold rtA; omega), fr 37 (by omega) (by omega) (by omega), c4.2.2.1 37 (by omega)]; exact su p hp
            · by_cases e : y = x
              · rw [e]; exact ex9
              · exact all y (by omega)
          · exact absurd e z
        · rcases res with ⟨e, -⟩ | ⟨-, none9⟩
          · rw [e] at z; exact absurd z (by decide)
          · have so9 : ∀ i : Nat, (i : Int) < (hA g 77 s').toInt → ShO g h9 (a + x) n s' (5 + 4 * s') (fun p => bt v7 p = true) i := fun i hi => ShF.ch c9 (by unfold rtA; omega) (by unfold rtA; omega) (by unfold rtA; omega) (so i hi)
            have ks9 := ks8.tr (rtA.ks c9)
            have B9 : BdS g h9 (a + x) n (evO g s') s' := ⟨ks9, B8.2.1.ch c9 (by unfold rtA; omega) (by unfold rtA; omega) (by unfold rtA; omega) (by unfold rtO; omega), EdO.ch c9 (show ¬ rtA (21 + 4) by unfold rtA; omega) B8.2.2.1, EdZ.ch c9 (show ¬ rtA (21 + 4) by unfold rtA; omega) B8.2.2.2⟩
            exact k_find V hs' hlg hsh (by omega) B9 so9 (fun p hp => hv p hp) W2 (by omega) (fun v h11 c11 st => ⟨c11.sh (c9.sh (c8.sh S4)), k1 s' a m n np x v h11 rfl rfl rfl rfl ⟨by omega, by omega, by omega⟩ ok hnp (by omega) all none9 st (ks9.tr (blA.ks c11))⟩)
    exact wks m 0 h13 (by omega) ks13 e9 e10 ev su (fun y hy => absurd hy (Nat.not_lt_zero y)) (fun y hy => absurd hy (Nat.not_lt_zero y))
  have noS : ¬ inI x1 (hI h 63 14) → ¬ plOK g x1 x2 x3 x4 := fun c q => c (by have := q.1; rw [gI] at this; exact this)
  refine bX11_plan_0 S (k_seriesAt V0.sk V0.2.1.2.1 (fun c => ⟨S, fun t => c26 (fun q => q.2.2.1 t) _ (Or.inl rfl), fun _ => ⟨fun t => c26 (fun q => q.2.2.2.1 t) _ (Or.inl rfl), fun _ => ⟨fun t => c26 (fun q => q.2.2.2.2.1 t) _ (Or.inl rfl), fun _ => ⟨fun _ => k2 (noS c), fun _ e => (by cases e)⟩⟩⟩⟩) (fun s o e hs hl => ⟨S, fun t => c26 (fun q => q.2.2.1 t) _ (Or.inr ⟨_, rfl⟩), fun t3 => ⟨fun t => c26 (fun q => q.2.2.2.1 t) _ (Or.inr ⟨_, rfl⟩), fun t4 => ⟨fun t => c26 (fun q => q.2.2.2.2.1 t) _ (Or.inr ⟨_, rfl⟩), fun t5 => ⟨fun e => (by cases e), fun _ _ => k_isKnown V0.sk ⟨S, fun t => k2 (fun q => bI0.mp t (by have := q.2.1; rw [gI] at this; exact this)), fun t2 => ⟨fun t => absurd t (by decide), fun _ => ⟨o, rfl, k_mostWeeks S (by omega) ⟨S, main s o e hs hl t3 t4 t5 (bI1.mp t2)⟩⟩⟩⟩⟩⟩⟩⟩))
