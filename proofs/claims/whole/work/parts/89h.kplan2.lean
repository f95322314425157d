/-! ===== the class: Blame.find, plan ===== -/
theorem k_note {l : Launch} {E : eE} {d bc bs : Nat} {h : aH} {K : aH → Prop} {g : aH} {w n s o z c : Nat} {sp : Nat → Nat} {i j : Int32} {W : Nat → Prop} {F : Nat → Nat → Prop} (S : SH h) (ri : RI g) (hs : (s : Int) < (hI g 63 14).toInt) (su : SuR h z sp) (f5 : hI h o 3 = hA g 76 s) (st : StO g h w n s 60 W F i j) (hj : hA g 76 s = -1 ↔ j = -1) (hW : ∀ k, k < z → W (sp k)) (hc : c < 15) (hd : 1 ≤ d) (kk : ∀ h1, Ch (isA 62) noO h h1 → (∀ k, k < z → ∀ c', bt (hA h1 62 k) c' = true ↔ (bt (hA h 62 k) c' = true ∨ (c' = c ∧ ¬ saS g s F (sp k) i j))) → K h1) : CV l E d bc bs mX0_noteHindered [.inr (some (0, 0, 59)), .inr (some (0, 9, o)), .inl (nI c)] h K := by
  obtain ⟨d, rfl⟩ : ∃ d', d = d' + 1 := ⟨d - 1, by omega⟩
  obtain ⟨hz, ez, hsp, inc⟩ := su
  obtain ⟨-, ⟨-, t2⟩, ⟨-, t3⟩, -⟩ := st
  have bpw : ∀ (x : Int32) c', bt (x ||| (nI 1 <<< (nI c &&& 31))) c' = true ↔ (bt x c' = true ∨ c' = c) := fun x c' => by
    rw [bt_or, Bool.or_eq_true]
    by_cases g32 : c' < 32
    · rw [bt_pow (by omega) g32, decide_eq_true_iff]
    · rw [bt_ge (nI 1 <<< (nI c &&& 31)) (by omega)]
      exact ⟨fun q => q.imp id (fun t => by cases t), fun q => q.imp id (fun t => by omega)⟩
  have lp : ∀ (b k : Nat) (h1 : aH), k + b = z → Ch (isA 62) noO h h1 → (∀ k', k' < z → ∀ c', bt (hA h1 62 k') c' = true ↔ (bt (hA h 62 k') c' = true ∨ (k' < k ∧ c' = c ∧ ¬ saS g s F (sp k') i j))) → LX0_noteHindered_2 l E (d + 1) bc bs o (nI c) (nI k) h1 K := by
    intro b
    induction b with
    | zero =>
      intro k h1 hk c1 q1
      have hk : k = z := by omega
      subst hk
      refine bX0_noteHindered_2 (c1.sh S) ⟨fun _ => kk h1 c1 (fun k' hk' c' => by rw [q1 k' hk' c']; exact ⟨fun t => t.imp id (fun u => u.2), fun t => t.imp id (fun u => ⟨hk', u⟩)⟩), fun y => absurd ?_ y⟩
      rw [c1.2.2.2.2.1 59 (fun z => z), ez]; exact nI_le (Nat.le_refl k) (by omega)
    | succ b ih =>
      intro k h1 hk c1 q1
      have S1 := c1.sh S
      obtain ⟨p1, p2⟩ := hsp k (by omega)
      have i60 : hI h1 60 = hI h 60 := c1.2.2.2.2.1 60 (fun z => z)
      have a61 : hA h1 61 = hA h 61 := c1.2.2.2.2.2 61 (by show ¬ 61 = 62; decide)
      have t2 := t2 (sp k) p2
      have t3 := t3 (sp k) p2
      have Wk := hW k (by omega)
      have skip : saS g s F (sp k) i j → LX0_noteHindered_2 l E (d + 1) bc bs o (nI c) (nI (k + 1)) h1 K := fun y => ih (k + 1) h1 (by omega) c1 (fun k' hk' c' => by
        rw [q1 k' hk' c']
        refine ⟨fun t => t.imp id (fun u => ⟨by omega, u.2⟩), fun t => t.imp id (fun u => ⟨?_, u.2⟩)⟩
        have : k' ≠ k := fun e => by rw [e] at u; exact u.2.2 y
        omega)
      have mark : ¬ saS g s F (sp k) i j → LX0_noteHindered_2 l E (d + 1) bc bs o (nI c) (nI (k + 1)) (stA h1 62 k (hA h1 62 k ||| (nI 1 <<< (nI c &&& 31)))) K := fun y => ih (k + 1) _ (by omega) (c1.tr (ch_A (A := isA 62) (O := noO) h1 k _ rfl)) (fun k' hk' c' => by
        rw [hA_st]
        by_cases e : k' = k
        · subst e
          rw [if_pos ⟨rfl, rfl⟩, bpw, q1 k' hk' c']
          constructor
          · rintro ((t | t) | t)
            · exact Or.inl t
            · exact Or.inr ⟨by omega, t.2⟩
            · exact Or.inr ⟨by omega, t, y⟩
          · rintro (t | t)
            · exact Or.inl (Or.inl t)
            · exact Or.inr t.2.1
        · rw [if_neg (fun t => e t.2), q1 k' hk' c']
          exact ⟨fun t => t.imp id (fun u => ⟨by omega, u.2⟩), fun t => t.imp id (fun u => ⟨by omega, u.2⟩)⟩)
      refine bX0_noteHindered_2 S1 ⟨fun y => absurd y ?_, fun _ => ⟨vp_in_nI (by omega) (by omega), ?_⟩⟩
      · rw [c1.2.2.2.2.1 59 (fun z => z), ez]; exact nI_ge (by omega) (by omega)
      · rw [nI_clamp (n := k) (by omega), a61, p1, c1.2.2.2.2.1 o (fun z => z), f5, i60, nI_add k 1]
        refine ⟨fun y => k_isIn S1 (by omega) ⟨S1, ?_⟩, fun y => k_isIn S1 (by omega) ⟨S1, ?_⟩⟩
        · have sa : saS g s F (sp k) i j ↔ bt (hI h 60 2 ||| hI h 60 3) (sp k) = true := by
            rw [bt_or, Bool.or_eq_true, t2, t3]
            unfold saS anF
            constructor
            · rintro (t | t)
              · exact absurd t.1.symm y
              · exact t.2.imp (fun u => ⟨Wk, u⟩) (fun u => ⟨u.1, Wk, u.2⟩)
            · intro t
              exact Or.inr ⟨fun u => y u.1.symm, t.imp (fun u => u.2) (fun u => ⟨u.1, u.2.2⟩)⟩
          rw [← i60] at sa
          cases e : bt (hI h1 60 2 ||| hI h1 60 3) (sp k) with
          | true => rw [i60] at e; rw [e]; exact ⟨fun _ => skip (sa.mpr (by rw [i60]; exact e)), fun t => absurd t (by decide)⟩
          | false => rw [i60] at e; rw [e]; exact ⟨fun t => absurd rfl t, fun _ => mark (fun t => by have := sa.mp t; rw [i60, e] at this; cases this)⟩
        · have nj : ¬ j = -1 := fun t => by rw [hj.mpr t] at y; exact nI_m1 (by omega) y
          have sa : saS g s F (sp k) i j ↔ bt (hI h 60 2 &&& hI h 60 3) (sp k) = true := by
            rw [bt_and, Bool.and_eq_true, t2, t3]
            unfold saS
            constructor
            · rintro (t | t)
              · exact ⟨⟨Wk, t.2.2.1⟩, nj, Wk, t.2.2.2⟩
              · exact absurd ⟨y.symm, nj⟩ t.1
            · intro t
              exact Or.inl ⟨y.symm, nj, t.1.2, t.2.2.2⟩
          cases e : bt (hI h 60 2 &&& hI h 60 3) (sp k) with
          | true => exact ⟨fun _ => skip (sa.mpr e), fun t => absurd t (by decide)⟩
          | false => exact ⟨fun t => absurd rfl t, fun _ => mark (fun t => by rw [sa.mp t] at e; cases e)⟩
  exact bX0_noteHindered_0 S (lp z 0 h (by omega) (Ch.rf h) (fun k' hk' c' => ⟨fun t => Or.inl t, fun t => t.elim id (fun u => absurd u.1 (Nat.not_lt_zero k'))⟩))
theorem k_find {l : Launch} {E : eE} {d bc bs : Nat} {h : aH} {K : Int32 → aH → Prop} {g : aH} {w n s o sh : Nat} {W : Nat → Prop} (V : LW g) (hs : (s : Int) < (hI g 63 14).toInt) (hl : SeAt g s o) (hsh : isSh sh) (hw : w < 52) (Bd : BdS g h w n (evO g s) s) (so : ∀ i : Nat, (i : Int) < (hA g 77 s).toInt → ShO g h w n s sh W i) (hW : ∀ p, p < 12 → (W p ↔ evO g s p)) (hW2 : ∀ p, W p → p < 12) (hd : 5 ≤ d) (k : ∀ v h1, Ch blA blO h h1 → stS g w s (frP g w n (pI g w) (pJ g w) s) v → K v h1) : CI l E d bc bs mX0_find [.inr (some (0, 0, 59)), .inr (some (0, 9, o)), .inr (some (0, 10, sh)), .inr (some (0, 1, 21))] h K := by
  obtain ⟨d, rfl⟩ : ∃ d', d = d' + 1 := ⟨d - 1, by omega⟩
  obtain ⟨ks, bd, ed, ez⟩ := Bd
  have S := (ks.lv V).1.1
  have hN := V.1.2.1
  unfold RIn at hN
  have ho := hl.o
  have hr := hsh.rng
  have h6 := op6 V.1.2 hs
  have ec77 := i32_clamp h6.1
  obtain ⟨nc, hnc, enc⟩ : ∃ nc : Nat, (nc = 6 ∧ hA g 76 s = -1 ∨ nc = 15 ∧ ¬ hA g 76 s = -1) ∧ (if hA g 76 s = -1 then nI 6 else nI 15) = nI nc := by
    by_cases e : hA g 76 s = -1
    · exact ⟨6, Or.inl ⟨rfl, e⟩, if_pos e⟩
    · exact ⟨15, Or.inr ⟨rfl, e⟩, if_neg e⟩
  have okc : ∀ c, c < nc → okC (hA g 76 s) (nI c) := fun c hc => by
    unfold okC
    rcases hnc with ⟨e1, e2⟩ | ⟨e1, e2⟩
    · rw [if_pos e2, nI_toInt (by omega)]; omega
    · rw [if_neg e2, nI_toInt (by omega)]; omega
  have memc : ∀ c, c ∈ clO g s ↔ (c < nc ∧ okP g s (fO (hA g 76 s) (nI c)) (sO (hA g 76 s) (nI c))) := fun c => by
    have : c ∈ clO g s ↔ (c < 15 ∧ clsP (hA g 76 s) (hA g 77 s).toNatClampNeg c = true) := by
      unfold clO cls
      rw [List.mem_filter, List.mem_range]
    rw [this]
    constructor
    · rintro ⟨c1, c2⟩
      have := (clsP_iff V.1.2 hs c1).mp c2
      refine ⟨?_, this.2⟩
      have o := this.1
      unfold okC at o
      rw [nI_toInt (by omega)] at o
      rcases hnc with ⟨e1, e2⟩ | ⟨e1, e2⟩
      · rw [if_pos e2] at o; omega
      · rw [if_neg e2] at o; omega
    · rintro ⟨c1, c2⟩
      exact ⟨by omega, (clsP_iff V.1.2 hs (by omega)).mpr ⟨okc c c1, c2⟩⟩
  refine bX0_find_0 S hsh bd21 (k_suspects V ks hs hl (by omega) (fun h1 z sp c1 su h62 hmu => ⟨c1.sh S, ?_⟩))
  have hz := su.1
  have hsp := su.2.2.1
  have Wk : ∀ k, k < z → W (sp k) := fun k hk => (hW _ (hsp k hk).2).mpr (by
    have := ((hmu (sp k) (hsp k hk).2).mpr ⟨k, hk, rfl⟩).2
    exact this.imp (fun t => by omega) id)
  have lp : ∀ (b c : Nat) (x4 : Int32) (h2 : aH), c + b = nc → Ch blA blO h h2 → SuR h2 z sp → (∀ c', bt x4 c' = true ↔ (c' < c ∧ okP g s (fO (hA g 76 s) (nI c')) (sO (hA g 76 s) (nI c')) ∧ sdO g w s (fO (hA g 76 s) (nI c')) (sO (hA g 76 s) (nI c')))) → (∀ k, k < z → ∀ c', bt (hA h2 62 k) c' = true ↔ (c' < c ∧ (okP g s (fO (hA g 76 s) (nI c')) (sO (hA g 76 s) (nI c')) ∧ sdO g w s (fO (hA g 76 s) (nI c')) (sO (hA g 76 s) (nI c'))) ∧ ¬ saS g s (frP g w n (pI g w) (pJ g w) s) (sp k) (fO (hA g 76 s) (nI c')) (sO (hA g 76 s) (nI c')))) → LX0_find_11 l E (d + 1) bc bs o sh 21 x4 (nI c) h2 K := by
    intro b
    induction b with
    | zero =>
      intro c x4 h2 hc c2 su2 hx hh
      have hc : c = nc := by omega
      subst hc
      have S2 := c2.sh S
      have ks2 := ks.tr (blA.ks c2)
      have f5 : hI h2 o 3 = hA g 76 s := by rw [ks2.2.2.2.2.1 o (by omega)]; exact hl.1.1.2.2.2.2.1
      refine bX0_find_11 S2 hsh bd21 (k_choices S2 (by omega) ⟨S2, ?_⟩)
      rw [f5, enc]
      refine ⟨fun _ => k_leastSet (G := goS g w s (frP g w n (pI g w) (pJ g w) s)) S2 su2 (by omega) (fun t v X ht hv mX => ?_) (fun v mu sv mmu g1 g2 => ⟨S2, k v h2 c2 ⟨sv, mu, mmu.1, fun p hp => ?_, g1, g2⟩⟩), fun q => absurd (nI_le (Nat.le_refl c) (by omega)) q⟩
      · constructor
        · rintro rfl
          rintro ⟨c', m1, m2, m3⟩
          obtain ⟨n1, n2⟩ := (memc c').mp m1
          obtain ⟨k', k1, k2, k3⟩ := (hv c').mp ((hx c').mpr ⟨n1, n2, m2⟩)
          have k4 := (hh k' k1 c').mp k3
          refine k4.2.2 (m3 (sp k') ?_ ((mX.2 _ (hsp k' k1).2).mpr ⟨k', k1, k2, rfl⟩))
          exact ((hmu (sp k') (hsp k' k1).2).mpr ⟨k', k1, rfl⟩).1
        · intro ng
          refine bt_ext (fun c' _ => ?_)
          rw [Bool.eq_iff_iff, hv c', hx c']
          constructor
          · rintro ⟨k', k1, k2, k3⟩
            have k4 := (hh k' k1 c').mp k3
            exact ⟨k4.1, k4.2.1⟩
          · rintro ⟨n1, n2, n3⟩
            refine Classical.byContradiction fun no => ng ⟨c', (memc c').mpr ⟨n1, n2⟩, n3, fun p hp hb => Classical.byContradiction fun ns => no ?_⟩
            obtain ⟨k', k1, k2, k3⟩ := (mX.2 p (by omega)).mp hb
            exact ⟨k', k1, k2, (hh k' k1 c').mpr ⟨n1, ⟨n2, n3⟩, by rw [k3]; exact ns⟩⟩
      · rw [mmu.2 p hp, hmu p hp]
        constructor
        · rintro ⟨k', k1, k2, k3⟩; exact ⟨k', k1, k3⟩
        · rintro ⟨k', k1, k3⟩
          refine ⟨k', k1, ?_, k3⟩
          rw [Nat.testBit_two_pow_sub_one, decide_eq_true_iff]
          omega
    | succ b ih =>
      intro c x4 h2 hc c2 su2 hx hh
      have S2 := c2.sh S
      have ks2 := ks.tr (blA.ks c2)
      have oc := okc c (by omega)
      have f5 : hI h2 o 3 = hA g 76 s := by rw [ks2.2.2.2.2.1 o (by omega)]; exact hl.1.1.2.2.2.2.1
      have so2 : ∀ i : Nat, (i : Int) < (hA g 77 s).toInt → ShO g h2 w n s sh W i := fun i hi => ShF.ch c2 (by unfold blA; omega) (by unfold blA; omega) (by unfold blA; omega) (so i hi)
      have bd2 := bd.ch c2 (by unfold blA; omega) (by unfold blA; omega) (by unfold blA; omega) (by unfold blO; omega)
      have soP : okP g s (fO (hA g 76 s) (nI c)) (sO (hA g 76 s) (nI c)) → ShO g h2 w n s sh W (fO (hA g 76 s) (nI c)).toNatClampNeg ∧ (¬ sO (hA g 76 s) (nI c) = -1 → ShO g h2 w n s sh W (sO (hA g 76 s) (nI c)).toNatClampNeg) := fun ok => by
        obtain ⟨i', a1, a2, a3, a4, a5⟩ := ok.c V.1.2 hs
        refine ⟨by rw [a2]; exact so2 i' a4, fun nj => ?_⟩
        rcases a5 with a5 | ⟨-, -, j', b1, b2, b3, b4, b5⟩
        · exact absurd a5.2 nj
        · rw [b2]; exact so2 j' b5
      refine bX0_find_11 S2 hsh bd21 (k_choices S2 (by omega) ⟨S2, ?_⟩)
      rw [f5, enc]
      refine ⟨fun q => absurd q (nI_ge (by omega) (by omega)), fun _ => k_stands V ks2 hsh (by omega) hs hl hw oc soP (fun ok sd => ⟨S2, fun q => absurd q (by decide), fun _ => k_seat V ks2 hsh bd21 scr60 (by omega) hs hl hw oc rfl rfl ok (soP ok).1 (soP ok).2 bd2 (by omega) (fun p q => (hW p (hW2 p q)).mp q) (fun p hp q => (hW p hp).mp q) (fun h6 c6 st6 => ⟨c6.sh S2, ?_⟩)⟩) (fun q => ⟨S2, fun _ => ?_, fun t => absurd rfl t⟩)⟩
      · have su6 : SuR h6 z sp := by
          unfold SuR
          rw [c6.2.2.2.2.1 59 (by show ¬ 59 = 60; decide), c6.2.2.2.2.2 61 (fun t => t)]
          exact su2
        have f56 : hI h6 o 3 = hA g 76 s := by rw [c6.2.2.2.2.1 o (show ¬ o = 60 by omega)]; exact f5
        have hj : hA g 76 s = -1 ↔ sO (hA g 76 s) (nI c) = -1 := by
          obtain ⟨i', -, -, -, -, a⟩ := ok.c V.1.2 hs
          rcases a with a | a
          · exact ⟨fun _ => a.2, fun _ => a.1⟩
          · exact ⟨fun t => absurd t a.1, fun t => absurd t a.2.1⟩
        refine k_note (c6.sh S2) V.1.2 hs su6 f56 st6 hj Wk (by omega) (by omega) (fun h7 c7 q7 => ⟨c7.sh (c6.sh S2), ?_⟩)
        rw [nI_add c 1]
        have c27 : Ch blA blO h h7 := (c2.tr (c6.mono (fun _ t => t.elim) (fun _ t => Or.inr t))).tr (c7.mono (fun _ t => Or.inr t) (fun _ t => t.elim))
        have su7 : SuR h7 z sp := by
          unfold SuR
          rw [c7.2.2.2.2.1 59 (fun t => t), c7.2.2.2.2.2 61 (by show ¬ 61 = 62; decide)]
          exact su6
        refine ih (c + 1) _ h7 (by omega) c27 su7 (fun c' => ?_) (fun k' hk' c' => ?_)
        · rw [bt_or, Bool.or_eq_true, hx c']
          have : bt (nI 1 <<< (nI c &&& 31)) c' = true ↔ c' = c := by
            by_cases g32 : c' < 32
            · rw [bt_pow (by omega) g32, decide_eq_true_iff]
            · rw [bt_ge _ (show 32 ≤ c' by omega)]
              exact ⟨fun t => (by cases t), fun t => by omega⟩
          rw [this]
          constructor
          · rintro (t | rfl)
            · exact ⟨by omega, t.2⟩
            · exact ⟨by omega, ok, sd⟩
          · rintro ⟨t1, t2⟩
            by_cases e : c' = c
            · exact Or.inr e
            · exact Or.inl ⟨by omega, t2⟩
        · rw [q7 k' hk' c', c6.2.2.2.2.2 62 (fun t => t), hh k' hk' c']
          constructor
          · rintro (t | ⟨rfl, t⟩)
            · exact ⟨by omega, t.2⟩
            · exact ⟨by omega, ⟨ok, sd⟩, t⟩
          · rintro ⟨t1, t2, t3⟩
            by_cases e : c' = c
            · subst e; exact Or.inr ⟨rfl, t3⟩
            · exact Or.inl ⟨by omega, t2, t3⟩
      · rw [nI_add c 1]
        refine ih (c + 1) x4 h2 (by omega) c2 su2 (fun c' => ?_) (fun k' hk' c' => ?_)
        · rw [hx c']
          refine ⟨fun t => ⟨by omega, t.2⟩, fun t => ⟨?_, t.2⟩⟩
          have : c' ≠ c := fun e => by rw [e] at t; exact q t.2
          omega
        · rw [hh k' hk' c']
          refine ⟨fun t => ⟨by omega, t.2⟩, fun t => ⟨?_, t.2⟩⟩
          have : c' ≠ c := fun e => by rw [e] at t; exact q t.2.1
          omega
  exact lp nc 0 (nI 0) h1 (by omega) c1 su (fun c' => ⟨fun t => (by rw [show bt (nI 0) c' = false from bt_0 c'] at t; cases t), fun t => absurd t.1 (Nat.not_lt_zero c')⟩) (fun k' hk' c' => by
    rw [h62 k' hk', show bt (nI 0) c' = false from bt_0 c']
    exact ⟨fun t => (by cases t), fun t => absurd t.1 (Nat.not_lt_zero c')⟩)
