/-! ===== the class: suits, priceFor ===== -/
theorem bh_iff {g : aH} {w s : Nat} {pi pj : Nat → Int32} {i : Nat} (h0 : 0 ≤ stO g w s i) (hc : ¬ hA g 75 s = -1) : bhO g w pi pj s i ↔ edO g w (hA g 75 s).toNatClampNeg (pi (hA g 75 s).toNatClampNeg) (pj (hA g 75 s).toNatClampNeg) ≤ stO g w s i := by
  unfold bhO edO
  by_cases c1 : pi (hA g 75 s).toNatClampNeg = -1
  · rw [if_pos c1]
    exact ⟨fun _ => h0, fun _ => Or.inr (Or.inl c1)⟩
  · rw [if_neg c1]
    by_cases c2 : pj (hA g 75 s).toNatClampNeg = -1
    · rw [if_pos c2]
      exact ⟨fun q => q.elim (fun z => absurd z hc) (fun q => q.elim (fun z => absurd z c1) (fun q => q.1)), fun q => Or.inr (Or.inr ⟨q, Or.inl c2⟩)⟩
    · rw [if_neg c2]
      refine ⟨fun q => q.elim (fun z => absurd z hc) (fun q => q.elim (fun z => absurd z c1) (fun q => ?_)), fun q => Or.inr (Or.inr ⟨by omega, Or.inr (by omega)⟩)⟩
      have := q.2.resolve_left c2
      omega
theorem k_behind {l : Launch} {E : eE} {d bc bs : Nat} {h : aH} {K : Int32 → aH → Prop} {g : aH} {w n s o sh b st : Nat} {i j : Int32} {W : Nat → Prop} {pi pj : Nat → Int32} (V : LW g) (ks : KS g h) (hsh : isSh sh) (hb : isBd b) (hs : (s : Int) < (hI g 63 14).toInt) (hl : SeAt g s o) (hw : w < 52) (ok : okP g s i j) (t0 : hI h st 0 = i) (t1 : hI h st 1 = j) (sd : sdO g w s i j) (so : ShO g h w n s sh W i.toNatClampNeg) (so2 : ¬ j = -1 → ShO g h w n s sh W j.toNatClampNeg) (ed : EdO g h w b pi pj s) (k1 : bhO g w pi pj s i.toNatClampNeg → (¬ j = -1 → bhO g w pi pj s j.toNatClampNeg) → K (nI 1) h) (k0 : ¬ (bhO g w pi pj s i.toNatClampNeg ∧ (¬ j = -1 → bhO g w pi pj s j.toNatClampNeg)) → K (nI 0) h) : CI l E d bc bs mX8_isBehindChain [.inr (some (0, 8, st)), .inr (some (0, 9, o)), .inr (some (0, 10, sh)), .inr (some (0, 1, b))] h K := by
  have hN := V.1.2.1
  unfold RIn at hN
  have S := (ks.lv V).1.1
  have ho := hl.o
  have hse := (V.1.2.2.2.2.2.2.1 s hs).2.1
  obtain ⟨i', rfl, ci, hi6, hi, okj⟩ := ok.c V.1.2 hs
  have sti := stO_int (w := w) V.1.2 hs hi hw
  rw [ci] at so k1 k0
  have s1 := so.1
  have ini := sd.1
  rw [ci] at ini
  rw [if_pos ini] at s1
  have e4 : hR h o 2 = (if hA g 75 s = -1 then none else hQ g 3 (hA g 75 s).toNatClampNeg) := by rw [ks.1]; exact hl.1.1.2.2.2.1
  refine bX8_isBehindChain_0 S hsh hb ?_
  by_cases c : hA g 75 s = -1
  · rw [if_pos c] at e4
    rw [e4]
    exact ⟨fun q z => (by cases z), fun _ => k1 (Or.inl c) (fun _ => Or.inl c)⟩
  · rw [if_neg c] at e4
    have hc := hse.resolve_left c
    have e2 := i32_clamp hc.1
    obtain ⟨oc, hoc⟩ := V.2.1.2.1 (hA g 75 s).toNatClampNeg (by omega)
    have hoc9 := SeAt.o hoc
    rw [hoc.1.1.1] at e4
    have eed := ed (hA g 75 s).toNatClampNeg (by omega)
    have en : hI h oc 0 = nI (hA g 75 s).toNatClampNeg := by rw [ks.2.2.2.2.1 oc (by omega)]; exact hoc.1.1.2.1
    rw [bh_iff (by omega) c, ← eed] at k1 k0
    rw [e4]
    refine ⟨fun q z => ⟨oc, rfl, ?_⟩, fun z => (by cases z)⟩
    rw [en, nI_clamp (n := (hA g 75 s).toNatClampNeg) (by omega), t0, t1, nI_clamp (n := i') (by omega), s1, Int32.lt_iff_toInt_lt, sti.1]
    refine ⟨vp_in_nI (by omega) (by omega), vp_in_nI (by omega) (by omega), fun y => k0 (fun q => by omega), fun y => ⟨fun nj => k1 (by omega) (fun z => absurd nj z), fun nj => ?_⟩⟩
    rcases okj with okj | ⟨hch, -, j', rfl, cj, hj6, hij, hj⟩
    · exact absurd okj.2 nj
    have s2 := (so2 nj).1
    have inj := (sd.2 nj).1
    have stj := stO_int (w := w) V.1.2 hs hj hw
    rw [cj] at s2 inj k1 k0
    rw [if_pos inj] at s2
    rw [bh_iff (by omega) c, ← eed] at k1 k0
    rw [nI_clamp (n := j') (by omega), s2, Int32.lt_iff_toInt_lt, stj.1]
    exact ⟨vp_in_nI (by omega) (by omega), fun x => k0 (fun q => by have := q.2 nj; omega), fun x => k1 (by omega) (fun _ => by omega)⟩
theorem sm_z {n : Nat} {x : Int32} (h1 : sm n x) : x = 0 ↔ ∀ p, p < n → bt x p = false := ⟨fun e p _ => by rw [e, bt_0], fun q => sm_ext h1 (sm_0 n) (fun p hp => by rw [q p hp, bt_0])⟩
/-- the set of the series' people -/
abbrev evO (g : aH) (s p : Nat) : Prop := 1 ≤ roO g s p ∨ hA g 76 s = nI p
theorem k_suits {l : Launch} {E : eE} {d bc bs : Nat} {h : aH} {K : Int32 → aH → Prop} {g : aH} {w n s o sh b st : Nat} {c i j : Int32} {W Wb : Nat → Prop} {pi pj : Nat → Int32} {m : Nat} (V : LW g) (ks : KS g h) (hsh : isSh sh) (hb : isBd b) (hst : scr st) (hd : 4 ≤ d) (hs : (s : Int) < (hI g 63 14).toInt) (hl : SeAt g s o) (hw : w < 52) (hc : okC (hA g 76 s) c) (ei : fO (hA g 76 s) c = i) (ej : sO (hA g 76 s) c = j) (so : okP g s i j → ShO g h w n s sh W i.toNatClampNeg ∧ (¬ j = -1 → ShO g h w n s sh W j.toNatClampNeg)) (bd : BdO h b Wb (enO g w pi pj (tbO g w n pi pj s) s) m) (hm : m ≤ 8) (ed : EdO g h w b pi pj s) (hWb : ∀ p, W p → Wb p) (hW : ∀ p, p < 12 → (W p ↔ evO g s p))
    (k1 : ∀ h1, Ch noA (isQ st) h h1 → okP g s i j → ftO g w pi pj s (frP g w n pi pj s) i j → StO g h1 w n s st W (frP g w n pi pj s) i j → K (nI 1) h1) (k0 : ∀ h1, Ch noA (isQ st) h h1 → ¬ (okP g s i j ∧ ftO g w pi pj s (frP g w n pi pj s) i j) → K (nI 0) h1) : CI l E d bc bs mX8_suits [.inr (some (0, 8, st)), .inr (some (0, 9, o)), .inr (some (0, 10, sh)), .inr (some (0, 1, b)), .inl c] h K := by
  obtain ⟨d, rfl⟩ : ∃ d', d = d' + 1 := ⟨d - 1, by omega⟩
  have hN := V.1.2.1
  unfold RIn at hN
  have S := (ks.lv V).1.1
  have ho := hl.o
  have hro : SeRo g g s o := hl.1.2.2.1
  refine bX8_suits_0 S hsh hb (k_stands V ks hsh (by omega) hs hl hw hc (by rw [ei, ej]; exact so) (fun ok sd => ⟨S, fun _ => ?_, fun z => absurd z (by decide)⟩) (fun q => ⟨S, fun z => absurd rfl z, fun _ => k0 h (Ch.rf h) (fun y => q (by rw [ei, ej]; exact ⟨y.1, y.2.1⟩))⟩))
  rw [ei, ej] at ok sd
  obtain ⟨so1, so2⟩ := so ok
  refine k_seat V ks hsh hb hst (by omega) hs hl hw hc ei ej ok so1 so2 bd hm hWb (fun p hp q => (hW p hp).mp q) (fun h3 c3 st3 => ⟨c3.sh S, o + 2, by rw [c3.1, ks.1]; exact hl.1.1.2.2.2.2.2.2.2.1, ?_⟩)
  have ks3 := ks.tr (noA.ks hst c3)
  have re3 := ks3.re
  obtain ⟨⟨t0, t1⟩, ⟨sm2, t2⟩, ⟨sm3, t3⟩, -⟩ := id st3
  have eA : hA h3 (o + 2) = hA g (o + 2) := ks3.2.2.2.2.2 _ (by omega)
  rw [show (nI 1).toNatClampNeg = 1 from by decide, eA]
  have fr : ∀ p, p < 12 → (bt (hI h3 st 2 ||| hI h3 st 3) p = true ↔ (W p ∧ anF (frP g w n pi pj s) p i j)) := fun p hp => by
    rw [bt_or, Bool.or_eq_true, t2 p hp, t3 p hp]
    constructor
    · rintro (q | q)
      · exact ⟨q.1, Or.inl q.2⟩
      · exact ⟨q.2.1, Or.inr ⟨q.1, q.2.2⟩⟩
    · rintro ⟨q1, q | q⟩
      · exact Or.inl ⟨q1, q⟩
      · exact Or.inr ⟨q.1, q1, q.2⟩
  have ro : ∀ r p, 1 ≤ r → r < 6 → p < 12 → (bt (hA g (o + 2) r) p = true ↔ roO g s p = r) := fun r p h1 h2 hp => by
    rw [(hro r h2).2 h1 p hp]
    unfold roO
    exact ⟨fun z => by rw [z, nI_toInt (by omega)], fun z => i32_eq (by omega) z⟩
  have must : (hA g (o + 2) 1 &&& ((hI h3 st 2 ||| hI h3 st 3) ^^^ -1)) = 0 ↔ ∀ p : Nat, (p : Int) < (hI g 63 3).toInt → roO g s p = 1 → anF (frP g w n pi pj s) p i j := by
    rw [sm_z (sm_and (hro 1 (by decide)).1)]
    constructor
    · intro q p hp hr
      have := q p (by omega)
      rw [bt_cm _ _ (by omega), (ro 1 p (by decide) (by decide) (by omega)).mpr hr, Bool.true_and, Bool.not_eq_false'] at this
      exact ((fr p (by omega)).mp this).2
    · intro q p hp
      rw [bt_cm _ _ (by omega)]
      cases e : bt (hA g (o + 2) 1) p with
      | false => rfl
      | true =>
        have hr := (ro 1 p (by decide) (by decide) hp).mp e
        have hev : evO g s p := Or.inl (by omega)
        rw [(fr p hp).mpr ⟨(hW p hp).mpr hev, q p (ev_lt V.1.2 hs hp hev) hr⟩]
        rfl
  refine ⟨fun z => k0 h3 c3 (fun q => z (must.mpr q.2.2.2.2.1)), fun z => k_chairAlone (ks3.lv V).1 (by omega) (by rw [re3.1]; exact hs) (ks3.se V hs hl) (fun v6 sv6 hv6 => ⟨c3.sh S, ?_⟩)⟩
  rw [re3.2 76 (by decide) (by decide)] at hv6
  have hm := must.mp z
  have chair : (v6 &&& ((hI h3 st 2 &&& hI h3 st 3) ^^^ -1)) = 0 ↔ (¬ j = -1 → ∀ p : Nat, (p : Int) < (hI g 63 3).toInt → hA g 76 s = nI p → frP g w n pi pj s p i.toNatClampNeg ∧ frP g w n pi pj s p j.toNatClampNeg) := by
    rw [sm_z (sm_and sv6)]
    constructor
    · intro q nj p hp hr
      have := q p (by omega)
      rw [bt_cm _ _ (by omega), (hv6 p (by omega)).mpr hr, Bool.true_and, Bool.not_eq_false', bt_and, Bool.and_eq_true, t2 p (by omega), t3 p (by omega)] at this
      exact ⟨this.1.2, this.2.2.2⟩
    · intro q p hp
      rw [bt_cm _ _ (by omega)]
      cases e : bt v6 p with
      | false => rfl
      | true =>
        have hr := (hv6 p hp).mp e
        have hev : evO g s p := Or.inr hr
        have nj : ¬ j = -1 := fun y => by
          obtain ⟨i', -, -, -, -, okj⟩ := ok.c V.1.2 hs
          rcases okj with okj | okj
          · rw [okj.1] at hr; exact nI_m1 (by omega) hr.symm
          · exact okj.2.1 y
        have := q nj p (ev_lt V.1.2 hs hp hev) hr
        rw [bt_and, (t2 p hp).mpr ⟨(hW p hp).mpr hev, this.1⟩, (t3 p hp).mpr ⟨nj, (hW p hp).mpr hev, this.2⟩]
        rfl
  refine ⟨fun y => ?_, fun y => k0 h3 c3 (fun q => y (chair.mpr q.2.2.2.2.2.1))⟩
  have hch := chair.mp y
  have so' : ∀ i, ShO g h w n s sh W i → ShO g h3 w n s sh W i := fun i q => by
    unfold ShO
    rw [c3.2.2.2.2.2 _ (fun z => z), c3.2.2.2.2.2 _ (fun z => z), c3.2.2.2.2.2 _ (fun z => z)]
    exact q
  have ed3 : EdO g h3 w b pi pj s := by
    unfold EdO
    rw [c3.2.2.2.2.2 _ (fun z => z)]
    exact ed
  have lp : ∀ (a r : Nat), r + a = 6 → 3 ≤ r → (∀ r' : Nat, 3 ≤ r' → r' < r → ∀ p : Nat, (p : Int) < (hI g 63 3).toInt → roO g s p = r' → ∃ q : Nat, (q : Int) < (hI g 63 3).toInt ∧ roO g s q = r' ∧ anF (frP g w n pi pj s) q i j) → LX8_suits_70 l E (d + 1) bc bs st o sh b c (hI h3 st 2 ||| hI h3 st 3) (nI r) h3 K := by
    intro a
    induction a with
    | zero =>
      intro r hr _ hg
      have hr : r = 6 := by omega
      subst hr
      refine bX8_suits_70 (c3.sh S) hsh hb ⟨fun _ => k_behind V ks3 hsh hb hs hl hw ok t0 t1 sd (so' _ so1) (fun q => so' _ (so2 q)) ed3 (fun q1 q2 => ⟨c3.sh S, Or.inr rfl, k1 h3 c3 ok ⟨sd, q1, q2, hm, hch, fun r h1 h2 p hp hr => ?_⟩ st3⟩) (fun q => ⟨c3.sh S, Or.inl rfl, k0 h3 c3 (fun x => q ⟨x.2.2.1, x.2.2.2.1⟩)⟩), fun q => absurd (nI_le (Nat.le_refl 6) (by omega)) q⟩
      have := hg r.toNat (by omega) (by omega) p hp (by omega)
      rw [show ((r.toNat : Nat) : Int) = r by omega] at this
      exact this
    | succ a ih =>
      intro r hr h3' hg
      refine bX8_suits_70 (c3.sh S) hsh hb ⟨fun q => absurd q (nI_ge (by omega) (by omega)), fun _ => ⟨o + 2, by rw [c3.1, ks.1]; exact hl.1.1.2.2.2.2.2.2.2.1, ?_⟩⟩
      rw [eA, nI_clamp (n := r) (by omega), nI_add]
      have stp : (∀ p : Nat, (p : Int) < (hI g 63 3).toInt → roO g s p = r → ∃ q : Nat, (q : Int) < (hI g 63 3).toInt ∧ roO g s q = r ∧ anF (frP g w n pi pj s) q i j) → LX8_suits_70 l E (d + 1) bc bs st o sh b c (hI h3 st 2 ||| hI h3 st 3) (nI (r + 1)) h3 K := fun q => ih (r + 1) (by omega) (by omega) (fun r' a1 a2 => (show r' < r ∨ r' = r by omega).elim (hg r' a1) (fun e => by rw [e]; exact q))
      refine ⟨vp_in_nI (by omega) (by omega), fun q => stp (fun p hp hr' => ?_), fun q => ⟨fun q2 => stp (fun p hp hr' => ?_), fun q2 => k0 h3 c3 (fun x => ?_)⟩⟩
      · have := (ro r p (by omega) (by omega) (by omega)).mpr hr'
        rw [q, bt_0] at this
        cases this
      · obtain ⟨p2, hp2, e2⟩ := sm_ne (sm_and (hro r (by omega)).1) q2
        rw [bt_and, Bool.and_eq_true] at e2
        have x1 := (ro r p2 (by omega) (by omega) hp2).mp e2.1
        exact ⟨p2, ev_lt V.1.2 hs hp2 (Or.inl (by omega)), x1, ((fr p2 hp2).mp e2.2).2⟩
      · obtain ⟨p2, hp2, e2⟩ := sm_ne (hro r (by omega)).1 q
        have x1 := (ro r p2 (by omega) (by omega) hp2).mp e2
        obtain ⟨p3, hp3, x2, x3⟩ := x.2.2.2.2.2.2 r (by omega) (by omega) p2 (ev_lt V.1.2 hs hp2 (Or.inl (by omega))) x1
        have e3 := (ro r p3 (by omega) (by omega) (by omega)).mpr x2
        have e4 := (fr p3 (by omega)).mpr ⟨(hW p3 (by omega)).mpr (Or.inl (by omega)), x3⟩
        have : bt (hA g (o + 2) r &&& (hI h3 st 2 ||| hI h3 st 3)) p3 = true := by rw [bt_and, e3, e4]; rfl
        rw [q2, bt_0] at this
        cases this
  exact lp 3 3 (by omega) (by omega) (fun r' a1 a2 => by omega)
/-- Seating.priceFor -/
theorem k_priceFor {l : Launch} {E : eE} {d bc bs : Nat} {h : aH} {K : Int32 → aH → Prop} {g : aH} {w n s sh st p : Nat} {i j : Int32} {W : Nat → Prop} {F : Nat → Nat → Prop} (S : SH h) (ri : RI g) (hs : (s : Int) < (hI g 63 14).toInt) (hsh : isSh sh) (hd : 1 ≤ d) (hp : p < 12) (ok : okP g s i j) (hF : ∀ q x, F q x → ablO g w n s q x) (so : ShO g h w n s sh W i.toNatClampNeg) (so2 : ¬ j = -1 → ShO g h w n s sh W j.toNatClampNeg) (st3 : StO g h w n s st W F i j) (k : K (pcO g w n s p i j (W p ∧ coF g w n s F p i j 0) (W p ∧ coF g w n s F p i j 1)) h) : CI l E d bc bs mX8_priceFor [.inr (some (0, 8, st)), .inr (some (0, 10, sh)), .inl (nI p)] h K := by
  obtain ⟨d, rfl⟩ : ∃ d', d = d' + 1 := ⟨d - 1, by omega⟩
  obtain ⟨⟨t0, t1⟩, -, -, ⟨-, t4⟩, ⟨-, t5⟩⟩ := st3
  obtain ⟨i', ei, ci, hi6, hi, okj⟩ := ok.c ri hs
  have z0 : ∀ y : Int32, nI 0 + y = y := Int32.zero_add
  have p4 : bt (hI h st 4) p = true → hA h (sh + 3) (12 * i' + p) = prO g w n s p i.toNatClampNeg := fun q => by
    have q := (t4 p hp).mp q
    have := so.2.2.2 p hp ((so.2.2.1 p hp).mpr ⟨q.1, hF _ _ q.2.2.1⟩)
    rw [ci] at this ⊢
    exact this
  have p5 : bt (hI h st 5) p = true → ∃ j' : Nat, j = nI j' ∧ j' < 6 ∧ hA h (sh + 3) (12 * j' + p) = prO g w n s p j.toNatClampNeg := fun q => by
    have q := (t5 p hp).mp q
    have nj : ¬ j = -1 := q.2.1
    rcases okj with okj | ⟨hch, -, j', ej, cj, hj6, hij, hj⟩
    · exact absurd okj.2 nj
    have so2 := so2 nj
    have := so2.2.2.2 p hp ((so2.2.2.1 p hp).mpr ⟨q.1, hF _ _ q.2.2.2.1⟩)
    rw [cj] at this ⊢
    exact ⟨j', ej, hj6, this⟩
  have t4 := t4 p hp
  have t5 := t5 p hp
  have k : K ((if bt (hI h st 4) p then prO g w n s p i.toNatClampNeg else nI 0) + (if bt (hI h st 5) p then prO g w n s p j.toNatClampNeg else nI 0)) h := by
    unfold pcO at k
    have e1 : ∀ {t : Prop} {b : Bool} {x y : Int32}, (b = true ↔ t) → (if (Classical.propDecidable t).decide then x else y) = (if b then x else y) := fun {t b x y} q => by
      by_cases c : t
      · rw [if_pos (dec_t c), if_pos (q.mpr c)]
      · rw [if_neg (dec_f c), if_neg (fun z => c (q.mp z))]
    rw [e1 t4, e1 t5] at k
    exact k
  have ic : (nI i' * nI 12 + nI p).toNatClampNeg = 12 * i' + p := by rw [ix2 (by omega)]; omega
  refine bX8_priceFor_0 S hsh (k_isIn S (by omega) ⟨S, ?_⟩)
  rw [t0, ei, ic]
  cases e4 : bt (hI h st 4) p with
  | false =>
    rw [e4] at k
    refine ⟨fun _ => k_isIn S (by omega) ⟨S, ?_⟩, fun z => absurd rfl z⟩
    cases e5 : bt (hI h st 5) p with
    | false => rw [e5] at k; exact ⟨fun _ => by simpa [show nI 0 + nI 0 = nI 0 by decide] using k, fun z => absurd rfl z⟩
    | true =>
      rw [e5] at k
      obtain ⟨j', ej, hj6, x⟩ := p5 e5
      refine ⟨fun z => absurd z (by decide), fun _ => ?_⟩
      rw [t1, ej, ix2 (by omega), show j' * 12 + p = 12 * j' + p by omega, x]
      exact ⟨vp2 (by omega) (by omega), by simpa using k⟩
  | true =>
    rw [e4] at k
    refine ⟨fun z => absurd z (by decide), fun _ => ⟨vp2 (by omega) (by omega), k_isIn S (by omega) ⟨S, ?_⟩⟩⟩
    rw [p4 e4]
    cases e5 : bt (hI h st 5) p with
    | false => rw [e5] at k; exact ⟨fun _ => by simpa [show ∀ y : Int32, y + nI 0 = y from Int32.add_zero] using k, fun z => absurd rfl z⟩
    | true =>
      rw [e5] at k
      obtain ⟨j', ej, hj6, x⟩ := p5 e5
      refine ⟨fun z => absurd z (by decide), fun _ => ?_⟩
      rw [t1, ej, ix2 (by omega), show j' * 12 + p = 12 * j' + p by omega, x]
      exact ⟨vp2 (by omega) (by omega), by simpa using k⟩
