/-! ===== the class: comes, sum ===== -/
theorem bt_p0 {p0 : Nat} (h0 : p0 < 12) : ∀ p, p < 12 → ((p = p0) ↔ bt (nI 1 <<< (nI p0 &&& 31)) p = true) := fun p hp => by
  rw [bt_pow (by omega) (by omega), decide_eq_true_iff]
theorem tbW_iff {g : aH} (S : RI g) {w n s p b : Nat} (hs : (s : Int) < (hI g 63 14).toInt) (hp : (p : Int) < (hI g 63 3).toInt) (hb : b < 2) (c : ¬ pI g w s = -1) : tbW g w n s p b ↔ (evO g s p ∧ coF g w n s (frP g w n (pI g w) (pJ g w) s) p (pI g w s) (pJ g w s) b) := by
  show tbO g w n (pI g w) (pJ g w) (s + 1) s p b ↔ _
  rw [tbO_in (Nat.lt_succ_self s)]
  refine ⟨fun z => ⟨?_, z.2.2.2⟩, fun z => ⟨c, hp, hb, z.2⟩⟩
  cases b with
  | zero => exact z.2.2.2.1.imp id (fun y => y.2)
  | succ b => exact z.2.2.2.2.1
theorem k_comes {l : Launch} {E : eE} {d bc bs : Nat} {h : aH} {K : Int32 → aH → Prop} {x1 x2 x3 x4 : Int32} (V : LW h) (hd : 8 ≤ d) (k : ∀ h', KS h h' → K (comV h x1 x2 x3 x4) h') : CI l E d bc bs mX11_comes [.inr (some (0, 11, 0)), .inl x1, .inl x2, .inl x3, .inl x4] h K := by
  obtain ⟨d, rfl⟩ : ∃ d', d = d' + 1 := ⟨d - 1, by omega⟩
  have hN := V.1.2.1
  unfold RIn at hN
  have S := V.1.1
  have no : ¬ comOK h x1 x2 x3 x4 → K (-1) h := fun q => by
    have := k h (KS.rf h)
    unfold comV at this
    rw [if_neg q] at this
    exact this
  refine bX11_comes_0 S (k_seriesAt V.sk V.2.1.2.1 (fun c => ⟨S, fun _ => no (fun q => c q.2.1), fun _ e => by cases e⟩) (fun s o e hs hl => ⟨S, fun e => (by cases e), fun _ _ => k_personAt V.sk (fun c => ⟨S, fun _ => no (fun q => c q.1), fun _ e => by cases e⟩) (fun p po pa e1 hp hpe => ⟨S, fun e => (by cases e), fun _ _ => k_isWeek S ⟨S, fun c1 => no (fun q => bI0.mp c1 q.2.2.1), fun c1 => k_isKnown V.sk ⟨S, fun c2 => no (fun q => bI0.mp c2 q.2.2.2.1), fun c2 => ⟨o, rfl, o + 3, hl.1.1.2.2.2.2.2.2.2.2, ?_⟩⟩⟩⟩)⟩))
  rw [bI1] at c1 c2
  have e3 := i32_nn c1.1
  have n3 := i32_clamp c1.1
  have e4 := i32_nn c2.1
  have n4 := i32_clamp c2.1
  have ec1 : x1.toNatClampNeg = p := by rw [e1, nI_clamp (by omega)]
  have ec2 : x2.toNatClampNeg = s := by rw [e, nI_clamp (by omega)]
  have hs1 : inI x2 (hI h 63 14) := by rw [e]; exact ⟨by rw [nI_toInt (by omega)]; omega, by rw [nI_toInt (by omega)]; exact hs⟩
  have hp1 : inI x1 (hI h 63 3) := by rw [e1]; exact rng_p hp hN.2.1.2
  have yes : ∀ v h', ¬ pI h x3.toNatClampNeg s = -1 → KS h h' → v = cmV (tbW h x3.toNatClampNeg x4.toNatClampNeg s p 0) (tbW h x3.toNatClampNeg x4.toNatClampNeg s p 1) → K v h' := fun v h' q mo ev => by
    have := k h' mo
    unfold comV comOK at this
    rw [ec1, ec2, if_pos ⟨hp1, hs1, c1, c2, q⟩] at this
    rw [ev]; exact this
  have no5 : pI h x3.toNatClampNeg s = -1 → K (-1) h := fun z => no (fun q => by
    have := q.2.2.2.2
    rw [ec2] at this
    exact this z)
  generalize x3.toNatClampNeg = w at *
  generalize x4.toNatClampNeg = n at *
  subst e3 e4 e1
  have ho := SeAt.o hl
  have hw : w < 52 := by omega
  obtain ⟨g1, g2, g3⟩ := (hl.1.2.2.2.1 w hw).ok
  refine ⟨vp_in_nI (by omega) (by omega), ?_⟩
  refine ⟨fun c => ?_, fun c => no5 (g1.mp c)⟩
  have ni : ¬ pI h w s = -1 := fun z => c (g1.mpr z)
  have lp : ∀ (j r : Nat) (h1 : aH), r + j = s + 1 → BdS h h1 w n (fun q => q = p) r → (r = s + 1 → SeL h h1 w n s (nI 1 <<< (nI p &&& 31))) → LX11_comes_59 l E (d + 1) bc bs (nI p) x2 (nI w) (nI n) (some (0, 9, o)) (nI r) h1 K := by
    intro j
    induction j with
    | zero =>
      intro r h1 hr B L
      have hr : r = s + 1 := by omega
      subst hr
      have S1 := (B.1.lv V).1.1
      obtain ⟨W, hW, so, so2, ⟨-, -, -, ⟨-, t4⟩, ⟨-, t5⟩⟩⟩ := L rfl
      have hWp : W p ↔ evO h s p := by rw [hW p (by omega), ← bt_p0 (by omega) p (by omega)]; exact ⟨fun z => z.2, fun z => ⟨rfl, z⟩⟩
      have t4 := t4 p (by omega)
      have t5 := t5 p (by omega)
      rw [hWp, ← tbW_iff V.1.2 hs hp (by decide) ni] at t4 t5
      refine bX11_comes_59 S1 ⟨o, rfl, fun _ => k_isIn S1 (by omega) ⟨S1, fun z => k_isIn S1 (by omega) ⟨S1, fun y => ?_, fun y => ?_⟩, fun z => k_isIn S1 (by omega) ⟨S1, fun y => ?_, fun y => ?_⟩⟩, fun z => absurd ?_ z⟩
      all_goals try
        have q4 : ∀ {b : Bool}, (if b = true then nI 1 else nI 0) = 0 ↔ ¬ b = true := fun {b} => by cases b <;> simp <;> decide
        rw [q4] at z y
      · exact yes _ _ ni B.1 (by rw [cm00 (fun x => z (t4.mpr x)) (fun x => y (t5.mpr x))]; decide)
      · have y := Classical.not_not.mp y
        exact yes _ _ ni B.1 (by rw [cm01 (fun x => z (t4.mpr x)) (t5.mp y)]; decide)
      · have z := Classical.not_not.mp z
        exact yes _ _ ni B.1 (by rw [cm10 (t4.mp z) (fun x => y (t5.mpr x))]; decide)
      · have z := Classical.not_not.mp z
        have y := Classical.not_not.mp y
        exact yes _ _ ni B.1 (by rw [cm11 (t4.mp z) (t5.mp y)])
      · rw [B.1.2.2.2.2.1 o (by omega), hl.1.1.2.1]
        exact nI_lt (by omega) (by omega)
    | succ j ih =>
      intro r h1 hr B L
      have S1 := (B.1.lv V).1.1
      refine bX11_comes_59 S1 ⟨o, rfl, fun z => absurd z ?_, fun _ => k_seatP V (by omega) (by omega) hw (by omega) B (bt_p0 (by omega)) (fun cc h9 B9 => ⟨(B9.1.lv V).1.1, ?_⟩) (fun cc h9 B9 L9 => ⟨(B9.1.lv V).1.1, ?_⟩)⟩
      · rw [B.1.2.2.2.2.1 o (by omega), hl.1.1.2.1]
        exact nI_nlt (by omega) (by omega)
      · rw [nI_add]
        exact ih (r + 1) h9 (by omega) B9 (fun z => absurd cc (by rw [show r = s by omega]; exact ni))
      · rw [nI_add]
        exact ih (r + 1) h9 (by omega) B9 (fun z => by rw [show r = s by omega] at L9; exact L9)
  exact k_clear (g := h) (w := w) (pi := pI h w) (pj := pJ h w) S bd21 (by omega) (fun h1 c1 b1 e1 z1 => ⟨c1.sh S, lp (s + 1) 0 h1 (by omega) ⟨bdA.ks bd21 c1, b1 _ _, e1, z1⟩ (fun z => by omega)⟩)
theorem k_sum {l : Launch} {E : eE} {d bc bs : Nat} {h : aH} {K : Int32 → aH → Prop} {x1 x2 : Int32} (V : LW h) (hd : 8 ≤ d) (k : ∀ h', KS h h' → K (sumV h x1 x2) h') : CI l E d bc bs mX11_sum [.inr (some (0, 11, 0)), .inl x1, .inl x2] h K := by
  obtain ⟨d, rfl⟩ : ∃ d', d = d' + 1 := ⟨d - 1, by omega⟩
  have hN := V.1.2.1
  unfold RIn at hN
  have S := V.1.1
  have no : ¬ (inI x1 (hI h 63 3) ∧ (0 ≤ x2.toInt ∧ x2.toInt ≤ (hI h 63 8).toInt)) → K (-1) h := fun q => by
    have := k h (KS.rf h)
    unfold sumV at this
    rw [if_neg q] at this
    exact this
  refine bX11_sum_0 S (k_personAt V.sk (fun c => ⟨S, fun _ => no (fun q => c q.1), fun _ e => by cases e⟩) (fun p po pa e1 hp hpe => ⟨S, fun e => (by cases e), fun _ _ => k_isKnown V.sk ⟨S, fun c2 => ?_, fun c2 => no (fun q => bI0.mp c2 q.2)⟩⟩))
  rw [bI1] at c2
  have e4 := i32_nn c2.1
  have n4 := i32_clamp c2.1
  have ec1 : x1.toNatClampNeg = p := by rw [e1, nI_clamp (by omega)]
  have hp1 : inI x1 (hI h 63 3) := by rw [e1]; exact rng_p hp hN.2.1.2
  have k3 : ∀ h', KS h h' → K (suW h x2.toNatClampNeg p (hI h 63 14).toNatClampNeg 52) h' := fun h' mo => by
    have := k h' mo
    unfold sumV at this
    rw [if_pos ⟨hp1, c2⟩, ec1] at this
    exact this
  have n3 := i32_clamp hN.2.2.2.1
  have e3 := i32_nn hN.2.2.2.1
  generalize x2.toNatClampNeg = n at *
  generalize (hI h 63 14).toNatClampNeg = ns at *
  subst e4 e1
  have w2 : ∀ (j w : Nat) (h1 : aH), w + j = 52 → KS h h1 → LX11_sum_23 l E (d + 1) bc bs (nI p) (nI n) (suW h n p ns w) (nI w) h1 K := by
    intro j
    induction j with
    | zero =>
      intro w h1 hw ks
      have hw : w = 52 := by omega
      subst hw
      exact bX11_sum_23 (ks.lv V).1.1 ⟨fun _ => k3 h1 ks, fun c => absurd (nI_le (Nat.le_refl 52) (by omega)) c⟩
    | succ j ih =>
      intro w h1 hw ks
      have ih := ih (w + 1)
      have S1 := (ks.lv V).1.1
      have lp : ∀ (b r : Nat) (h2 : aH), r + b = ns → BdS h h2 w n (fun q => q = p) r → LX11_sum_40 l E (d + 1) bc bs (nI p) (nI n) (suS h w n p (suW h n p ns w) r) (nI w) (nI r) h2 K := by
        intro b
        induction b with
        | zero =>
          intro r h2 hr B
          have hr : r = ns := by omega
          subst hr
          have V2 := B.1.lv V
          have e12 : hI h2 0 12 = nI r := by rw [V2.2.1.1.1.2.2.2, B.1.re.1, e3]
          refine bX11_sum_40 V2.1.1 ⟨fun _ => ?_, fun c => absurd ?_ c⟩
          · rw [nI_add]
            exact ih h2 (by omega) B.1
          · rw [e12]; exact nI_le (Nat.le_refl r) (by omega)
        | succ b ihb =>
          intro r h2 hr B
          have ihb := ihb (r + 1)
          unfold suS at ihb
          have V2 := B.1.lv V
          have e12 : hI h2 0 12 = nI ns := by rw [V2.2.1.1.1.2.2.2, B.1.re.1, e3]
          refine bX11_sum_40 V2.1.1 ⟨fun c => absurd c ?_, fun _ => k_seatP V (by omega) (by omega) (by omega) (by omega) B (bt_p0 (by omega)) (fun cc h9 B9 => ⟨(B9.1.lv V).1.1, fun _ => ?_, fun z => absurd rfl z⟩) (fun cc h9 B9 L9 => ⟨(B9.1.lv V).1.1, fun z => absurd z (by decide), fun _ => ⟨vp_in_nI (by omega) (by omega), 5 + 4 * r, by rw [nI_clamp (by omega)]; exact shId (B9.1.lv V).1.1 (by omega), isSh_at (by omega), ?_⟩⟩)⟩
          · rw [e12]; exact nI_ge (by omega) (by omega)
          · rw [nI_add]
            have := ihb h9 (by omega) B9
            rw [pcW_no cc, z_add0] at this
            exact this
          · obtain ⟨W, hW, so, so2, st⟩ := L9
            have hWp : W p ↔ evO h r p := by rw [hW p (by omega), ← bt_p0 (by omega) p (by omega)]; exact ⟨fun z => z.2, fun z => ⟨rfl, z⟩⟩
            obtain ⟨ok, -, -⟩ := RPl.in V.1.2 (s := r) (by omega) (show w < 52 by omega) cc
            refine k_priceFor (B9.1.lv V).1.1 V.1.2 (by omega) (isSh_at (by omega)) (by omega) (by omega) ok (fun q x y => y.1) so so2 st ⟨(B9.1.lv V).1.1, ?_⟩
            rw [nI_add]
            have := ihb h9 (by omega) B9
            rw [show pcW h w n r p = pcO h w n r p (pI h w r) (pJ h w r) (W p ∧ coF h w n r (frP h w n (pI h w) (pJ h w) r) p (pI h w r) (pJ h w r) 0) (W p ∧ coF h w n r (frP h w n (pI h w) (pJ h w) r) p (pI h w r) (pJ h w r) 1) by
              show pcO _ _ _ _ _ _ _ (tbW h w n r p 0) (tbW h w n r p 1) = _
              rw [propext (tbW_iff V.1.2 (by omega) hp (by decide) cc), propext (tbW_iff (b := 1) V.1.2 (by omega) hp (by decide) cc), hWp]] at this
            exact this
      exact bX11_sum_23 S1 ⟨fun c => absurd c (nI_ge (by omega) (by omega)), fun _ => k_clear (g := h) (w := w) (pi := pI h w) (pj := pJ h w) S1 bd21 (by omega) (fun h2 c2 b2 e2 z2 => ⟨c2.sh S1, lp ns 0 h2 (by omega) ⟨ks.tr (bdA.ks bd21 c2), b2 _ _, e2, z2⟩⟩)⟩
  exact w2 52 0 h (by omega) (KS.rf h)
