/-! ===== the reference: move ===== -/
theorem m1_p1 (q : Nat) : nI q + (-1) + nI 1 = nI q := by
  rw [Int32.add_assoc, show (-1 : Int32) + nI 1 = 0 from by decide, Int32.add_zero]
theorem mvD_up {g : aH} {w n r c : Nat} {v : Nat → Nat} (S : RI g) (hr : (r : Int) < (hI g 63 14).toInt) (hp : ¬ pI g w r = -1) (hc : c ∈ clO g r) : mvD g w n (upN v r c) r ↔ ftO g w (mvI g w v) (mvJ g w v) r (mvF g w n v r) (fO (hA g 76 r) (nI c)) (sO (hA g 76 r) (nI c)) := by
  have e : ∀ x, x < r → upN v r c x = v x := fun x hx => by unfold upN; rw [if_neg (by omega)]
  have er : upN v r c r = c := by unfold upN; rw [if_pos rfl]
  have hse := (S.2.2.2.2.2.1 r hr).2.1
  have hb : ∀ i, bhO g w (mvI g w (upN v r c)) (mvJ g w (upN v r c)) r i ↔ bhO g w (mvI g w v) (mvJ g w v) r i := fun i => by
    unfold bhO
    rcases hse with c | c
    · exact ⟨fun _ => Or.inl c, fun _ => Or.inl c⟩
    · have := i32_clamp c.1
      obtain ⟨f1, f2⟩ := mv_c (g := g) (w := w) (e (hA g 75 r).toNatClampNeg (by omega))
      rw [f1, f2]
  unfold mvD
  rw [mvF_c e, er]
  have ei : mvI g w (upN v r c) r = fO (hA g 76 r) (nI c) := by unfold mvI; rw [if_neg hp, er]
  have ej : mvJ g w (upN v r c) r = sO (hA g 76 r) (nI c) := by unfold mvJ; rw [if_neg hp, er]
  rw [ei, ej]
  unfold ftO
  rw [hb, hb]
  exact ⟨fun z => z.2, fun z => ⟨hc, z⟩⟩
theorem MC.up {g h : aH} {w n r c : Nat} {v : Nat → Nat} (m : MC g h w n (mvI g w v) (mvJ g w v) r) : MC g h w n (mvI g w (upN v r c)) (mvJ g w (upN v r c)) r := by
  have e : ∀ x, x < r → upN v r c x = v x := fun x hx => by unfold upN; rw [if_neg (by omega)]
  refine ⟨fun x hx => ?_, fun x p hx hp => ?_⟩
  · obtain ⟨f1, f2⟩ := mv_c (g := g) (w := w) (e x hx)
    rw [f1, f2]; exact m.1 x hx
  · rw [m.2 x p hx hp, tbO_c (x + 1) (fun y hy => mv_c (g := g) (w := w) (e y (by omega)))]
theorem w_mdfs {l : Launch} {E : eE} {d bc bs : Nat} {h : aH} {K : Int32 → aH → Prop} {g h0 : aH} {w n ns np : Nat} {x1 x2 : Int32} (C : MvC g w n ns np h0) (hd : 5 ≤ d) : ∀ (j r : Nat) (h : aH) (x3 x5 : Int32) (al v : Nat → Nat) (B : Option (Nat → Nat)), r + j = ns → MvS g w n ns np h0 h al v r x3 B →
    (∀ h' x3' x5', MvS g w n ns np h0 h' al v r x3' (dfM g w n ns np j r v B) → LX12_move_126 l E (d + 1) bc bs x1 x2 x3' (nI r + (-1)) x5' h' K) →
    LX12_move_126 l E (d + 1) bc bs x1 x2 x3 (nI r) x5 h K := by
  have m0 := C.1
  have hns := C.2.1
  have hg0 := m0.rg
  have ns4 : ns ≤ 4 := by omega
  have ens : hI g 63 14 = nI ns := by rw [i32_nn hg0.2.2.1.1, show (hI g 63 14).toNatClampNeg = ns by have := i32_clamp hg0.2.2.1.1; omega]
  have ensH : ∀ {h'}, MvF h0 h' → hI h' 63 14 = nI ns := fun f => by rw [(f.mw m0).rg.2.2.2.2.2, ens]
  intro j
  induction j with
  | zero =>
    intro r h x3 x5 al v B hr st kont
    have hr : r = ns := by omega
    subst hr
    exact w_mleaf C (by omega) st (fun h' x3' x5' st' => kont h' x3' x5' st')
  | succ j ih =>
    intro r h x3 x5 al v B hr st kont
    have hrn : (r : Int) < (hI g 63 14).toInt := by omega
    obtain ⟨w1, w2⟩ := C.2.2.2.2 r (by omega)
    have was : ∀ {h'}, MvF h0 h' → hA h' 97 r = pI g w r := fun f => by rw [f.2.2 97 (by unfold mvA; omega), w1]
    have nr : ¬ nI r = nI ns := fun z => by have := nI_inj (by omega) (by omega) z; omega
    by_cases pl : pI g w r = -1
    · -- not planned: nothing to choose
      have e : dfM g w n ns np (j + 1) r v B = dfM g w n ns np j (r + 1) v B := by
        show (if pI g w r = -1 then _ else _) = _
        rw [if_pos pl]
      rw [e] at kont
      obtain ⟨mf, mc, a1, a2, mn, mb⟩ := st
      have m := mf.mw m0
      obtain ⟨n1, n2, n3⟩ := mn r (by omega) pl
      have mfa := mf.sa (a := 95) r (nI 0) (by unfold mvA; omega)
      refine bX12_move_126 m.1 ⟨fun c => absurd c (nI_pos (by omega)), fun _ => ⟨fun _ => ?_, fun c => absurd (by rw [ensH mf] at c; exact c) nr⟩⟩
      rw [nI_clamp (n := r) (by omega), was mf, a1 r (Nat.le_refl r) (by omega), show hA (stA h 95 r (nI 0)) 95 r = nI 0 from if_pos ⟨rfl, rfl⟩, nI_add r 1]
      refine ⟨vp_in_nI (by omega) (by omega), fun c => absurd pl c, fun _ => ⟨fun c => absurd rfl c, fun _ => ⟨fun c => absurd rfl c, fun _ => ?_⟩⟩⟩
      have e81 : hA (stA h 95 r (nI 0)) 81 = hA h 81 := hA_stn _ _ _ _ (by decide)
      have e82 : hA (stA h 95 r (nI 0)) 82 = hA h 82 := hA_stn _ _ _ _ (by decide)
      have e83 : hA (stA h 95 r (nI 0)) 83 = hA h 83 := hA_stn _ _ _ _ (by decide)
      have mvr : mvI g w v r = -1 ∧ mvJ g w v r = -1 := by unfold mvI mvJ; rw [if_pos pl, if_pos pl]; exact ⟨rfl, rfl⟩
      refine ih (r + 1) _ x3 x5 al v B (by omega) ⟨mfa, ⟨fun x hx => ?_, fun x p hx hp => ?_⟩, fun x h1 h2 => ?_, fun x hx => ?_, ?_, ?_⟩ (fun h' x3' x5' st' => ?_)
      · rw [e81, e82]
        by_cases y : x = r
        · rw [y, n1, n2, mvr.1, mvr.2]; exact ⟨rfl, rfl, Or.inl ⟨rfl, rfl⟩⟩
        · exact mc.1 x (by omega)
      · rw [e83]
        by_cases y : x = r
        · rw [y, n3 p hp, cm00 (fun t => tbI t mvr.1) (fun t => tbI t mvr.1)]
        · exact mc.2 x p (by omega) hp
      · rw [hA_st, if_neg (by omega)]; exact a1 x (by omega) h2
      · rw [hA_st]
        by_cases y : x = r
        · rw [if_pos ⟨rfl, y⟩, y]
          exact ⟨fun _ => rfl, fun t => absurd pl t⟩
        · rw [if_neg (fun z => y z.2)]; exact a2 x (by omega)
      · unfold MvN; rw [e81, e82, e83]; exact mn
      · unfold MvB
        rw [hA_stn _ _ _ _ (by decide), hA_stn _ _ _ _ (by decide)]; exact mb
      · -- back
        obtain ⟨mf', mc', b1, b2, mn', mb'⟩ := st'
        have at0 := (b2 r (by omega)).1 pl
        rw [nI_pm r]
        refine bX12_move_126 (mf'.mw m0).1 ⟨fun c => absurd c (nI_pos (by omega)), fun _ => ⟨fun _ => ?_, fun c => absurd (by rw [ensH mf'] at c; exact c) nr⟩⟩
        rw [nI_clamp (n := r) (by omega), was mf', at0, hA_st, hA_st, if_pos ⟨rfl, rfl⟩, if_pos ⟨rfl, rfl⟩]
        refine ⟨vp_in_nI (by omega) (by omega), fun c => absurd pl c, fun _ => ⟨fun _ => ⟨fun _ => kont _ x3' x5' ⟨mf'.sa r _ (by unfold mvA; omega), ⟨fun x hx => ?_, fun x p hx hp => ?_⟩, fun x h1 h2 => ?_, fun x hx => ?_, ?_, ?_⟩, fun c => absurd c (by decide)⟩, fun c => absurd c (by decide)⟩⟩
        · rw [hA_stn _ _ _ _ (by decide), hA_stn _ _ _ _ (by decide)]; exact mc'.1 x (by omega)
        · rw [hA_stn _ _ _ _ (by decide)]; exact mc'.2 x p (by omega) hp
        · rw [hA_st]
          by_cases y : x = r
          · rw [if_pos ⟨rfl, y⟩]
          · rw [if_neg (fun z => y z.2)]; exact b1 x (by omega) h2
        · rw [hA_st, if_neg (by omega)]; exact b2 x (by omega)
        · unfold MvN
          rw [hA_stn _ _ _ _ (by decide), hA_stn _ _ _ _ (by decide), hA_stn _ _ _ _ (by decide)]; exact mn'
        · unfold MvB
          rw [hA_stn _ _ _ _ (by decide), hA_stn _ _ _ _ (by decide)]; exact mb'
    · -- planned: all its choices
      have lsr := C.2.2.2.1 r (by omega)
      have hl15 : (clO g r).length ≤ 15 := cls_len (by have := op6 m0.2.1 hrn; have := i32_clamp this.1; omega)
      have e : dfM g w n ns np (j + 1) r v B = fN (fun q B => if (Classical.propDecidable (mvD g w n (upN v r ((clO g r).getD q 0)) r)).decide then dfM g w n ns np j (r + 1) (upN v r ((clO g r).getD q 0)) B else B) (clO g r).length B := by
        show (if pI g w r = -1 then _ else _) = _
        rw [if_neg pl]
        exact fl_all (f := fun c B => if (Classical.propDecidable (mvD g w n (upN v r c) r)).decide then dfM g w n ns np j (r + 1) (upN v r c) B else B) (clO g r)
      rw [e] at kont
      have lp : ∀ (b q : Nat) (h : aH) (x3 x5 : Int32), q + b = (clO g r).length → MvF h0 h → MvS g w n ns np h0 (stA h 95 r (-1)) al v r x3 (fN (fun q B => if (Classical.propDecidable (mvD g w n (upN v r ((clO g r).getD q 0)) r)).decide then dfM g w n ns np j (r + 1) (upN v r ((clO g r).getD q 0)) B else B) q B) → hA h 95 r = nI q + (-1) → LX12_move_126 l E (d + 1) bc bs x1 x2 x3 (nI r) x5 h K := by
        intro b
        induction b with
        | zero =>
          intro q h x3 x5 hq mf st ea
          have hq : q = (clO g r).length := by omega
          refine bX12_move_126 (mf.mw m0).1 ⟨fun c => absurd c (nI_pos (by omega)), fun _ => ⟨fun _ => ?_, fun c => absurd (by rw [ensH mf] at c; exact c) nr⟩⟩
          rw [nI_clamp (n := r) (by omega), was mf, ea, m1_p1, hA_st, if_pos ⟨rfl, rfl⟩, mf.2.2 87 (by unfold mvA; omega), show hA h0 87 r = nI q from lsr.1.trans (by rw [hq])]
          refine ⟨vp_in_nI (by omega) (by omega), fun _ => ⟨fun c => absurd rfl c, fun _ => ?_⟩, fun c => absurd c pl⟩
          have : stA (stA h 95 r (nI q)) 95 r (-1) = stA h 95 r (-1) := by
            rw [stA_AA h 95 r (nI q), stA_stAA, stA_AA h]
            refine stAA_eq (fun y => ?_)
            by_cases z : y = r
            · rw [if_pos z, if_pos z]
            · rw [if_neg z, if_neg z, if_neg z]
          rw [this]
          rw [hq] at st
          exact kont _ x3 x5 st
        | succ b ihb =>
          intro q h x3 x5 hq mf st ea
          have hql : q < (clO g r).length := by omega
          have hcm : (clO g r).getD q 0 ∈ clO g r := mem_cl.mpr ⟨q, hql, rfl⟩
          obtain ⟨mfs, mc, a1, a2, mn, mb⟩ := st
          have mcH : MC g (stA h 95 r (nI q)) w n (mvI g w v) (mvJ g w v) r := by
            unfold MC at mc ⊢
            rw [hA_stn _ _ _ _ (by decide), hA_stn _ _ _ _ (by decide), hA_stn _ _ _ _ (by decide)] at mc ⊢
            exact mc
          have mf1 := mf.sa (a := 95) r (nI q) (by unfold mvA; omega)
          have m1 := mf1.mw m0
          have ls1 : LsO g (stA h 95 r (nI q)) r := lsr.ar (mf1.2.2 85 (by unfold mvA; omega)) (mf1.2.2 86 (by unfold mvA; omega)) (mf1.2.2 87 (by unfold mvA; omega))
          have up := mvD_up (w := w) (n := n) (v := v) m0.2.1 hrn pl hcm
          refine bX12_move_126 (mf.mw m0).1 ⟨fun c => absurd c (nI_pos (by omega)), fun _ => ⟨fun _ => ?_, fun c => absurd (by rw [ensH mf] at c; exact c) nr⟩⟩
          rw [nI_clamp (n := r) (by omega), was mf, ea, m1_p1, hA_st, if_pos ⟨rfl, rfl⟩, mf.2.2 87 (by unfold mvA; omega), show hA h0 87 r = nI (clO g r).length from lsr.1, nI_add r 1]
          have fNs : fN (fun q B => if (Classical.propDecidable (mvD g w n (upN v r ((clO g r).getD q 0)) r)).decide then dfM g w n ns np j (r + 1) (upN v r ((clO g r).getD q 0)) B else B) (q + 1) B = (if (Classical.propDecidable (mvD g w n (upN v r ((clO g r).getD q 0)) r)).decide then dfM g w n ns np j (r + 1) (upN v r ((clO g r).getD q 0)) (fN (fun q B => if (Classical.propDecidable (mvD g w n (upN v r ((clO g r).getD q 0)) r)).decide then dfM g w n ns np j (r + 1) (upN v r ((clO g r).getD q 0)) B else B) q B) else fN (fun q B => if (Classical.propDecidable (mvD g w n (upN v r ((clO g r).getD q 0)) r)).decide then dfM g w n ns np j (r + 1) (upN v r ((clO g r).getD q 0)) B else B) q B) := by rw [fN]
          have ih2 := ihb (q + 1)
          rw [fNs] at ih2
          generalize fN (fun q B => if (Classical.propDecidable (mvD g w n (upN v r ((clO g r).getD q 0)) r)).decide then dfM g w n ns np j (r + 1) (upN v r ((clO g r).getD q 0)) B else B) q B = Bq at *
          refine ⟨vp_in_nI (by omega) (by omega), fun _ => ⟨fun _ => c_takes m1 mcH ls1 (by omega) hrn hql (by rw [hA_st, if_pos ⟨rfl, rfl⟩]) rfl rfl (fun ft f84 f83 k83 k83r => ?_) (fun nf f84 => ?_), fun c => absurd (nI_inj (by omega) (by omega) c) (by omega)⟩, fun c => absurd c pl⟩
          · -- it fits: go on behind it
            have hD := up.mpr ft
            rw [if_pos (dec_t hD)] at ih2
            have v' : upN v r ((clO g r).getD q 0) r = (clO g r).getD q 0 := by unfold upN; rw [if_pos rfl]
            have mf2 : MvF h0 (stAA (stA (stA (stAA (stA h 95 r (nI q)) 84 f84) 81 r (fO (hA g 76 r) (nI ((clO g r).getD q 0)))) 82 r (sO (hA g 76 r) (nI ((clO g r).getD q 0)))) 83 f83) := (((mf1.aa (a := 84) f84 (by unfold mvA; omega)).sa (a := 81) r _ (by unfold mvA; omega)).sa (a := 82) r _ (by unfold mvA; omega)).aa (a := 83) f83 (by unfold mvA; omega)
            have r81 : ∀ x, hA (stAA (stA (stA (stAA (stA h 95 r (nI q)) 84 f84) 81 r (fO (hA g 76 r) (nI ((clO g r).getD q 0)))) 82 r (sO (hA g 76 r) (nI ((clO g r).getD q 0)))) 83 f83) 81 x = if x = r then fO (hA g 76 r) (nI ((clO g r).getD q 0)) else hA h 81 x := fun x => by
              rw [hA_AAn _ _ (by decide), hA_stn _ _ _ _ (by decide), hA_st]
              by_cases y : x = r
              · rw [if_pos ⟨rfl, y⟩, if_pos y]
              · rw [if_neg (fun z => y z.2), if_neg y, hA_AAn _ _ (by decide), hA_stn _ _ _ _ (by decide)]
            have r82 : ∀ x, hA (stAA (stA (stA (stAA (stA h 95 r (nI q)) 84 f84) 81 r (fO (hA g 76 r) (nI ((clO g r).getD q 0)))) 82 r (sO (hA g 76 r) (nI ((clO g r).getD q 0)))) 83 f83) 82 x = if x = r then sO (hA g 76 r) (nI ((clO g r).getD q 0)) else hA h 82 x := fun x => by
              rw [hA_AAn _ _ (by decide), hA_st]
              by_cases y : x = r
              · rw [if_pos ⟨rfl, y⟩, if_pos y]
              · rw [if_neg (fun z => y z.2), if_neg y, hA_stn _ _ _ _ (by decide), hA_AAn _ _ (by decide), hA_stn _ _ _ _ (by decide)]
            have r83 : hA (stAA (stA (stA (stAA (stA h 95 r (nI q)) 84 f84) 81 r (fO (hA g 76 r) (nI ((clO g r).getD q 0)))) 82 r (sO (hA g 76 r) (nI ((clO g r).getD q 0)))) 83 f83) 83 = f83 := hA_AA _ 83 f83
            have r95 : ∀ x, hA (stAA (stA (stA (stAA (stA h 95 r (nI q)) 84 f84) 81 r (fO (hA g 76 r) (nI ((clO g r).getD q 0)))) 82 r (sO (hA g 76 r) (nI ((clO g r).getD q 0)))) 83 f83) 95 x = if x = r then nI q else hA h 95 x := fun x => by
              rw [hA_AAn _ _ (by decide), hA_stn _ _ _ _ (by decide), hA_stn _ _ _ _ (by decide), hA_AAn _ _ (by decide), hA_st]
              by_cases y : x = r
              · rw [if_pos ⟨rfl, y⟩, if_pos y]
              · rw [if_neg (fun z => y z.2), if_neg y]
            have r90 : hA (stAA (stA (stA (stAA (stA h 95 r (nI q)) 84 f84) 81 r (fO (hA g 76 r) (nI ((clO g r).getD q 0)))) 82 r (sO (hA g 76 r) (nI ((clO g r).getD q 0)))) 83 f83) 90 = hA h 90 := by
              rw [hA_AAn _ _ (by decide), hA_stn _ _ _ _ (by decide), hA_stn _ _ _ _ (by decide), hA_AAn _ _ (by decide), hA_stn _ _ _ _ (by decide)]
            have r96 : hA (stAA (stA (stA (stAA (stA h 95 r (nI q)) 84 f84) 81 r (fO (hA g 76 r) (nI ((clO g r).getD q 0)))) 82 r (sO (hA g 76 r) (nI ((clO g r).getD q 0)))) 83 f83) 96 = hA h 96 := by
              rw [hA_AAn _ _ (by decide), hA_stn _ _ _ _ (by decide), hA_stn _ _ _ _ (by decide), hA_AAn _ _ (by decide), hA_stn _ _ _ _ (by decide)]
            have s83 : hA (stA h 95 r (nI q)) 83 = hA h 83 := hA_stn _ _ _ _ (by decide)
            generalize stAA (stA (stA (stAA (stA h 95 r (nI q)) 84 f84) 81 r (fO (hA g 76 r) (nI ((clO g r).getD q 0)))) 82 r (sO (hA g 76 r) (nI ((clO g r).getD q 0)))) 83 f83 = h2 at *
            have ei : mvI g w (upN v r ((clO g r).getD q 0)) r = fO (hA g 76 r) (nI ((clO g r).getD q 0)) := by unfold mvI; rw [if_neg pl, v']
            have ej : mvJ g w (upN v r ((clO g r).getD q 0)) r = sO (hA g 76 r) (nI ((clO g r).getD q 0)) := by unfold mvJ; rw [if_neg pl, v']
            have mcu := mcH.up (c := (clO g r).getD q 0)
            have mc81 : ∀ x, x < r → hA h 81 x = mvI g w (upN v r ((clO g r).getD q 0)) x ∧ hA h 82 x = mvJ g w (upN v r ((clO g r).getD q 0)) x ∧ okN g x (mvI g w (upN v r ((clO g r).getD q 0)) x) (mvJ g w (upN v r ((clO g r).getD q 0)) x) := fun x hx => by
              have := mcu.1 x hx
              rw [hA_stn _ _ _ _ (by decide), hA_stn _ _ _ _ (by decide)] at this
              exact this
            refine ⟨(mf2.mw m0).1, fun z => absurd z (by decide), fun _ => ih (r + 1) h2 x3 x5 (fun x => if x = r then q else al x) (upN v r ((clO g r).getD q 0)) Bq (by omega) ⟨mf2, ⟨fun x hx => ?_, fun x p hx hp => ?_⟩, fun x z1 z2 => ?_, fun x hx => ?_, fun x hx hn => ?_, ?_⟩ (fun h' x3' x5' st' => ?_)⟩
            · rw [r81, r82]
              by_cases y : x = r
              · rw [if_pos y, if_pos y, y, ei, ej]
                exact ⟨rfl, rfl, Or.inr (clO_ok m0.2.1 hrn hql).1⟩
              · rw [if_neg y, if_neg y]; exact mc81 x (by omega)
            · rw [r83]
              by_cases y : x = r
              · subst y
                rw [k83r p hp]
                have tt : ∀ b, b < 2 → (tbO g w n (mvI g w (upN v x ((clO g x).getD q 0))) (mvJ g w (upN v x ((clO g x).getD q 0))) (x + 1) x p b ↔ ((p : Int) < (hI g 63 3).toInt ∧ coF g w n x (mvF g w n v x) p (fO (hA g 76 x) (nI ((clO g x).getD q 0))) (sO (hA g 76 x) (nI ((clO g x).getD q 0))) b)) := fun b hb => by
                  rw [tbO_in (Nat.lt_succ_self x), ei, ej]
                  have : frP g w n (mvI g w (upN v x ((clO g x).getD q 0))) (mvJ g w (upN v x ((clO g x).getD q 0))) x = mvF g w n v x := mvF_c (fun z hz => by unfold upN; rw [if_neg (by omega)])
                  rw [this]
                  obtain ⟨i', e1, -⟩ := (clO_ok m0.2.1 hrn hql).1.c m0.2.1 hrn
                  refine ⟨fun z => ⟨z.2.1, z.2.2.2⟩, fun z => ⟨?_, z.1, hb, z.2⟩⟩
                  rw [e1]
                  obtain ⟨i'', f1, f2, f3, -⟩ := (clO_ok m0.2.1 hrn hql).1.c m0.2.1 hrn
                  rw [← e1, f1]
                  exact nI_m1 (by omega)
                split
                · rename_i hp3
                  exact cmV_iff ((tt 0 (by decide)).trans ⟨fun z => z.2, fun z => ⟨hp3, z⟩⟩).symm ((tt 1 (by decide)).trans ⟨fun z => z.2, fun z => ⟨hp3, z⟩⟩).symm
                · rename_i hp3
                  exact (cm00 (fun z => hp3 ((tt 0 (by decide)).mp z).1) (fun z => hp3 ((tt 1 (by decide)).mp z).1)).symm
              · rw [k83 _ (by omega)]
                exact mcu.2 x p (by omega) hp
            · rw [r95, if_neg (by omega)]
              have := a1 x (by omega) z2
              rw [hA_st, if_neg (by omega)] at this
              exact this
            · rw [r95]
              show (_ → _) ∧ (_ → (if x = r then q else al x) < _ ∧ _ = nI (if x = r then q else al x) ∧ (clO g x).getD (if x = r then q else al x) 0 = _)
              by_cases y : x = r
              · subst y
                rw [if_pos rfl, if_pos rfl, v']
                exact ⟨fun z => absurd z pl, fun _ => ⟨hql, rfl, rfl⟩⟩
              · rw [if_neg y, if_neg y]
                have := a2 x (by omega)
                rw [hA_st, if_neg (fun z => y z.2)] at this
                unfold upN
                rw [if_neg y]
                exact this
            · have ne : x ≠ r := fun z => pl (z ▸ hn)
              have := mn x hx hn
              rw [hA_stn _ _ _ _ (by decide), hA_stn _ _ _ _ (by decide), hA_stn _ _ _ _ (by decide)] at this
              rw [r81, r82, r83, if_neg ne, if_neg ne]
              exact ⟨this.1, this.2.1, fun p hp => by rw [k83 _ (by omega), s83]; exact this.2.2 p hp⟩
            · unfold MvB at mb ⊢
              rw [hA_stn _ _ _ _ (by decide), hA_stn _ _ _ _ (by decide)] at mb
              rw [r90, r96]; exact mb
            · -- back behind it
              obtain ⟨mf', mc', b1, b2, mn', mb'⟩ := st'
              have atq : (if r = r then q else al r) < (clO g r).length ∧ hA h' 95 r = nI (if r = r then q else al r) ∧ (clO g r).getD (if r = r then q else al r) 0 = upN v r ((clO g r).getD q 0) r := (b2 r (by omega)).2 pl
              rw [if_pos rfl] at atq
              rw [nI_pm r]
              refine ih2 h' x3' x5' (by omega) mf' ⟨mf'.sa r _ (by unfold mvA; omega), ?_, fun x z1 z2 => ?_, fun x hx => ?_, ?_, ?_⟩ ?_
              · unfold MC
                rw [hA_stn _ _ _ _ (by decide), hA_stn _ _ _ _ (by decide), hA_stn _ _ _ _ (by decide)]
                refine ⟨fun x hx => ?_, fun x p hx hp => ?_⟩
                · obtain ⟨f1, f2⟩ := mv_c (g := g) (w := w) (v := upN v r ((clO g r).getD q 0)) (v' := v) (r := x) (by unfold upN; rw [if_neg (by omega)])
                  rw [← f1, ← f2]; exact mc'.1 x (by omega)
                · rw [mc'.2 x p (by omega) hp, tbO_c (x + 1) (fun y hy => mv_c (g := g) (w := w) (v := upN v r ((clO g r).getD q 0)) (v' := v) (r := y) (by unfold upN; rw [if_neg (by omega)]))]
              · rw [hA_st]
                by_cases y : x = r
                · rw [if_pos ⟨rfl, y⟩]
                · rw [if_neg (fun z => y z.2)]; exact b1 x (by omega) z2
              · rw [hA_st, if_neg (by omega)]
                have ne : x ≠ r := by omega
                have this : (pI g w x = -1 → hA h' 95 x = nI 0) ∧ (¬ pI g w x = -1 → (if x = r then q else al x) < (clO g x).length ∧ hA h' 95 x = nI (if x = r then q else al x) ∧ (clO g x).getD (if x = r then q else al x) 0 = (if x = r then (clO g r).getD q 0 else v x)) := b2 x (by omega)
                rw [if_neg ne, if_neg ne] at this
                exact this
              · unfold MvN
                rw [hA_stn _ _ _ _ (by decide), hA_stn _ _ _ _ (by decide), hA_stn _ _ _ _ (by decide)]; exact mn'
              · unfold MvB
                rw [hA_stn _ _ _ _ (by decide), hA_stn _ _ _ _ (by decide)]; exact mb'
              · rw [atq.2.1, nI_pm]
          · -- it does not fit
            have nD : ¬ mvD g w n (upN v r ((clO g r).getD q 0)) r := fun z => nf (up.mp z)
            rw [if_neg (dec_f nD)] at ih2
            have mf2 := mf1.aa (a := 84) f84 (by unfold mvA; omega)
            refine ⟨(mf2.mw m0).1, fun _ => ih2 _ x3 x5 (by omega) mf2 ⟨mf2.sa r _ (by unfold mvA; omega), ?_, fun x z1 z2 => ?_, fun x hx => ?_, ?_, ?_⟩ ?_, fun z => absurd rfl z⟩
            · unfold MC at mc ⊢
              rw [hA_stn _ _ _ _ (by decide), hA_stn _ _ _ _ (by decide), hA_stn _ _ _ _ (by decide)] at mc
              rw [hA_stn _ _ _ _ (by decide), hA_stn _ _ _ _ (by decide), hA_stn _ _ _ _ (by decide), hA_AAn _ _ (by decide), hA_AAn _ _ (by decide), hA_AAn _ _ (by decide), hA_stn _ _ _ _ (by decide), hA_stn _ _ _ _ (by decide), hA_stn _ _ _ _ (by decide)]
              exact mc
            · have := a1 x z1 z2
              rw [hA_st] at this ⊢
              by_cases y : x = r
              · rw [if_pos ⟨rfl, y⟩]
              · rw [if_neg (fun z => y z.2)] at this ⊢
                rw [hA_AAn _ _ (by decide), hA_st, if_neg (fun z => y z.2)]; exact this
            · have := a2 x hx
              rw [hA_st, if_neg (by omega)] at this ⊢
              rw [hA_AAn _ _ (by decide), hA_st, if_neg (by omega)]; exact this
            · unfold MvN at mn ⊢
              rw [hA_stn _ _ _ _ (by decide), hA_stn _ _ _ _ (by decide), hA_stn _ _ _ _ (by decide)] at mn
              rw [hA_stn _ _ _ _ (by decide), hA_stn _ _ _ _ (by decide), hA_stn _ _ _ _ (by decide), hA_AAn _ _ (by decide), hA_AAn _ _ (by decide), hA_AAn _ _ (by decide), hA_stn _ _ _ _ (by decide), hA_stn _ _ _ _ (by decide), hA_stn _ _ _ _ (by decide)]
              exact mn
            · unfold MvB at mb ⊢
              rw [hA_stn _ _ _ _ (by decide), hA_stn _ _ _ _ (by decide)] at mb
              rw [hA_stn _ _ _ _ (by decide), hA_stn _ _ _ _ (by decide), hA_AAn _ _ (by decide), hA_AAn _ _ (by decide), hA_stn _ _ _ _ (by decide), hA_stn _ _ _ _ (by decide)]
              exact mb
            · rw [hA_AAn _ _ (by decide), hA_st, if_pos ⟨rfl, rfl⟩, nI_pm]
      have e0 : stA h 95 r (-1) = h := by
        rw [stA_AA]
        have : (fun y => if y = r then (-1 : Int32) else hA h 95 y) = hA h 95 := by
          funext y
          by_cases z : y = r
          · rw [if_pos z, z, st.2.2.1 r (Nat.le_refl r) (by omega)]
          · rw [if_neg z]
        rw [this, stAA_id]
      refine lp (clO g r).length 0 h x3 x5 (by omega) st.1 (by rw [e0]; exact st) ?_
      rw [st.2.2.1 r (Nat.le_refl r) (by omega)]; decide
