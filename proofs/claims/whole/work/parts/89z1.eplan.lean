/-! ===== plan on both sides ===== -/
theorem e_plan {l : Launch} {E : eE} {d : Nat} {h : aH} {x1 x2 x3 x4 : Int32} (V : LV h) (hd : 20 ≤ d) : bothC l E d mX11_plan mX12_plan [.inl x1, .inl x2, .inl x3, .inl x4] h := by
  obtain ⟨g, eg⟩ : ∃ g, g = stI h 0 13 (nI 0) := ⟨_, rfl⟩
  have Vg : LW g := by rw [eg]; exact V.w.st13 _
  have g13 : hI g 0 13 = nI 0 := by rw [eg]; rfl
  obtain ⟨gm, em⟩ : ∃ gm, gm = stI g 63 38 (nI 0) := ⟨_, rfl⟩
  have Vm : LV gm := by rw [em]; exact Vg.at38 g13 (show sm 12 (0 : Int32) from sm_0 12)
  have m38 : hI gm 63 38 = nI 0 := by rw [em]; rfl
  have qg : REq g gm := by rw [em]; exact q38 g _
  have qh : REq gm h := by rw [em, eg]; exact ⟨⟨rfl, rfl, rfl, rfl⟩, fun _ _ _ => rfl⟩
  have okm : plOK gm x1 x2 x3 x4 ↔ plOK g x1 x2 x3 x4 := by rw [em]; exact Iff.rfl
  have hND := Vg.1.2.1
  unfold RIn at hND
  refine k_plan V.w eg (by omega) (fun no => ⟨V.1.1, c_plan V.1.1 Vm.1.2 qh m38 (by omega) (fun _ => ⟨V.1.1, rfl, V⟩) (fun _ _ _ _ _ _ _ _ _ _ _ _ _ ok => absurd (okm.mp ok) no) (fun _ _ _ _ _ _ _ _ _ _ _ _ _ ok => absurd (okm.mp ok) no)⟩) (fun s a m n np x v h1 e1 e2 e3 e4 b ok hnp hx all none st ks => ?_) (fun s a m n np o u v h1 e1 e2 e3 e4 b ok hnp all best val hl ks => ?_)
  · have S1 : SH (stI h1 0 13 v) := (ks.lv Vg).1.1
    have n1 : 99 ≤ hN (stI h1 0 13 v) := (ks.lv Vg).2.2
    have re := ks.re
    have q1 : REq gm (stI h1 0 13 v) := by
      have i63 : hI (stI h1 0 13 v) 63 = hI g 63 := (up2_ne (f := hI h1) (i := 0) (k := 13) (j := 63) (v := v) (by decide)).trans re.1
      exact ⟨⟨by rw [i63, qg.1.1], by rw [i63, qg.1.2.1], by rw [i63, qg.1.2.2.1], by rw [i63, qg.1.2.2.2]⟩, fun a h1 h2 => (re.2 a h1 (by omega)).trans (qg.2 a h1 h2).symm⟩
    refine ⟨S1, c_plan S1 Vm.1.2 q1 m38 (by omega) (fun no => absurd (okm.mpr ok) no) (fun s' a' m' n' np' x' v' h2 f1 f2 f3 f4 b' ok' hnp' hx' all' none' st' mo rp => ?_) (fun s' a' m' n' np' u' v' h2 f1 f2 f3 f4 b' ok' hnp' all' best' val' mo rp => ?_)⟩
    · have es : s' = s := nI_inj (by omega) (by omega) (f1.symm.trans e1)
      have ea : a' = a := nI_inj (by omega) (by omega) (f2.symm.trans e2)
      have en : n' = n := nI_inj (by omega) (by omega) (f4.symm.trans e4)
      subst es; subst ea; subst en
      have eD : plD gm s' a' n' = plD g s' a' n' := by rw [em]; exact plD38 g _ _ _ _
      have eC : clO gm s' = clO g s' := by rw [em]; rfl
      rw [eD, eC] at all' none'
      have ex : x' = x := by
        rcases Nat.lt_trichotomy x' x with q | q | q
        · obtain ⟨c, hc, hD⟩ := all x' q
          exact absurd hD (none' c hc)
        · exact q
        · obtain ⟨c, hc, hD⟩ := all' x q
          exact absurd hD (none c hc)
      subst ex
      have ev : v' = v := by
        rw [em, stS38, plF38] at st'
        exact stS_uniq st' st
      subst ev
      have Vv : LV (stI (stI h 0 13 v') 63 38 v') := (V.w.st13 v').at38 rfl st.1
      have rg : RI (stI gm 63 38 v') := (q38 gm v').ri Vm.1.2
      have rr : REp (stI (stI h 0 13 v') 63 38 v') (stI gm 63 38 v') := by rw [em, eg]; exact ⟨⟨rfl, rfl, rfl, rfl, rfl⟩, fun _ _ _ => rfl⟩
      refine ⟨mo.sh S1, rfl, LV.done S1 (CL.fr rg.2.2.2.2.2 (rr.cl Vv.2.1) ?_ ?_ ?_ ?_ ?_ ?_ ?_) rg n1 rp mo⟩
      · exact ks.1.trans (by rw [eg]; rfl)
      · exact fun a y1 y2 => (ks.2.1 a y1 y2).trans (by rw [eg]; rfl)
      · exact ks.2.2.1.trans (by rw [eg]; rfl)
      · exact ks.2.2.2.1.trans (by rw [eg]; rfl)
      · funext k
        show up2 (hI h1) 0 13 v' 0 k = up2 (up2 (hI h) 0 13 v') 63 38 v' 0 k
        have k0 : hI h1 0 = hI g 0 := ks.2.2.2.2.1 0 (Or.inl rfl)
        unfold up2
        rw [if_neg (show ¬ (0 = 63 ∧ k = 38) from fun z => absurd z.1 (by decide)), k0, eg]
        by_cases c : k = 13
        · rw [if_pos ⟨rfl, c⟩, if_pos ⟨rfl, c⟩]
        · rw [if_neg (fun z => c z.2), if_neg (fun z => c z.2)]
          show up2 (hI h) 0 13 (nI 0) 0 k = hI h 0 k
          unfold up2
          rw [if_neg (fun z => c z.2)]
      · intro q hq
        show up2 (hI h1) 0 13 v' q = up2 (up2 (hI h) 0 13 v') 63 38 v' q
        rw [up2_ne (by omega), up2_ne (by omega), up2_ne (by omega), ks.2.2.2.2.1 q (by omega), eg]
        exact up2_ne (by omega)
      · intro q hq
        exact (ks.2.2.2.2.2 q (by omega)).trans (by rw [eg]; rfl)
    · have es : s' = s := nI_inj (by omega) (by omega) (f1.symm.trans e1)
      have ea : a' = a := nI_inj (by omega) (by omega) (f2.symm.trans e2)
      have en : n' = n := nI_inj (by omega) (by omega) (f4.symm.trans e4)
      have emm : a' + m' = a + m := nI_inj (by omega) (by omega) (f3.symm.trans e3)
      subst es; subst ea; subst en
      have eD : plD gm s' a' n' = plD g s' a' n' := by rw [em]; exact plD38 g _ _ _ _
      have eC : clO gm s' = clO g s' := by rw [em]; rfl
      rw [eD, eC] at all'
      obtain ⟨c, hc, hD⟩ := all' x (by omega)
      exact absurd hD (none c hc)
  · have ho := hl.o
    have S1 : SH (stAA h1 (o + 3) (kCho g o a u m)) := (ks.lv Vg).1.1
    have n1 : 99 ≤ hN (stAA h1 (o + 3) (kCho g o a u m)) := (ks.lv Vg).2.2
    have re := ks.re
    have q1 : REq gm (stAA h1 (o + 3) (kCho g o a u m)) := by
      have i63 : hI (stAA h1 (o + 3) (kCho g o a u m)) 63 = hI g 63 := re.1
      exact ⟨⟨by rw [i63, qg.1.1], by rw [i63, qg.1.2.1], by rw [i63, qg.1.2.2.1], by rw [i63, qg.1.2.2.2]⟩, fun a h1 h2 => (hA_AAn _ _ (by omega)).trans ((re.2 a h1 (by omega)).trans (qg.2 a h1 h2).symm)⟩
    refine ⟨S1, c_plan S1 Vm.1.2 q1 m38 (by omega) (fun no => absurd (okm.mpr ok) no) (fun s' a' m' n' np' x' v' h2 f1 f2 f3 f4 b' ok' hnp' hx' all' none' st' mo rp => ?_) (fun s' a' m' n' np' u' v' h2 f1 f2 f3 f4 b' ok' hnp' all' best' val' mo rp => ?_)⟩
    · have es : s' = s := nI_inj (by omega) (by omega) (f1.symm.trans e1)
      have ea : a' = a := nI_inj (by omega) (by omega) (f2.symm.trans e2)
      have en : n' = n := nI_inj (by omega) (by omega) (f4.symm.trans e4)
      have emm : a' + m' = a + m := nI_inj (by omega) (by omega) (f3.symm.trans e3)
      subst es; subst ea; subst en
      have eD : plD gm s' a' n' = plD g s' a' n' := by rw [em]; exact plD38 g _ _ _ _
      have eC : clO gm s' = clO g s' := by rw [em]; rfl
      rw [eD, eC] at none'
      obtain ⟨c, hc, hD⟩ := all x' (by omega)
      exact absurd hD (none' c hc)
    · have es : s' = s := nI_inj (by omega) (by omega) (f1.symm.trans e1)
      have ea : a' = a := nI_inj (by omega) (by omega) (f2.symm.trans e2)
      have en : n' = n := nI_inj (by omega) (by omega) (f4.symm.trans e4)
      have emm : a' + m' = a + m := nI_inj (by omega) (by omega) (f3.symm.trans e3)
      have em2 : m' = m := by omega
      have enp : np' = np := by rw [qg.1.2.1] at hnp'; omega
      subst es; subst ea; subst en; subst em2; subst enp
      have eu : u' = u := by
        rw [em, plB38, best] at best'
        exact (Option.some.inj best').symm
      subst eu
      have ev : v' = v := by
        rw [em, plV38] at val'
        exact plV_uniq val' val
      subst ev
      have hs : (s' : Int) < (hI gm 63 14).toInt := by
        have := ok'.1.2
        rw [f1, nI_toInt (by omega)] at this
        exact this
      have ri := Vm.1.2
      have gA : hA gm = hA g := by rw [em]; rfl
      have mem : ∀ x, x < m' → u' x ∈ clO gm s' := fun x hx => foB_mem (np := np') (D := plD gm s' a' n') (SU := plU gm s' a' n' m') m' 0 (fun _ => 0) none (by omega) (fun x hx => absurd hx (Nat.not_lt_zero x)) (fun u hu => (by cases hu)) u' best' x hx
      have dd : ∀ x, x < m' → plD gm s' a' n' x (u' x) := fun x hx => foB_good (np := np') (m := m') (D := plD gm s' a' n') (SU := plU gm s' a' n' m') (L := clO gm s') m' 0 (fun _ => 0) none (fun u hu => (by cases hu)) u' best' x hx
      have hlm : SeAt gm s' o := by
        obtain ⟨o2, ho2⟩ := Vm.2.1.2.1 s' hs
        have q2 := ho2.1.1.1
        have q3 : hQ gm 3 s' = some (0, 9, o) := by rw [em]; exact hl.1.1.1
        have : o2 = o := ref_inj (q2.symm.trans q3)
        rw [this] at ho2
        exact ho2
      have pA : ∀ w, w < 52 → a' ≤ w → w < a' + m' → plA gm s' a' u' m' (104 * s' + 2 * w) = fO (hA gm 76 s') (nI (u' (w - a'))) ∧ plA gm s' a' u' m' (104 * s' + 2 * w + 1) = sO (hA gm 76 s') (nI (u' (w - a'))) := fun w hw w1 w2 => by
        unfold plA
        rw [if_pos (by omega), if_pos (by omega), if_pos (by omega), if_neg (by omega), show (104 * s' + 2 * w - 104 * s') / 2 - a' = w - a' by omega, show (104 * s' + 2 * w + 1 - 104 * s') / 2 - a' = w - a' by omega]
        exact ⟨rfl, rfl⟩
      have pB : ∀ j, ¬ (104 * s' + 2 * a' ≤ j ∧ j < 104 * s' + 2 * (a' + m')) → plA gm s' a' u' m' j = hA gm 80 j := fun j hj => by
        unfold plA
        rw [if_neg hj]
      have kC : ∀ w, kCho g o a' u' m' w = if a' ≤ w ∧ w < a' + m' then nI (u' (w - a')) else hA gm (o + 3) w := fun w => by
        unfold kCho
        rw [gA]
      have Vp : LV (stAA (stAA gm (o + 3) (kCho g o a' u' m')) 80 (plA gm s' a' u' m')) := by
        refine LV.cho Vm hs hlm (kCho g o a' u' m') (plA gm s' a' u' m') (fun j hj => pB j (by omega)) (fun w hw => ?_) (fun w hw => ?_)
        · by_cases c : a' ≤ w ∧ w < a' + m'
          · obtain ⟨p1, p2⟩ := pA w hw c.1 c.2
            obtain ⟨t1, t2, -⟩ := clO_in ri hs (mem (w - a') (by omega))
            rw [p1, p2, kC, if_pos c]
            exact ChOf.of t1 t2
          · rw [kC, if_neg c, pB _ (by omega), pB _ (by omega)]
            exact hlm.1.2.2.2.1 w hw
        · by_cases c : a' ≤ w ∧ w < a' + m'
          · obtain ⟨p1, p2⟩ := pA w hw c.1 c.2
            obtain ⟨-, -, t3⟩ := clO_in ri hs (mem (w - a') (by omega))
            have t4 := (dd (w - a') (by omega)).2.1
            rw [show a' + (w - a') = w by omega] at t4
            exact RPl.of ri hs t3 t4 (by rw [show 2 * (52 * s' + w) = 104 * s' + 2 * w by omega]; exact p1) (by rw [show 2 * (52 * s' + w) + 1 = 104 * s' + 2 * w + 1 by omega]; exact p2)
          · have q := ri.2.2.2.2.2.2.2.2 s' w (by omega) hw
            unfold RPl at q ⊢
            rw [hA_AA, pB _ (by omega), pB _ (by omega)]
            exact q
      have rr : REp (stAA (stAA gm (o + 3) (kCho g o a' u' m')) 80 (plA gm s' a' u' m')) (stAA gm 80 (plA gm s' a' u' m')) := ⟨⟨rfl, rfl, rfl, rfl, rfl⟩, fun a h1 h2 => by
        by_cases c : a = 80
        · subst c; rw [hA_AA, hA_AA]
        · rw [hA_AAn _ _ c, hA_AAn _ _ c, hA_AAn _ _ (by omega)]⟩
      have rg := rr.ri Vp.1.2
      refine ⟨mo.sh S1, rfl, LV.done S1 (CL.fr rg.2.2.2.2.2 (rr.cl Vp.2.1) ?_ ?_ ?_ ?_ ?_ ?_ ?_) rg n1 rp mo⟩
      · exact ks.1.trans (by rw [em]; rfl)
      · exact fun a y1 y2 => (ks.2.1 a y1 y2).trans (by rw [em]; rfl)
      · exact ks.2.2.1.trans (by rw [em]; rfl)
      · exact ks.2.2.2.1.trans (by rw [em]; rfl)
      · exact (ks.2.2.2.2.1 0 (Or.inl rfl)).trans (by rw [em]; exact (up2_ne (f := hI g) (i := 63) (k := 38) (j := 0) (v := nI 0) (by decide)).symm)
      · intro q hq
        exact (ks.2.2.2.2.1 q (by omega)).trans (by rw [em]; exact (up2_ne (by omega)).symm)
      · intro q hq
        rw [hA_AAn _ (plA gm s' a' u' m') (show q ≠ 80 by omega)]
        by_cases c : q = o + 3
        · subst c; rw [hA_AA, hA_AA]
        · rw [hA_AAn _ _ c, hA_AAn _ _ c, ks.2.2.2.2.2 q (by omega), gA]
