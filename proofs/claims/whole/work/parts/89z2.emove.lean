/-! ===== move on both sides ===== -/
/-- h with the first x series of the way u written on both sides -/
def MvH (h H : aH) (w : Nat) (u : Nat → Nat) (x : Nat) : Prop := hI H = hI h ∧ hR H = hR h ∧ hQ H = hQ h ∧ hT H = hT h ∧ hN H = hN h ∧ hA H 80 = mvW h w u x ∧ (∀ a, a ≠ 80 → (∀ r o, r < x → ¬ pI h w r = -1 → SeAt h r o → a ≠ o + 3) → hA H a = hA h a) ∧ ∀ r o, r < x → ¬ pI h w r = -1 → SeAt h r o → ∀ j, hA H (o + 3) j = if j = w then nI (u r) else hA h (o + 3) j
theorem mvW_0 (h : aH) (w : Nat) (u : Nat → Nat) : mvW h w u 0 = hA h 80 := by
  funext j
  unfold mvW
  rw [if_neg (fun z => Nat.not_lt_zero _ z.1), if_neg (fun z => Nat.not_lt_zero _ z.1)]
theorem mvW_ne {h : aH} {w x j : Nat} {u : Nat → Nat} (hj : ¬ j / 104 = x) : mvW h w u (x + 1) j = mvW h w u x j := by
  have e : j / 104 < x + 1 ↔ j / 104 < x := by omega
  unfold mvW
  rw [if_iff (q := j / 104 < x ∧ ¬ pI h w (j / 104) = -1 ∧ j % 104 = 2 * w) (and_congr_left (fun _ => e)), if_iff (q := j / 104 < x ∧ ¬ pI h w (j / 104) = -1 ∧ j % 104 = 2 * w + 1) (and_congr_left (fun _ => e))]
theorem mvW_no {h : aH} {w x : Nat} {u : Nat → Nat} (c : pI h w x = -1) : mvW h w u (x + 1) = mvW h w u x := by
  funext j
  by_cases e : j / 104 = x
  · unfold mvW
    rw [e, if_neg (fun z => z.2.1 c), if_neg (fun z => z.2.1 c), if_neg (fun z => z.2.1 c), if_neg (fun z => z.2.1 c)]
  · exact mvW_ne e
theorem mv_all {h : aH} (V : LV h) {w n ns : Nat} {u : Nat → Nat} (hns : (ns : Int) = (hI h 63 14).toInt) (hw : w < 52) (good : ∀ r, r < ns → ¬ pI h w r = -1 → mvD h w n u r) : ∀ x, x ≤ ns → ∃ H, LV H ∧ MvH h H w u x := by
  have hND := V.1.2.1
  unfold RIn at hND
  intro x
  induction x with
  | zero => exact fun _ => ⟨h, V, rfl, rfl, rfl, rfl, rfl, (mvW_0 h w u).symm, fun _ _ _ => rfl, fun r o hr => absurd hr (Nat.not_lt_zero r)⟩
  | succ x ih =>
    intro hx
    obtain ⟨H, VH, m1, m2, m3, m4, m5, m6, m7, m8⟩ := ih (by omega)
    by_cases c : pI h w x = -1
    · refine ⟨H, VH, m1, m2, m3, m4, m5, by rw [mvW_no c]; exact m6, fun a ha hr => m7 a ha (fun r o h1 h2 h3 => hr r o (by omega) h2 h3), fun r o h1 h2 h3 => m8 r o ?_ h2 h3⟩
      have : r ≠ x := fun z => h2 (z ▸ c)
      omega
    · have hs : (x : Int) < (hI h 63 14).toInt := by omega
      obtain ⟨o, hl⟩ := V.2.1.2.1 x hs
      have ho := SeAt.o (g := h) hl
      have hsH : (x : Int) < (hI H 63 14).toInt := by rw [m1]; exact hs
      have hlH : SeAt H x o := by
        obtain ⟨o2, ho2⟩ := VH.2.1.2.1 x hsH
        have q2 := ho2.1.1.1
        rw [m3, hl.1.1.1] at q2
        have : o = o2 := ref_inj q2
        rw [← this] at ho2
        exact ho2
      have old : ∀ a, 64 ≤ a → a < 80 → hA H a = hA h a := fun a a1 a2 => m7 a (by omega) (fun r o' _ _ h3 => by have := SeAt.o (g := h) h3; omega)
      have e74 := old 74 (by decide) (by decide)
      have e76 := old 76 (by decide) (by decide)
      have e77 := old 77 (by decide) (by decide)
      have e78 := old 78 (by decide) (by decide)
      have gd := good x (by omega) c
      have hin : u x ∈ clO H x := by
        show u x ∈ cls (hA H 76 x) (hA H 77 x).toNatClampNeg
        rw [e76, e77]
        exact gd.1
      obtain ⟨t1, t2, t3⟩ := clO_in VH.1.2 hsH hin
      have sd : sdO H w x (fO (hA H 76 x) (nI (u x))) (sO (hA H 76 x) (nI (u x))) := by
        have q := gd.2.1
        unfold mvI mvJ at q
        rw [if_neg c, if_neg c] at q
        unfold sdO inO mtO stO lnO at q ⊢
        rw [e76, e78, e74]
        exact q
      have pE : ∀ j, ¬ j / 104 = x → mvW h w u (x + 1) j = hA H 80 j := fun j hj => by rw [mvW_ne hj, m6]
      have p1 : mvW h w u (x + 1) (104 * x + 2 * w) = fO (hA H 76 x) (nI (u x)) := by
        unfold mvW
        rw [show (104 * x + 2 * w) / 104 = x by omega, if_pos ⟨by omega, c, by omega⟩, e76]
      have p2 : mvW h w u (x + 1) (104 * x + 2 * w + 1) = sO (hA H 76 x) (nI (u x)) := by
        unfold mvW
        rw [show (104 * x + 2 * w + 1) / 104 = x by omega, if_neg (fun z => by omega), if_pos ⟨by omega, c, by omega⟩, e76]
      have pO : ∀ j, j / 104 = x → ¬ j % 104 = 2 * w → ¬ j % 104 = 2 * w + 1 → mvW h w u (x + 1) j = hA h 80 j ∧ hA H 80 j = hA h 80 j := fun j h1 h2 h3 => by
        rw [m6]
        unfold mvW
        rw [if_neg (fun z => h2 z.2.2), if_neg (fun z => h3 z.2.2), if_neg (fun z => h2 z.2.2), if_neg (fun z => h3 z.2.2)]
        exact ⟨rfl, rfl⟩
      have VN := LV.cho VH hsH hlH (fun j => if j = w then nI (u x) else hA h (o + 3) j) (mvW h w u (x + 1)) (fun j hj => pE j (by omega)) (fun w' hw' => by
        by_cases ew : w' = w
        · subst ew
          rw [p1, p2, if_pos rfl]
          exact ChOf.of t1 t2
        · rw [(pO _ (by omega) (by omega) (by omega)).1, (pO (104 * x + 2 * w' + 1) (by omega) (by omega) (by omega)).1, if_neg ew, e76]
          exact hl.1.2.2.2.1 w' hw') (fun w' hw' => by
        by_cases ew : w' = w
        · subst ew
          exact RPl.of VH.1.2 hsH t3 sd (by rw [show 2 * (52 * x + w') = 104 * x + 2 * w' by omega]; exact p1) (by rw [show 2 * (52 * x + w') + 1 = 104 * x + 2 * w' + 1 by omega]; exact p2)
        · have q := VH.1.2.2.2.2.2.2.2.2.2 x w' (by omega) hw'
          obtain ⟨a1, a2⟩ := pO (2 * (52 * x + w')) (by omega) (by omega) (by omega)
          obtain ⟨b1, b2⟩ := pO (2 * (52 * x + w') + 1) (by omega) (by omega) (by omega)
          unfold RPl at q ⊢
          rw [hA_AA, a1, b1, ← a2, ← b2]
          exact q)
      refine ⟨_, VN, m1, m2, m3, m4, m5, hA_AA _ _ _, fun a ha hr => ?_, fun r o' h1 h2 h3 j => ?_⟩
      · rw [hA_AAn _ _ ha, hA_AAn _ _ (hr x o (by omega) c hl)]
        exact m7 a ha (fun r o h1 h2 h3 => hr r o (by omega) h2 h3)
      · have ho' := SeAt.o (g := h) h3
        by_cases er : r = x
        · subst er
          have : o' = o := by
            have q := h3.1.1.1
            rw [hl.1.1.1] at q
            exact (ref_inj q).symm
          subst this
          rw [hA_AAn _ _ (by omega), hA_AA]
        · have := se_inj V.w (by omega) hs h3 hl er
          rw [hA_AAn _ _ (by omega), hA_AAn _ _ this]
          exact m8 r o' (by omega) h2 h3 j
theorem e_move {l : Launch} {E : eE} {d : Nat} {h : aH} {x1 x2 : Int32} (V : LV h) (hd : 20 ≤ d) : bothC l E d mX11_move mX12_move [.inl x1, .inl x2] h := by
  have hND := V.1.2.1
  unfold RIn at hND
  have yes : ∀ w n : Nat, x1 = nI w → x2 = nI n → w < 52 → (n : Int) ≤ (hI h 63 8).toInt → ((0 ≤ x1.toInt ∧ x1.toInt < 52) ∧ 0 ≤ x2.toInt ∧ x2.toInt ≤ (hI h 63 8).toInt) := fun w n e1 e2 hw hn => by
    rw [e1, e2, nI_toInt (by omega), nI_toInt (by omega)]
    omega
  refine k_move V.w (by omega) (fun no => ⟨V.1.1, c_move V.1.1 V.1.2 (REp.rf h) (by omega) (fun _ => ⟨V.1.1, rfl, V⟩) (fun w n _ _ _ e1 e2 hw hn => absurd (yes w n e1 e2 hw hn) no) (fun w n _ _ _ _ e1 e2 hw hn => absurd (yes w n e1 e2 hw hn) no)⟩) (fun w n ns np h1 e1 e2 hw hn hns hnp none ks => ?_) (fun w n ns np u h1 h3 e1 e2 hw hn hns hnp best ks st S3 => ?_)
  · refine ⟨(ks.full V).1.1, c_move (ks.full V).1.1 V.1.2 ks.re.p (by omega) (fun no => absurd (yes w n e1 e2 hw hn) no) (fun w' n' ns' np' h2 f1 f2 hw' hn' hns' hnp' none' mo rp => ⟨(ks.end V mo rp).1, rfl, (ks.end V mo rp).2⟩) (fun w' n' ns' np' u' h2 f1 f2 hw' hn' hns' hnp' best' mo rp => ?_)⟩
    have ew : w' = w := nI_inj (by omega) (by omega) (f1.symm.trans e1)
    have en : n' = n := nI_inj (by omega) (by omega) (f2.symm.trans e2)
    have es : ns' = ns := by omega
    have ep : np' = np := by omega
    subst ew; subst en; subst es; subst ep
    rw [none] at best'
    cases best'
  · have re := ks.re
    have i3 : hI h3 63 = hI h 63 := by rw [st.1]; exact re.1
    have a3 : ∀ a, 64 ≤ a → a ≤ 80 → hA h3 a = hA h a := fun a y1 y2 => (st.2.2.2.2.2.1 a (fun r o _ _ q => by have := SeAt.o (g := h) q; omega)).trans (re.2 a y1 (by omega))
    have rp3 : REp h h3 := ⟨⟨by rw [i3], by rw [i3], by rw [i3], by rw [i3], by rw [i3]⟩, a3⟩
    refine ⟨S3, c_move S3 V.1.2 rp3 (by omega) (fun no => absurd (yes w n e1 e2 hw hn) no) (fun w' n' ns' np' h2 f1 f2 hw' hn' hns' hnp' none' mo rp => ?_) (fun w' n' ns' np' u' h2 f1 f2 hw' hn' hns' hnp' best' mo rp => ?_)⟩
    · have ew : w' = w := nI_inj (by omega) (by omega) (f1.symm.trans e1)
      have en : n' = n := nI_inj (by omega) (by omega) (f2.symm.trans e2)
      have es : ns' = ns := by omega
      have ep : np' = np := by omega
      subst ew; subst en; subst es; subst ep
      rw [none'] at best
      cases best
    · have ew : w' = w := nI_inj (by omega) (by omega) (f1.symm.trans e1)
      have en : n' = n := nI_inj (by omega) (by omega) (f2.symm.trans e2)
      have es : ns' = ns := by omega
      have ep : np' = np := by omega
      subst ew; subst en; subst es; subst ep
      have eu : u' = u := by
        rw [best] at best'
        exact (Option.some.inj best').symm
      subst eu
      have good := dfM_good (np := np') V.1.2 hns' ns' 0 (fun _ => 0) none (by omega) (fun x hx => absurd hx (Nat.not_lt_zero x)) (fun u hu => (by cases hu)) u' best'
      obtain ⟨H, VH, m1, m2, m3, m4, m5, m6, m7, m8⟩ := mv_all V (n := n') (u := u') hns' hw' good ns' (Nat.le_refl _)
      have rr : REp H (stAA h 80 (mvW h w' u' ns')) := ⟨⟨by rw [m1]; rfl, by rw [m1]; rfl, by rw [m1]; rfl, by rw [m1]; rfl, by rw [m1]; rfl⟩, fun a y1 y2 => by
        by_cases c : a = 80
        · subst c; rw [hA_AA, m6]
        · rw [hA_AAn _ _ c, m7 a c (fun r o _ _ q => by have := SeAt.o (g := h) q; omega)]⟩
      have rg := rr.ri VH.1.2
      refine ⟨mo.sh S3, rfl, LV.done S3 (CL.fr rg.2.2.2.2.2 (rr.cl VH.2.1) ?_ ?_ ?_ ?_ ?_ ?_ ?_) rg ?_ rp mo⟩
      · rw [st.2.1, m2]; exact ks.1
      · intro a y1 y2; rw [st.2.2.1, m3]; exact ks.2.1 a y1 y2
      · rw [st.2.2.2.1, m4]; exact ks.2.2.1
      · rw [st.2.2.2.2.1, m5]; exact ks.2.2.2.1
      · rw [st.1, m1]; exact ks.2.2.2.2.1 0 (Or.inl rfl)
      · intro q hq; rw [st.1, m1]; exact ks.2.2.2.2.1 q (by omega)
      · intro q hq
        by_cases c : ∃ r o, r < ns' ∧ ¬ pI h w' r = -1 ∧ SeAt h r o ∧ q = o + 3
        · obtain ⟨r, o, c1, c2, c3, rfl⟩ := c
          funext j
          rw [st.2.2.2.2.2.2 r o c1 c2 c3 j, m8 r o c1 c2 c3 j, ks.2.2.2.2.2 (o + 3) (by omega)]
        · have nq : ∀ r o, r < ns' → ¬ pI h w' r = -1 → SeAt h r o → q ≠ o + 3 := fun r o c1 c2 c3 z => c ⟨r, o, c1, c2, c3, z⟩
          rw [st.2.2.2.2.2.1 q nq, m7 q (by omega) nq]
          exact ks.2.2.2.2.2 q (by omega)
      · rw [st.2.2.2.2.1, ks.2.2.2.1]; exact V.2.2
