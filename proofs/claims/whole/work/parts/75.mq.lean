/-! ===== the reference: fits, comes, sum ===== -/
theorem MO.h34 (h : aH) (f f' : Nat → Int32) : MO h (h34 h f f') := (mo_AA h f (by decide)).tr (mo_AA _ f' (by decide))
theorem c_isPair {l : Launch} {E : eE} {d bc bs : Nat} {h : aH} {K : Int32 → aH → Prop} {g : aH} {s : Nat} {i j : Int32} (S : SH h) (ri : RI g) (e : REp g h) (hs : (s : Int) < (hI g 63 14).toInt) (k1 : okP g s i j → K (nI 1) h) (k0 : ¬ okP g s i j → K (nI 0) h) : CI l E d bc bs mX12_isPair [.inr (some (0, 12, 63)), .inl (nI s), .inl i, .inl j] h K := by
  have hN := ri.1
  unfold RIn at hN
  have h6 := op6 ri hs
  have no : ∀ {i' : Nat}, i = nI i' → (i' : Int) < (hA g 77 s).toInt → 0 ≤ i.toInt ∧ i.toInt < (hA g 77 s).toInt := fun {i'} ei hi => by rw [ei, nI_toInt (by omega)]; omega
  refine bX12_isPair_0 S ?_
  rw [nI_clamp (n := s) (by omega), e.2 77 (by decide) (by decide), e.2 76 (by decide) (by decide)]
  simp only [Int32.lt_iff_toInt_lt, Int32.le_iff_toInt_le, ti_z, ti_m1, ti_m24, ti_0, ti_1, ti_2, ti_3, ti_4, ti_5, ti_6, ti_7, ti_8, ti_11, ti_12, ti_15, ti_24, ti_28, ti_31, ti_47, ti_48, ti_52, ti_90, ti_100, ti_127, ti_336, ti_363, ti_364, ti_400, ti_416, ti_576, ti_17471, ti_17472]
  refine ⟨fun c => k0 (fun ⟨i', ei, hi, _⟩ => by have := no ei hi; omega), fun c => ⟨vp_in_nI (by omega) (by omega), fun c1 => ?_, fun c1 => k0 (fun ⟨i', ei, hi, _⟩ => by have := no ei hi; omega)⟩⟩
  have ei := i32_nn (x := i) (by omega)
  have ec := i32_clamp (x := i) (by omega)
  refine ⟨fun c2 => ⟨fun c3 => k0 ?_, fun c3 => ⟨fun c4 => k0 ?_, fun c4 => k1 ?_⟩⟩, fun c2 => ⟨fun c3 => k0 ?_, fun c3 => k1 ?_⟩⟩
  · rintro ⟨i', e1, hi, q | ⟨-, j', h1, h2, rfl⟩⟩
    · exact c2 q.1
    · rw [e1, nI_toInt (by omega), nI_toInt (by omega)] at c3
      omega
  · rintro ⟨i', e1, hi, q | ⟨-, j', h1, h2, rfl⟩⟩
    · exact c2 q.1
    · rw [nI_toInt (by omega)] at c4
      omega
  · have ej := i32_nn (x := j) (by omega)
    have ejc := i32_clamp (x := j) (by omega)
    exact ⟨_, ei, by omega, Or.inr ⟨c2, _, by omega, by omega, ej⟩⟩
  · rintro ⟨i', e1, hi, q | ⟨q, -⟩⟩
    · exact c3 q.2
    · exact q c2
  · exact ⟨_, ei, by omega, Or.inl ⟨c2, c3⟩⟩
abbrev fitOK (g : aH) (x1 x2 x3 x4 x5 : Int32) : Prop := inI x1 (hI g 63 14) ∧ (0 ≤ x2.toInt ∧ x2.toInt < 52) ∧ (0 ≤ x5.toInt ∧ x5.toInt ≤ (hI g 63 8).toInt) ∧ okP g x1.toNatClampNeg x3 x4
abbrev fitY (g : aH) (s w n : Nat) (i j : Int32) : Prop := ftO g w (pI g w) (pJ g w) s (frP g w n (pI g w) (pJ g w) s) i j
noncomputable def fitV (g : aH) (x1 x2 x3 x4 x5 : Int32) : Int32 := if Classical.propDecidable (fitOK g x1 x2 x3 x4 x5) |>.decide then fV (fitY g x1.toNatClampNeg x2.toNatClampNeg x5.toNatClampNeg x3 x4) else -1
theorem c_fits {l : Launch} {E : eE} {d bc bs : Nat} {h : aH} {K : Int32 → aH → Prop} {g : aH} {x1 x2 x3 x4 x5 : Int32} (S : SH h) (ri : RI g) (e : REp g h) (hd : 6 ≤ d) (k : ∀ h', MO h h' → REp g h' → K (fitV g x1 x2 x3 x4 x5) h') : CI l E d bc bs mX12_fits [.inr (some (0, 12, 63)), .inl x1, .inl x2, .inl x3, .inl x4, .inl x5] h K := by
  obtain ⟨d, rfl⟩ : ∃ d', d = d' + 1 := ⟨d - 1, by omega⟩
  have hN := ri.1
  unfold RIn at hN
  have no : ¬ fitOK g x1 x2 x3 x4 x5 → K (-1) h := fun q => by
    have := k h (MO.rf h) e
    unfold fitV at this
    rw [if_neg (dec_f q)] at this
    exact this
  refine bX12_fits_0 S ?_
  rw [e.1.2.2.2.1, e.1.2.2.1]
  refine ⟨fun c => no (fun q => c q.1), fun c1 => ⟨fun c => no (fun q => c q.2.1), fun c2 => ⟨fun c => no (fun q => c q.2.2.1), fun c3 => ?_⟩⟩⟩
  have e1 := i32_nn c1.1
  have n1 := i32_clamp c1.1
  have e2 := i32_nn c2.1
  have n2 := i32_clamp c2.1
  have e5 := i32_nn c3.1
  have n5 := i32_clamp c3.1
  have h1 := c1.2
  have yes : ∀ v h', okP g x1.toNatClampNeg x3 x4 → MO h h' → REp g h' → v = fV (fitY g x1.toNatClampNeg x2.toNatClampNeg x5.toNatClampNeg x3 x4) → K v h' := fun v h' q mo re ev => by
    have := k h' mo re
    unfold fitV at this
    rw [if_pos (dec_t ⟨c1, c2, c3, q⟩)] at this
    rw [ev]; exact this
  have no4 : ¬ okP g x1.toNatClampNeg x3 x4 → K (-1) h := fun z => no (fun q => z q.2.2.2)
  generalize x1.toNatClampNeg = s at *
  generalize x2.toNatClampNeg = w at *
  generalize x5.toNatClampNeg = n at *
  subst e1 e2 e5
  have hs : (s : Int) < (hI g 63 14).toInt := by omega
  refine c_isPair S ri e hs (fun ok => ⟨S, fun _ => c_takesWeek S ri e (by omega) (by omega) (fun h6 m6 mo6 pk6 => ⟨m6.1, c_comeAll m6 (by omega) (by omega) (fun r hr => pk6 r (by omega)) (fun f f' mc => ⟨(m6.h34 f f').1, c_asksFree (m6.h34 f f') mc (by omega) hs (fun f2 fs => ?_)⟩)⟩), fun z => absurd z (by decide)⟩) (fun ok => ⟨S, fun z => absurd rfl z, fun _ => no4 ok⟩)
  have m8 := (m6.h34 f f').aa f2 (a := 84) (by decide)
  have pk8 : pkO g (stAA (h34 h6 f f') 84 f2) (pI g w) (pJ g w) s := by
    unfold pkO
    rw [hA_AAn _ f2 (by decide), hA_AAn _ f2 (by decide), h34_n h6 f f' (by decide) (by decide), h34_n h6 f f' (by decide) (by decide)]
    exact fun r hr => pk6 r (by omega)
  have mo8 : MO h (stAA (h34 h6 f f') 84 f2) := (mo6.tr (MO.h34 h6 f f')).tr (mo_AA _ f2 (by decide))
  refine ⟨m8.1, c_fitsBy m8 pk8 fs (by omega) hs ok (fun y => ⟨m8.1, fun z => absurd z (by decide), fun _ => yes _ _ ok mo8 m8.2.2.1 (fV_t y).symm⟩) (fun y => ⟨m8.1, fun _ => yes _ _ ok mo8 m8.2.2.1 (fV_f y).symm, fun z => absurd rfl z⟩)⟩
/-! comes -/
abbrev tbW (g : aH) (w n r p b : Nat) : Prop := tbO g w n (pI g w) (pJ g w) (r + 1) r p b
abbrev comOK (g : aH) (x1 x2 x3 x4 : Int32) : Prop := inI x1 (hI g 63 3) ∧ inI x2 (hI g 63 14) ∧ (0 ≤ x3.toInt ∧ x3.toInt < 52) ∧ (0 ≤ x4.toInt ∧ x4.toInt ≤ (hI g 63 8).toInt) ∧ ¬ plI g x2.toNatClampNeg x3.toNatClampNeg = -1
noncomputable def comV (g : aH) (x1 x2 x3 x4 : Int32) : Int32 := if comOK g x1 x2 x3 x4 then cmV (tbW g x3.toNatClampNeg x4.toNatClampNeg x2.toNatClampNeg x1.toNatClampNeg 0) (tbW g x3.toNatClampNeg x4.toNatClampNeg x2.toNatClampNeg x1.toNatClampNeg 1) else -1
theorem c_comes {l : Launch} {E : eE} {d bc bs : Nat} {h : aH} {K : Int32 → aH → Prop} {g : aH} {x1 x2 x3 x4 : Int32} (S : SH h) (ri : RI g) (e : REp g h) (hd : 6 ≤ d) (k : ∀ h', MO h h' → REp g h' → K (comV g x1 x2 x3 x4) h') : CI l E d bc bs mX12_comes [.inr (some (0, 12, 63)), .inl x1, .inl x2, .inl x3, .inl x4] h K := by
  obtain ⟨d, rfl⟩ : ∃ d', d = d' + 1 := ⟨d - 1, by omega⟩
  have hN := ri.1
  unfold RIn at hN
  have no : ¬ comOK g x1 x2 x3 x4 → K (-1) h := fun q => by
    have := k h (MO.rf h) e
    unfold comV at this
    rw [if_neg q] at this
    exact this
  refine bX12_comes_0 S ?_
  rw [e.1.2.1, e.1.2.2.2.1, e.1.2.2.1]
  refine ⟨fun c => no (fun q => c q.1), fun c1 => ⟨fun c => no (fun q => c q.2.1), fun c2 => ⟨fun c => no (fun q => c q.2.2.1), fun c3 => ⟨fun c => no (fun q => c q.2.2.2.1), fun c4 => ?_⟩⟩⟩⟩
  have e1 := i32_nn c1.1
  have n1 := i32_clamp c1.1
  have e2 := i32_nn c2.1
  have n2 := i32_clamp c2.1
  have e3 := i32_nn c3.1
  have n3 := i32_clamp c3.1
  have e4 := i32_nn c4.1
  have n4 := i32_clamp c4.1
  have h1 := c1.2
  have h2 := c2.2
  have yes : ∀ v h', ¬ plI g x2.toNatClampNeg x3.toNatClampNeg = -1 → MO h h' → REp g h' → v = cmV (tbW g x3.toNatClampNeg x4.toNatClampNeg x2.toNatClampNeg x1.toNatClampNeg 0) (tbW g x3.toNatClampNeg x4.toNatClampNeg x2.toNatClampNeg x1.toNatClampNeg 1) → K v h' := fun v h' q mo re ev => by
    have := k h' mo re
    unfold comV at this
    rw [if_pos ⟨c1, c2, c3, c4, q⟩] at this
    rw [ev]; exact this
  have no2 : plI g x2.toNatClampNeg x3.toNatClampNeg = -1 → K (-1) h := fun z => no (fun q => q.2.2.2.2 z)
  generalize x1.toNatClampNeg = p at *
  generalize x2.toNatClampNeg = s at *
  generalize x3.toNatClampNeg = w at *
  generalize x4.toNatClampNeg = n at *
  subst e1 e2 e3 e4
  rw [show nI 2 * (nI 52 * nI s + nI w) = nI (104 * s + 2 * w) by rw [nI_mul, nI_add, nI_mul, show 2 * (52 * s + w) = 104 * s + 2 * w by omega], nI_clamp (n := 104 * s + 2 * w) (by omega), e.2 80 (by decide) (by decide)]
  refine ⟨vp_in_nI (by omega) (by omega), fun c => c_takesWeek S ri e (by omega) (by omega) (fun h6 m6 mo6 pk6 => ⟨m6.1, ?_⟩), fun c => no2 c⟩
  rw [nI_add, ix2 (by omega)]
  refine c_comeAll m6 (by omega) (by omega) (fun r hr => pk6 r (by omega)) (fun f f' mc => ⟨(m6.h34 f f').1, vp2 (by omega) (by omega), yes _ _ c (mo6.tr (MO.h34 h6 f f')) (m6.h34 f f').2.2.1 (mc.2 s p (by omega) (by omega))⟩)
/-! sum -/
noncomputable abbrev pcW (g : aH) (w n s p : Nat) : Int32 := pcO g w n s p (pI g w s) (pJ g w s) (tbW g w n s p 0) (tbW g w n s p 1)
noncomputable def suS (g : aH) (w n p : Nat) (a : Int32) : Nat → Int32
  | 0 => a
  | s + 1 => suS g w n p a s + pcW g w n s p
noncomputable def suW (g : aH) (n p ns : Nat) : Nat → Int32
  | 0 => nI 0
  | w + 1 => suS g w n p (suW g n p ns w) ns
noncomputable def sumV (g : aH) (x1 x2 : Int32) : Int32 := if inI x1 (hI g 63 3) ∧ (0 ≤ x2.toInt ∧ x2.toInt ≤ (hI g 63 8).toInt) then suW g x2.toNatClampNeg x1.toNatClampNeg (hI g 63 14).toNatClampNeg 52 else -1
theorem pcW_no {g : aH} {w n s p : Nat} (c : pI g w s = -1) : pcW g w n s p = nI 0 := by
  show pcO _ _ _ _ _ _ _ _ _ = _
  rw [pc00 (fun z => tbI z c) (fun z => tbI z c)]
  decide
theorem z_add0 (y : Int32) : y + nI 0 = y := Int32.add_zero y
theorem suS_no {g : aH} {w n p : Nat} {a : Int32} : ∀ s, (∀ r, r < s → pI g w r = -1) → suS g w n p a s = a
  | 0, _ => rfl
  | s + 1, h => by
    unfold suS
    rw [suS_no s (fun r hr => h r (by omega)), pcW_no (h s (Nat.lt_succ_self s)), z_add0]
/-- where one comes there is an option within the weeks -/
theorem tb_in0 {g : aH} {w n : Nat} {pi pj : Nat → Int32} {s p : Nat} (ok : okN g s (pi s) (pj s)) (t : tbO g w n pi pj (s + 1) s p 0) (h6 : (hA g 77 s).toInt ≤ 6) : ∃ i' : Nat, pi s = nI i' ∧ (i' : Int) < (hA g 77 s).toInt ∧ inO g w s i' := by
  obtain ⟨i', e, hi⟩ := ok.i (tbI t)
  have := ((tbO_in (Nat.lt_succ_self s)).mp t).2.2.2.2.1.1.1
  rw [e, nI_clamp (by omega)] at this
  exact ⟨i', e, hi, this⟩
theorem tb_in1 {g : aH} {w n : Nat} {pi pj : Nat → Int32} {s p : Nat} (ok : okN g s (pi s) (pj s)) (t : tbO g w n pi pj (s + 1) s p 1) (h6 : (hA g 77 s).toInt ≤ 6) : ∃ j' : Nat, pj s = nI j' ∧ (j' : Int) < (hA g 77 s).toInt ∧ inO g w s j' := by
  obtain ⟨i', e, hi⟩ := ok.j (tbJ t)
  have := ((tbO_in (Nat.lt_succ_self s)).mp t).2.2.2.2.2.1.1.1
  rw [e, nI_clamp (by omega)] at this
  exact ⟨i', e, hi, this⟩
theorem c_sum {l : Launch} {E : eE} {d bc bs : Nat} {h : aH} {K : Int32 → aH → Prop} {g : aH} {x1 x2 : Int32} (S : SH h) (ri : RI g) (e : REp g h) (hd : 6 ≤ d) (k : ∀ h', MO h h' → REp g h' → K (sumV g x1 x2) h') : CI l E d bc bs mX12_sum [.inr (some (0, 12, 63)), .inl x1, .inl x2] h K := by
  obtain ⟨d, rfl⟩ : ∃ d', d = d' + 1 := ⟨d - 1, by omega⟩
  have hN := ri.1
  unfold RIn at hN
  have no : ¬ (inI x1 (hI g 63 3) ∧ (0 ≤ x2.toInt ∧ x2.toInt ≤ (hI g 63 8).toInt)) → K (-1) h := fun q => by
    have := k h (MO.rf h) e
    unfold sumV at this
    rw [if_neg q] at this
    exact this
  refine bX12_sum_0 S ?_
  rw [e.1.2.1, e.1.2.2.1]
  refine ⟨fun c => no (fun q => c q.1), fun c1 => ⟨fun c2 => ?_, fun c => no (fun q => c q.2)⟩⟩
  have e1 := i32_nn c1.1
  have n1 := i32_clamp c1.1
  have e2 := i32_nn c2.1
  have n2 := i32_clamp c2.1
  have h1 := c1.2
  have n3 := i32_clamp hN.2.2.2.1
  have e3 := i32_nn hN.2.2.2.1
  have k3 : ∀ h', MO h h' → REp g h' → K (suW g x2.toNatClampNeg x1.toNatClampNeg (hI g 63 14).toNatClampNeg 52) h' := fun h' mo re => by
    have := k h' mo re
    unfold sumV at this
    rw [if_pos ⟨c1, c2⟩] at this
    exact this
  generalize x1.toNatClampNeg = p at *
  generalize x2.toNatClampNeg = n at *
  generalize (hI g 63 14).toNatClampNeg = ns at *
  subst e1 e2
  have w2 : ∀ (j w : Nat) (h1 : aH), w + j = 52 → SH h1 → MO h h1 → REp g h1 → LX12_sum_23 l E (d + 1) bc bs (nI p) (nI n) (suW g n p ns w) (nI w) h1 K := by
    intro j
    induction j with
    | zero =>
      intro w h1 hw S1 mo re
      have hw : w = 52 := by omega
      subst hw
      exact bX12_sum_23 S1 ⟨fun _ => k3 h1 mo re, fun c => absurd (nI_le (Nat.le_refl 52) (by omega)) c⟩
    | succ j ih =>
      intro w h1 hw S1 mo re
      have ih := ih (w + 1)
      refine bX12_sum_23 S1 ⟨fun c => absurd c (nI_ge (by omega) (by omega)), fun _ => c_takesWeek S1 ri re (by omega) (by omega) (fun h2 m2 mo2 pk2 => ⟨m2.1, ?_⟩)⟩
      -- is there any
      have any : ∀ (a s : Nat) (x5 : Int32), s + a = ns → (x5 = nI 0 → ∀ r, r < s → pI g w r = -1) → LX12_sum_43 l E (d + 1) bc bs (nI p) (nI n) (suW g n p ns w) (nI w) x5 (nI s) h2 K := by
        intro a
        induction a with
        | zero =>
          intro s x5 hs hx
          have hs : s = ns := by omega
          subst hs
          refine bX12_sum_43 m2.1 ?_
          rw [m2.rg.2.2.2.2.2, e3]
          refine ⟨fun _ => ⟨fun c => c_comeAll m2 (by omega) (by omega) (fun r hr => pk2 r (by omega)) (fun f f' mc => ⟨(m2.h34 f f').1, ?_⟩), fun c => ?_⟩, fun c => absurd (nI_le (Nat.le_refl s) (by omega)) c⟩
          · have lp : ∀ (b r : Nat), r + b = s → LX12_sum_100 l E (d + 1) bc bs (nI p) (nI n) (suS g w n p (suW g n p s w) r) (nI w) x5 (nI r) (h34 h2 f f') K := by
              have m3 := m2.h34 f f'
              intro b
              induction b with
              | zero =>
                intro r hr
                have hr : r = s := by omega
                subst hr
                refine bX12_sum_100 m3.1 ?_
                rw [m3.rg.2.2.2.2.2, e3, nI_add]
                exact ⟨fun _ => ih _ (by omega) m3.1 ((mo.tr mo2).tr (MO.h34 h2 f f')) m3.2.2.1, fun c => absurd (nI_le (Nat.le_refl r) (by omega)) c⟩
              | succ b ihb =>
                intro r hr
                have ihb := ihb (r + 1) (by omega)
                unfold suS at ihb
                obtain ⟨q1, q2, ok⟩ := mc.1 r (by omega)
                refine bX12_sum_100 m3.1 ?_
                rw [m3.rg.2.2.2.2.2, e3, nI_add r 1, nI_clamp (n := r) (by omega), q1, q2, ix2 (by omega), mc.2 r p (by omega) (by omega)]
                refine ⟨fun c => absurd c (nI_ge (by omega) (by omega)), fun _ => ⟨vp_in_nI (by omega) (by omega), fun c => ?_, fun c => ⟨vp2 (by omega) (by omega), c_priceOf m3 (by omega) (by omega) (by omega) rfl (fun t => tb_in0 ok t (op6 ri (by omega)).2) (fun t => tb_in1 ok t (op6 ri (by omega)).2) ⟨m3.1, ihb⟩⟩⟩⟩
                rw [pcW_no c, z_add0] at ihb
                exact ihb
            exact lp s 0 (by omega)
          · rw [nI_add]
            have := ih h2 (by omega) m2.1 (mo.tr mo2) m2.2.2.1
            unfold suW at this
            rw [suS_no s (hx c)] at this
            exact this
        | succ a iha =>
          intro s x5 hs hx
          obtain ⟨q1, q2, ok⟩ := pk2 s (by omega)
          refine bX12_sum_43 m2.1 ?_
          rw [m2.rg.2.2.2.2.2, e3, nI_clamp (n := s) (by omega), q1, nI_add s 1]
          refine ⟨fun c => absurd c (nI_ge (by omega) (by omega)), fun _ => ⟨fun c => iha (s + 1) (nI 1) (by omega) (fun z => absurd z (by decide)), fun c => ⟨vp_in_nI (by omega) (by omega), fun c1 => iha (s + 1) (nI 0) (by omega) (fun _ r hr => (show r < s ∨ r = s by omega).elim (hx c r) (fun z => by rw [z]; exact c1)), fun c1 => iha (s + 1) (nI 1) (by omega) (fun z => absurd z (by decide))⟩⟩⟩
      exact any ns 0 (nI 0) (by omega) (fun _ r hr => absurd hr (Nat.not_lt_zero r))
  exact w2 52 0 h (by omega) S (MO.rf h) e
