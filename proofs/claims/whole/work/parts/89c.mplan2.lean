/-! ===== the reference: plan ===== -/
/-- the lasting part is the same, but for the stuck ones -/
def REq (g h : aH) : Prop := (hI h 63 1 = hI g 63 1 ∧ hI h 63 3 = hI g 63 3 ∧ hI h 63 8 = hI g 63 8 ∧ hI h 63 14 = hI g 63 14) ∧ ∀ a, 64 ≤ a → a ≤ 80 → hA h a = hA g a
abbrev plOK (g : aH) (x1 x2 x3 x4 : Int32) : Prop := inI x1 (hI g 63 14) ∧ (0 ≤ x4.toInt ∧ x4.toInt ≤ (hI g 63 8).toInt) ∧ ¬ x2 < 0 ∧ ¬ x3 ≤ x2 ∧ ¬ nI 52 < x3 ∧ x3 - x2 ≤ (if hA g 76 x1.toNatClampNeg = -1 then nI 6 else nI 4)
/-- planned, after the first x weeks of the way u are written -/
def plA (g : aH) (s a : Nat) (u : Nat → Nat) (x : Nat) : Nat → Int32 := fun j => if 104 * s + 2 * a ≤ j ∧ j < 104 * s + 2 * (a + x) then (if j % 2 = 0 then fO (hA g 76 s) (nI (u ((j - 104 * s) / 2 - a))) else sO (hA g 76 s) (nI (u ((j - 104 * s) / 2 - a)))) else hA g 80 j
/-- what plan answers when it finds a way -/
def plV (g : aH) (s a n m np : Nat) (u : Nat → Nat) (v : Int32) : Prop := ∃ t : Nat → Int32, SD np (plU g s a n m u) (vI t) ∧ v = (if np = 0 then nI 0 else t 0)
theorem plV_uniq {g : aH} {s a n m np : Nat} {u : Nat → Nat} {v v' : Int32} (h : plV g s a n m np u v) (h' : plV g s a n m np u v') : v = v' := by
  obtain ⟨t, h1, rfl⟩ := h
  obtain ⟨t', h2, rfl⟩ := h'
  by_cases c : np = 0
  · rw [if_pos c, if_pos c]
  · rw [if_neg c, if_neg c]
    exact Int32.toInt_inj.mp (h1.eq h2 (j := 0) (by omega) (by omega) (by omega))
/-- the numbers of a call of plan -/
theorem plOK.n {g : aH} (S : RI g) {x1 x2 x3 x4 : Int32} (o : plOK g x1 x2 x3 x4) : ∃ s a m n : Nat, x1 = nI s ∧ x2 = nI a ∧ x3 = nI (a + m) ∧ x4 = nI n ∧ (s : Int) < (hI g 63 14).toInt ∧ (n : Int) ≤ (hI g 63 8).toInt ∧ 1 ≤ m ∧ m ≤ 6 ∧ a + m ≤ 52 ∧ s < 4 ∧ n ≤ 400 ∧ x3 - x2 = nI m := by
  obtain ⟨o1, o2, o3, o4, o5, o6⟩ := o
  have hN := S.1
  unfold RIn at hN
  have e1 := i32_nn o1.1
  have c1 := i32_clamp o1.1
  have e4 := i32_nn o2.1
  have c4 := i32_clamp o2.1
  simp only [Int32.lt_iff_toInt_lt, Int32.le_iff_toInt_le, ti_z, ti_m1, ti_m24, ti_0, ti_1, ti_2, ti_3, ti_4, ti_5, ti_6, ti_7, ti_8, ti_11, ti_12, ti_15, ti_24, ti_28, ti_31, ti_47, ti_48, ti_52, ti_90, ti_100, ti_127, ti_336, ti_363, ti_364, ti_400, ti_416, ti_576, ti_17471, ti_17472] at o3 o4 o5
  have e2 := i32_nn (x := x2) (by omega)
  have c2 := i32_clamp (x := x2) (by omega)
  have e3 := i32_nn (x := x3) (by omega)
  have c3 := i32_clamp (x := x3) (by omega)
  have o11 := o1.2
  have hd : (x3 - x2).toInt = x3.toInt - x2.toInt := i_sub (by omega) (by omega)
  have o6 : x3.toInt - x2.toInt ≤ 6 := by
    rw [Int32.le_iff_toInt_le, hd] at o6
    split at o6
    · rw [ti_6] at o6; exact o6
    · rw [ti_4] at o6; omega
  refine ⟨x1.toNatClampNeg, x2.toNatClampNeg, x3.toNatClampNeg - x2.toNatClampNeg, x4.toNatClampNeg, e1, e2, ?_, e4, by omega, by omega, by omega, by omega, by omega, by omega, by omega, ?_⟩
  · rw [show x2.toNatClampNeg + (x3.toNatClampNeg - x2.toNatClampNeg) = x3.toNatClampNeg by omega]; exact e3
  · exact i32_eq (by omega) (by omega)
theorem REp.of38 {g h : aH} (e : REq g h) (e38 : hI h 63 38 = hI g 63 38) : REp g h := ⟨⟨e.1.1, e.1.2.1, e.1.2.2.1, e.1.2.2.2, e38⟩, e.2⟩
theorem c_plan {l : Launch} {E : eE} {d bc bs : Nat} {h : aH} {K : Int32 → aH → Prop} {g : aH} {x1 x2 x3 x4 : Int32} (S : SH h) (ri : RI g) (e : REq g h) (g38 : hI g 63 38 = nI 0) (hd : 7 ≤ d)
    (k2 : ¬ plOK g x1 x2 x3 x4 → K (-2) h)
    (k1 : ∀ (s a m n np x : Nat) (v : Int32) (h' : aH), x1 = nI s → x2 = nI a → x3 = nI (a + m) → x4 = nI n → (s < 4 ∧ a + m ≤ 52 ∧ n ≤ 400) → plOK g x1 x2 x3 x4 → (np : Int) = (hI g 63 3).toInt → x < m → (∀ y, y < x → ∃ c, c ∈ clO g s ∧ plD g s a n y c) → (∀ c, c ∈ clO g s → ¬ plD g s a n x c) → stS g (a + x) s (plF g s a n x) v → MO h h' → REp (stI g 63 38 v) h' → K (-1) h')
    (k0 : ∀ (s a m n np : Nat) (u : Nat → Nat) (v : Int32) (h' : aH), x1 = nI s → x2 = nI a → x3 = nI (a + m) → x4 = nI n → (s < 4 ∧ a + m ≤ 52 ∧ n ≤ 400) → plOK g x1 x2 x3 x4 → (np : Int) = (hI g 63 3).toInt → (∀ y, y < m → ∃ c, c ∈ clO g s ∧ plD g s a n y c) → plB g s a n m np m 0 (fun _ => 0) none = some u → plV g s a n m np u v → MO h h' → REp (stAA g 80 (plA g s a u m)) h' → K v h') :
    CI l E d bc bs mX12_plan [.inr (some (0, 12, 63)), .inl x1, .inl x2, .inl x3, .inl x4] h K := by
  obtain ⟨d, rfl⟩ : ∃ d', d = d' + 1 := ⟨d - 1, by omega⟩
  have hN := ri.1
  unfold RIn at hN
  refine bX12_plan_0 S ?_
  rw [e.1.2.2.2, e.1.2.2.1]
  refine ⟨fun c => k2 (fun q => c q.1), fun o1 => ⟨fun c => k2 (fun q => c q.2.1), fun o2 => ⟨fun c => k2 (fun q => q.2.2.1 c), fun o3 => ⟨fun c => k2 (fun q => q.2.2.2.1 c), fun o4 => ⟨fun c => k2 (fun q => q.2.2.2.2.1 c), fun o5 => ?_⟩⟩⟩⟩⟩
  have n1 := i32_clamp o1.1
  have o12 := o1.2
  refine ⟨vp_of o1.1 (by omega), ?_⟩
  have main : plOK g x1 x2 x3 x4 → CV l E d 0 0 mX12_lists [.inr (some (0, 12, 63)), .inl x1] h (fun h9 => SH h9 ∧ LX12_plan_83 l E (d + 1) bc bs x1 x2 x3 x4 (hA h9 87 x1.toNatClampNeg) (x3 - x2) (nI 0) (stI h9 63 38 (nI 0)) K) := fun ok => by
    obtain ⟨s, a, m, n, rfl, rfl, rfl, rfl, hs, hn, hm1, hm6, ham, hs4, hn4, ex⟩ := ok.n ri
    rw [ex, nI_clamp (n := s) (by omega)]
    obtain ⟨np, hnp⟩ : ∃ np : Nat, (np : Int) = (hI g 63 3).toInt := ⟨_, i32_clamp hN.2.1.1⟩
    have h6 := op6 ri hs
    have ec77 := i32_clamp h6.1
    have hl15 : (clO g s).length ≤ 15 := cls_len (by omega)
    -- lists does not look at the stuck ones
    have e' : REp (stI g 63 38 (hI h 63 38)) h := ⟨⟨e.1.1, e.1.2.1, e.1.2.2.1, e.1.2.2.2, by simp [hI_st]⟩, e.2⟩
    have ri' : RI (stI g 63 38 (hI h 63 38)) := by
      unfold RI RIn RIl RIp RIc RIf RIs RF RSe RPl at ri ⊢
      exact ri
    refine c_lists S ri' e' hs (fun h9 c9 ls9 => ⟨c9.1.sh S, ?_⟩)
    have ls9 : LsO g h9 s := ls9
    have e9 : REp g (stI h9 63 38 (nI 0)) := by
      have := c9.p e'
      refine ⟨⟨this.1.1, this.1.2.1, this.1.2.2.1, this.1.2.2.2.1, by rw [g38]; simp [hI_st]⟩, this.2⟩
    have mo9 : MO h (stI h9 63 38 (nI 0)) := c9.1.tr (mo_I h9 38 _)
    have lsX : LsO g (stI h9 63 38 (nI 0)) s := ls9
    rw [show hA h9 87 s = nI (clO g s).length from ls9.1]
    generalize stI h9 63 38 (nI 0) = hA0 at e9 mo9 lsX
    -- behind the weeks
    have fin : ∀ (hw : aH), MO h hw → REp g hw → LsO g hw s → WkR g hw s a n m → (∀ y, y < m → ∃ c, c ∈ clO g s ∧ plD g s a n y c) → LX12_plan_317 l E (d + 1) bc bs (nI s) (nI a) (nI (a + m)) (nI n) (nI (clO g s).length) (nI m) (nI 0) (nI 0) hw K := fun hw mow ew lsw wkw all => by
      have hL1 : 1 ≤ (clO g s).length := by
        obtain ⟨c, hc, -⟩ := all 0 (by omega)
        obtain ⟨q, hq, -⟩ := mem_cl.mp hc
        omega
      have hne := foB_some (np := np) (SU := plU g s a n m) m 0 (fun _ => 0) none (Nat.zero_add m) (fun x hx => absurd hx (Nat.not_lt_zero x)) (fun x _ hx => all x hx)
      obtain ⟨u, hu⟩ : ∃ u, plB g s a n m np m 0 (fun _ => 0) none = some u := by
        cases e : plB g s a n m np m 0 (fun _ => 0) none with
        | none => exact absurd e hne
        | some u => exact ⟨u, rfl⟩
      -- write what was found
      have wr : ∀ (h7 : aH) (x7 : Int32) (t : Nat → Int32), SH h7 → MO h h7 → hI h7 63 3 = nI np → (∀ x, x < m → ∃ q, q < (clO g s).length ∧ hA h7 94 x = nI q ∧ (clO g s).getD q 0 = u x) → LsO g h7 s → SD np (plU g s a n m u) (vI (hA h7 90)) → REp g h7 → ∀ (b x : Nat) (h8 : aH), x + b = m → SH h8 → MO h h8 → hA h8 94 = hA h7 94 → hA h8 85 = hA h7 85 → hA h8 86 = hA h7 86 → hA h8 90 = hA h7 90 → hI h8 63 = hI h7 63 → (∀ a, 64 ≤ a → a ≤ 79 → hA h8 a = hA h7 a) → hA h8 80 = plA g s a u x → LX12_plan_605 l E (d + 1) bc bs (nI s) (nI a) (nI (a + m)) (nI n) (nI (clO g s).length) (nI m) x7 (nI 0) (nI x) h8 K := by
        intro h7 x7 t S7 mo7 en7 p7 ls7 sd7 e7 b
        induction b with
        | zero =>
          intro x h8 hx S8 mo8 q94 q85 q86 q90 qI qA q80
          have hx : x = m := by omega
          subst hx
          have rep : REp (stAA g 80 (plA g s a u x)) h8 := by
            refine ⟨?_, fun c h1 h2 => ?_⟩
            · rw [qI]; exact e7.1
            · by_cases y : c = 80
              · subst y; rw [hA_AA]; exact q80
              · rw [hA_AAn _ _ y, qA c h1 (by omega)]; exact e7.2 c h1 h2
          have fin2 : ∀ v, v = (if np = 0 then nI 0 else hA h8 90 0) → K v h8 := fun v hv => k0 s a x n np u v h8 rfl rfl rfl rfl ⟨by omega, by omega, by omega⟩ ok hnp all hu ⟨hA h8 90, by rw [q90]; exact sd7, hv⟩ mo8 rep
          refine bX12_plan_605 S8 ⟨fun _ => ?_, fun c => absurd (nI_le (Nat.le_refl x) (by omega)) c⟩
          rw [show hI h8 63 3 = nI np by rw [qI]; exact en7, show (nI 0).toNatClampNeg = 0 by decide]
          refine ⟨fun c => fin2 _ ?_, fun c => fin2 _ ?_⟩
          · rw [if_neg (fun z => c (by rw [z]; rfl))]
          · rw [if_pos (Decidable.byContradiction fun z => nI_ne0 (by omega) (by omega) c)]
        | succ b ih =>
          intro x h8 hx S8 mo8 q94 q85 q86 q90 qI qA q80
          obtain ⟨q, hq, p1, p2⟩ := p7 x (by omega)
          obtain ⟨l1, l2⟩ := ls7.2 q hq
          rw [show (cls (hA g 76 s) (hA g 77 s).toNatClampNeg).getD q 0 = u x from p2] at l1 l2
          refine bX12_plan_605 S8 ⟨fun c => absurd c (nI_ge (by omega) (by omega)), fun _ => ?_⟩
          have e2 : nI 2 * (nI 52 * nI s + nI a + nI x) = nI (104 * s + 2 * (a + x)) := by rw [nI_mul, nI_add, nI_add, nI_mul, show 2 * (52 * s + a + x) = 104 * s + 2 * (a + x) by omega]
          rw [nI_clamp (n := x) (by omega), q94, p1, ix2 (by omega), e2, nI_add (104 * s + 2 * (a + x)) 1, nI_clamp (n := 104 * s + 2 * (a + x)) (by omega), nI_clamp (n := 104 * s + 2 * (a + x) + 1) (by omega), q85, q86, l1, l2, nI_add x 1]
          refine ⟨vp_in_nI (by omega) (by omega), vp2 (by omega) (by omega), vp_in_nI (by omega) (by omega), vp_in_nI (by omega) (by omega), ih (x + 1) _ (by omega) (((mo_A h8 _ _ (by decide)).tr (mo_A _ _ _ (by decide))).sh S8) ((mo8.tr (mo_A h8 _ _ (by decide))).tr (mo_A _ _ _ (by decide))) ?_ ?_ ?_ ?_ qI (fun c h1 h2 => ?_) ?_⟩
          · rw [hA_stn _ _ _ _ (by decide), hA_stn _ _ _ _ (by decide)]; exact q94
          · rw [hA_stn _ _ _ _ (by decide), hA_stn _ _ _ _ (by decide)]; exact q85
          · rw [hA_stn _ _ _ _ (by decide), hA_stn _ _ _ _ (by decide)]; exact q86
          · rw [hA_stn _ _ _ _ (by decide), hA_stn _ _ _ _ (by decide)]; exact q90
          · rw [hA_stn _ _ _ _ (by omega), hA_stn _ _ _ _ (by omega)]; exact qA c h1 h2
          · funext j
            rw [hA_st, hA_st, q80]
            unfold plA
            by_cases y1 : j = 104 * s + 2 * (a + x) + 1
            · subst y1
              rw [if_pos ⟨rfl, rfl⟩, if_pos (by omega), if_neg (by omega), show (104 * s + 2 * (a + x) + 1 - 104 * s) / 2 - a = x by omega]
            · rw [if_neg (fun z => y1 z.2)]
              by_cases y2 : j = 104 * s + 2 * (a + x)
              · subst y2
                rw [if_pos ⟨rfl, rfl⟩, if_pos (by omega), if_pos (by omega), show (104 * s + 2 * (a + x) - 104 * s) / 2 - a = x by omega]
              · rw [if_neg (fun z => y2 z.2)]
                by_cases y3 : 104 * s + 2 * a ≤ j ∧ j < 104 * s + 2 * (a + x)
                · rw [if_pos y3, if_pos (show 104 * s + 2 * a ≤ j ∧ j < 104 * s + 2 * (a + (x + 1)) by omega)]
                · rw [if_neg y3, if_neg (show ¬ (104 * s + 2 * a ≤ j ∧ j < 104 * s + 2 * (a + (x + 1))) by omega)]
      -- the first way: all zero
      have zr : ∀ (b x : Nat) (h3 : aH), x + b = m → OdF hw h3 → (∀ y, y < x → hA h3 93 y = nI 0) → LX12_plan_317 l E (d + 1) bc bs (nI s) (nI a) (nI (a + m)) (nI n) (nI (clO g s).length) (nI m) (nI 0) (nI x) h3 K := by
        intro b
        induction b with
        | zero =>
          intro x h3 hx of z3
          have hx : x = m := by omega
          subst hx
          refine bX12_plan_317 (of.1.sh (mow.sh S)) ⟨fun _ => ?_, fun c => absurd (nI_le (Nat.le_refl x) (by omega)) c⟩
          have C : OdC g hw s a n x np := ⟨mow.sh S, ri, ew, hs, hnp, hm6, hL1, hl15, wkw⟩
          refine w_odo (h := h) C (by omega) x 0 h3 (nI 0) (fun _ => 0) (fun _ => 0) none (by omega) ⟨of, z3, fun _ => rfl, fun u hu => (by cases hu)⟩ (fun y hy => absurd hy (Nat.not_lt_zero y)) (fun _ _ => rfl) (fun h' x7' x9' st => ?_)
          rw [hu] at st
          obtain ⟨of', -, bsr⟩ := st
          obtain ⟨b1, b2, b3⟩ := bsr.2 u rfl
          have lt : nI 0 - nI 1 < 0 := by decide
          refine bX12_plan_538 (of'.1.sh (mow.sh S)) ⟨fun _ => bX12_plan_571 (of'.1.sh (mow.sh S)) ⟨fun _ => ⟨fun _ => bX12_plan_341 (of'.1.sh (mow.sh S)) ⟨fun _ => ?_, fun c => absurd rfl c⟩, fun c => absurd rfl c⟩, fun c => absurd lt c⟩, fun c => absurd lt c⟩
          have S' := of'.1.sh (mow.sh S)
          have mo' := mow.tr of'.1
          have e' := of'.p ew
          refine wr h' x7' (hA h' 90) S' mo' ?_ b3 (lsw.ar (of'.2.2 85 (by decide) (by decide) (by decide) (by decide) (by decide)) (of'.2.2 86 (by decide) (by decide) (by decide) (by decide) (by decide)) (of'.2.2 87 (by decide) (by decide) (by decide) (by decide) (by decide))) b2 e' x 0 h' (by omega) S' mo' rfl rfl rfl rfl rfl (fun _ _ _ => rfl) ?_
          · rw [e'.1.2.1, i32_nn hN.2.1.1, show (hI g 63 3).toNatClampNeg = np by have := i32_clamp hN.2.1.1; omega]
          · rw [e'.2 80 (by decide) (by decide)]
            funext j
            unfold plA
            rw [if_neg (by omega)]
        | succ b ih =>
          intro x h3 hx of z3
          refine bX12_plan_317 (of.1.sh (mow.sh S)) ⟨fun c => absurd c (nI_ge (by omega) (by omega)), fun _ => ⟨vp_in_nI (by omega) (by omega), ?_⟩⟩
          rw [nI_clamp (n := x) (by omega), nI_add]
          refine ih (x + 1) _ (by omega) (of.sa x _ (by omega)) (fun y hy => ?_)
          rw [hA_st]
          by_cases c : y = x
          · rw [if_pos ⟨rfl, c⟩]
          · rw [if_neg (fun z => c z.2)]; exact z3 y (by omega)
      exact zr m 0 hw (by omega) (OdF.rf hw) (fun y hy => absurd hy (Nat.not_lt_zero y))
    -- the weeks
    have wks : ∀ (b x : Nat) (hw : aH), x + b = m → MO h hw → REp g hw → LsO g hw s → WkR g hw s a n x → (∀ y, y < x → ∃ c, c ∈ clO g s ∧ plD g s a n y c) → LX12_plan_83 l E (d + 1) bc bs (nI s) (nI a) (nI (a + m)) (nI n) (nI (clO g s).length) (nI m) (nI x) hw K := by
      intro b
      induction b with
      | zero =>
        intro x hw hx mow ew lsw wkw all
        have hx : x = m := by omega
        subst hx
        exact bX12_plan_83 (mow.sh S) ⟨fun _ => fin hw mow ew lsw wkw all, fun c => absurd (nI_le (Nat.le_refl x) (by omega)) c⟩
      | succ b ih =>
        intro x hw hx mow ew lsw wkw all
        refine bX12_plan_83 (mow.sh S) ⟨fun c => absurd c (nI_ge (by omega) (by omega)), fun _ => ?_⟩
        rw [nI_add]
        refine c_takesWeek2 (mow.sh S) ri ew (by omega) hn (fun h2 m2 mo2 pk2 ar2 => ⟨m2.1, c_comeAll m2 (by omega) (by omega) (fun r hr => pk2 r (by omega)) (fun f f' mc => ⟨(m2.h34 f f').1, c_asksFree (m2.h34 f f') mc (by omega) hs (fun f2 fs => ⟨((m2.h34 f f').aa f2 (by decide)).1, ?_⟩)⟩)⟩)
        have m8 := (m2.h34 f f').aa f2 (a := 84) (by decide)
        have ar8 : ∀ c, c ≠ 81 → c ≠ 82 → c ≠ 83 → c ≠ 84 → hA (stAA (h34 h2 f f') 84 f2) c = hA hw c := fun c q1 q2 q3 q4 => by
          rw [hA_AAn _ f2 q4, h34_n h2 f f' q3 q4]
          exact ar2 c q1 q2
        have pk8 : pkO g (stAA (h34 h2 f f') 84 f2) (pI g (a + x)) (pJ g (a + x)) s := by
          unfold pkO
          rw [hA_AAn _ f2 (by decide), hA_AAn _ f2 (by decide), h34_n h2 f f' (by decide) (by decide), h34_n h2 f f' (by decide) (by decide)]
          exact fun r hr => pk2 r (by omega)
        have mo8 : MO h (stAA (h34 h2 f f') 84 f2) := ((mow.tr mo2).tr (MO.h34 h2 f f')).tr (mo_AA _ f2 (by decide))
        have ls8 : LsO g (stAA (h34 h2 f f') 84 f2) s := lsw.ar (ar8 85 (by decide) (by decide) (by decide) (by decide)) (ar8 86 (by decide) (by decide) (by decide) (by decide)) (ar8 87 (by decide) (by decide) (by decide) (by decide))
        have wk8 : WkR g (stAA (h34 h2 f f') 84 f2) s a n x := wkw.ar (ar8 91 (by decide) (by decide) (by decide) (by decide)) (ar8 92 (by decide) (by decide) (by decide) (by decide))
        generalize stAA (h34 h2 f f') 84 f2 = hx8 at *
        have go := w_plan116 (l := l) (E := E) (d := d) (bc := bc) (bs := bs) (K := K) (x3 := nI (a + m)) (m := m) m8 pk8 fs ls8 wk8 (by omega) hs (by omega) hl15 (fun f3 f4 wk9 ex9 => ?_) (fun f3 f4 no9 => ?_) (clO g s).length 0 (hA hx8 91) (hA hx8 92) (nI 0) (by omega) (fun _ q' hq' => absurd hq' (Nat.not_lt_zero q')) (fun z => absurd rfl z) (fun _ _ => rfl) (fun _ _ => rfl) (fun q' hq' => absurd hq' (Nat.not_lt_zero q'))
        · rw [h12_id] at go
          exact go
        · have mo9 : MO h (h12 hx8 f3 f4) := (mo8.tr (mo_AA hx8 f3 (by decide))).tr (mo_AA _ f4 (by decide))
          have m9 : MW g (h12 hx8 f3 f4) (a + x) n := (m8.aa f3 (by decide)).aa f4 (by decide)
          refine ih (x + 1) _ (by omega) mo9 m9.2.2.1 ((ls8.aa f3 (by decide) (by decide) (by decide)).aa f4 (by decide) (by decide) (by decide)) wk9 (fun y hy => ?_)
          by_cases c : y = x
          · rw [c]
            obtain ⟨q, hq, hD⟩ := ex9
            exact ⟨_, mem_cl.mpr ⟨q, hq, rfl⟩, hD⟩
          · exact all y (by omega)
        · have mo9 : MO h (h12 hx8 f3 f4) := (mo8.tr (mo_AA hx8 f3 (by decide))).tr (mo_AA _ f4 (by decide))
          have m9 : MW g (h12 hx8 f3 f4) (a + x) n := (m8.aa f3 (by decide)).aa f4 (by decide)
          refine c_leastStuck m9 ((fs.aa f3 (by decide)).aa f4 (by decide)) ((ls8.aa f3 (by decide) (by decide) (by decide)).aa f4 (by decide) (by decide) (by decide)) (by omega) hs (fun v hv => ⟨m9.1, k1 s a m n np x v _ rfl rfl rfl rfl ⟨by omega, by omega, by omega⟩ ok hnp (by omega) all (fun c hc => ?_) hv (mo9.tr (mo_I _ 38 v)) ?_⟩)
          · obtain ⟨q, hq, rfl⟩ := mem_cl.mp hc
            exact no9 q hq
          · have := m9.2.2.1
            exact ⟨⟨this.1.1, this.1.2.1, this.1.2.2.1, this.1.2.2.2.1, by simp [hI_st]⟩, this.2⟩
    exact wks m 0 hA0 (by omega) mo9 e9 lsX (fun y q hy => absurd hy (Nat.not_lt_zero y)) (fun y hy => absurd hy (Nat.not_lt_zero y))
  rw [e.2 76 (by decide) (by decide)]
  refine ⟨fun c => ⟨fun c1 => main ⟨o1, o2, o3, o4, o5, by rw [if_neg c]; exact c1⟩, fun c1 => k2 (fun q => c1 (by have := q.2.2.2.2.2; rw [if_neg c] at this; exact this))⟩, fun c => ⟨fun c1 => main ⟨o1, o2, o3, o4, o5, by rw [if_pos c]; exact c1⟩, fun c1 => k2 (fun q => c1 (by have := q.2.2.2.2.2; rw [if_pos c] at this; exact this))⟩⟩
