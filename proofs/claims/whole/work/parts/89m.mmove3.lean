/-! ===== the reference: move, whole ===== -/
theorem MW.sa {g h : aH} {w n : Nat} (m : MW g h w n) {a : Nat} (k : Nat) (v : Int32) (ha : 80 < a ∧ a ≤ 98) : MW g (stA h a k v) w n := by rw [stA_AA]; exact m.aa _ ha
theorem if_iff {α : Type} {p q : Prop} [Decidable p] [Decidable q] {a b : α} (h : p ↔ q) : (if p then a else b) = if q then a else b := by
  by_cases c : p
  · rw [if_pos c, if_pos (h.mp c)]
  · rw [if_neg c, if_neg (fun z => c (h.mpr z))]
/-- planned, after the first x series of the way u are written -/
def mvW (g : aH) (w : Nat) (u : Nat → Nat) (x : Nat) : Nat → Int32 := fun j => if j / 104 < x ∧ ¬ pI g w (j / 104) = -1 ∧ j % 104 = 2 * w then fO (hA g 76 (j / 104)) (nI (u (j / 104))) else if j / 104 < x ∧ ¬ pI g w (j / 104) = -1 ∧ j % 104 = 2 * w + 1 then sO (hA g 76 (j / 104)) (nI (u (j / 104))) else hA g 80 j
theorem mvQ_le (g : aH) (w : Nat) : ∀ r, mvQ g w r ≤ r
  | 0 => by unfold mvQ; omega
  | r + 1 => by
    have := mvQ_le g w r
    unfold mvQ
    split <;> omega
theorem c_move {l : Launch} {E : eE} {d bc bs : Nat} {h : aH} {K : Int32 → aH → Prop} {g : aH} {x1 x2 : Int32} (S : SH h) (ri : RI g) (e : REp g h) (hd : 6 ≤ d)
    (k2 : ¬ ((0 ≤ x1.toInt ∧ x1.toInt < 52) ∧ 0 ≤ x2.toInt ∧ x2.toInt ≤ (hI g 63 8).toInt) → K (-2) h)
    (k1 : ∀ (w n ns np : Nat) (h' : aH), x1 = nI w → x2 = nI n → w < 52 → (n : Int) ≤ (hI g 63 8).toInt → (ns : Int) = (hI g 63 14).toInt → (np : Int) = (hI g 63 3).toInt → dfM g w n ns np ns 0 (fun _ => 0) none = none → MO h h' → REp g h' → K (-1) h')
    (k0 : ∀ (w n ns np : Nat) (u : Nat → Nat) (h' : aH), x1 = nI w → x2 = nI n → w < 52 → (n : Int) ≤ (hI g 63 8).toInt → (ns : Int) = (hI g 63 14).toInt → (np : Int) = (hI g 63 3).toInt → dfM g w n ns np ns 0 (fun _ => 0) none = some u → MO h h' → REp (stAA g 80 (mvW g w u ns)) h' → K (nI (mvC g w u ns)) h') :
    CI l E d bc bs mX12_move [.inr (some (0, 12, 63)), .inl x1, .inl x2] h K := by
  obtain ⟨d, rfl⟩ : ∃ d', d = d' + 1 := ⟨d - 1, by omega⟩
  have hN := ri.1
  unfold RIn at hN
  refine bX12_move_0 S ?_
  rw [e.1.2.2.1]
  refine ⟨fun c => k2 (fun q => c q.1), fun c1 => ⟨fun c2 => ?_, fun c => k2 (fun q => c q.2)⟩⟩
  have e1 := i32_nn c1.1
  have n1 := i32_clamp c1.1
  have e2 := i32_nn c2.1
  have n2 := i32_clamp c2.1
  obtain ⟨ns, hns, ens⟩ : ∃ ns : Nat, (ns : Int) = (hI g 63 14).toInt ∧ hI g 63 14 = nI ns := ⟨_, i32_clamp hN.2.2.2.1, i32_nn hN.2.2.2.1⟩
  obtain ⟨np, hnp⟩ : ∃ np : Nat, (np : Int) = (hI g 63 3).toInt := ⟨_, i32_clamp hN.2.1.1⟩
  have kN := fun h' => k1 x1.toNatClampNeg x2.toNatClampNeg ns np h' e1 e2 (by omega) (by omega) hns hnp
  have kS := fun u h' => k0 x1.toNatClampNeg x2.toNatClampNeg ns np u h' e1 e2 (by omega) (by omega) hns hnp
  have hw : x1.toNatClampNeg < 52 := by omega
  have hn : (x2.toNatClampNeg : Int) ≤ (hI g 63 8).toInt := by omega
  clear n1 n2 k2 c1 c2 k1 k0
  generalize x1.toNatClampNeg = w at *
  generalize x2.toNatClampNeg = n at *
  subst e1 e2
  -- what was found is written
  have wr : ∀ (u : Nat → Nat) (h7 : aH) (x4 x5 : Int32), dfM g w n ns np ns 0 (fun _ => 0) none = some u → SH h7 → MO h h7 → REp g h7 → (∀ r, r < ns → LsO g h7 r) → (∀ r, r < ns → hA h7 97 r = pI g w r) → (∀ r, r < ns → ¬ pI g w r = -1 → ∃ q, q < (clO g r).length ∧ hA h7 96 r = nI q ∧ (clO g r).getD q 0 = u r) → ∀ (b x : Nat) (h8 : aH), x + b = ns → SH h8 → MO h h8 → hI h8 63 = hI h7 63 → (∀ a, a ≠ 80 → hA h8 a = hA h7 a) → hA h8 80 = mvW g w u x → LX12_move_399 l E (d + 1) bc bs (nI w) (nI n) (nI (mvC g w u ns)) x4 x5 (nI x) h8 K := by
    intro u h7 x4 x5 hu S7 mo7 e7 ls7 was7 b96 b
    induction b with
    | zero =>
      intro x h8 hx S8 mo8 qI qA q80
      have hx : x = ns := by omega
      subst hx
      refine bX12_move_399 S8 ⟨fun _ => kS u h8 hu mo8 ⟨?_, fun c h1 h2 => ?_⟩, fun c => absurd ?_ c⟩
      · rw [qI]; exact e7.1
      · by_cases y : c = 80
        · subst y; rw [hA_AA]; exact q80
        · rw [hA_AAn _ _ y, qA c y]; exact e7.2 c h1 h2
      · rw [qI, e7.1.2.2.2.1, ens]; exact nI_le (Nat.le_refl x) (by omega)
    | succ b ih =>
      intro x h8 hx S8 mo8 qI qA q80
      refine bX12_move_399 S8 ⟨fun c => absurd c (by rw [qI, e7.1.2.2.2.1, ens]; exact nI_ge (by omega) (by omega)), fun _ => ⟨vp_in_nI (by omega) (by omega), ?_⟩⟩
      rw [nI_clamp (n := x) (by omega), qA 97 (by decide), was7 x (by omega), nI_add x 1]
      refine ⟨fun pl => ?_, fun pl => ih (x + 1) h8 (by omega) S8 mo8 qI qA ?_⟩
      · obtain ⟨q, hq, p1, p2⟩ := b96 x (by omega) pl
        obtain ⟨l1, l2⟩ := (ls7 x (by omega)).2 q hq
        have hl15 : (clO g x).length ≤ 15 := cls_len (by have := op6 ri (s := x) (by omega); have := i32_clamp this.1; omega)
        rw [show (cls (hA g 76 x) (hA g 77 x).toNatClampNeg).getD q 0 = u x from p2] at l1 l2
        have ee : nI 2 * (nI 52 * nI x + nI w) = nI (104 * x + 2 * w) := by rw [nI_mul, nI_add, nI_mul, show 2 * (52 * x + w) = 104 * x + 2 * w by omega]
        rw [qA 96 (by decide), p1, ix2 (by omega), ee, nI_add (104 * x + 2 * w) 1, nI_clamp (n := 104 * x + 2 * w) (by omega), nI_clamp (n := 104 * x + 2 * w + 1) (by omega), qA 85 (by decide), qA 86 (by decide), l1, l2]
        refine ⟨vp2 (by omega) (by omega), vp_in_nI (by omega) (by omega), vp_in_nI (by omega) (by omega), ih (x + 1) _ (by omega) (((mo_A h8 _ _ (by decide)).tr (mo_A _ _ _ (by decide))).sh S8) ((mo8.tr (mo_A h8 _ _ (by decide))).tr (mo_A _ _ _ (by decide))) qI (fun a ha => ?_) ?_⟩
        · rw [hA_stn _ _ _ _ ha, hA_stn _ _ _ _ ha]; exact qA a ha
        · funext j
          rw [hA_st, hA_st, q80]
          unfold mvW
          by_cases y1 : j = 104 * x + 2 * w + 1
          · subst y1
            have d1 : (104 * x + 2 * w + 1) / 104 = x := by omega
            have d2 : (104 * x + 2 * w + 1) % 104 = 2 * w + 1 := by omega
            rw [if_pos ⟨rfl, rfl⟩, d1, d2, if_neg (fun z => by omega), if_pos ⟨by omega, pl, rfl⟩]
          · rw [if_neg (fun z => y1 z.2)]
            by_cases y2 : j = 104 * x + 2 * w
            · subst y2
              have d1 : (104 * x + 2 * w) / 104 = x := by omega
              have d2 : (104 * x + 2 * w) % 104 = 2 * w := by omega
              rw [if_pos ⟨rfl, rfl⟩, d1, d2, if_pos ⟨by omega, pl, rfl⟩]
            · rw [if_neg (fun z => y2 z.2)]
              have c1 : (j / 104 < x ∧ ¬ pI g w (j / 104) = -1 ∧ j % 104 = 2 * w) ↔ (j / 104 < x + 1 ∧ ¬ pI g w (j / 104) = -1 ∧ j % 104 = 2 * w) := ⟨fun z => ⟨by omega, z.2⟩, fun z => ⟨by omega, z.2⟩⟩
              have c2 : (j / 104 < x ∧ ¬ pI g w (j / 104) = -1 ∧ j % 104 = 2 * w + 1) ↔ (j / 104 < x + 1 ∧ ¬ pI g w (j / 104) = -1 ∧ j % 104 = 2 * w + 1) := ⟨fun z => ⟨by omega, z.2⟩, fun z => ⟨by omega, z.2⟩⟩
              rw [if_iff c1, if_iff c2]
      · rw [q80]
        funext j
        unfold mvW
        have c0 : ∀ P : Prop, (j / 104 < x ∧ ¬ pI g w (j / 104) = -1 ∧ P) ↔ (j / 104 < x + 1 ∧ ¬ pI g w (j / 104) = -1 ∧ P) := fun P => ⟨fun z => ⟨by omega, z.2⟩, fun z => ⟨by
          have : j / 104 ≠ x := fun t => z.2.1 (by rw [t]; exact pl)
          omega, z.2⟩⟩
        rw [if_iff (c0 (j % 104 = 2 * w)), if_iff (c0 (j % 104 = 2 * w + 1))]
  -- with the lists made: the walk
  have walk : ∀ (h3 : aH), MO h h3 → MW g h3 w n → pkO g h3 (pI g w) (pJ g w) 4 → (∀ r, r < ns → LsO g h3 r) → (∀ r, r < 4 → hA h3 97 r = pI g w r ∧ hA h3 98 r = pJ g w r ∧ hA h3 95 r = -1 ∧ ∀ p, p < 12 → hA h3 83 (12 * r + p) = nI 0) → LX12_move_126 l E (d + 1) bc bs (nI w) (nI n) (-1) (nI 0) (nI 0) h3 K := fun h3 mo3 m3 pk3 ls3 st3 => by
    have C : MvC g w n ns np h3 := ⟨m3, hns, hnp, ls3, fun r hr => ⟨(st3 r (by omega)).1, (st3 r (by omega)).2.1⟩⟩
    refine w_mdfs (h := h) C (by omega) ns 0 h3 (-1) (nI 0) (fun _ => 0) (fun _ => 0) none (by omega) ⟨MvF.rf h3, ⟨fun x hx => absurd hx (Nat.not_lt_zero x), fun x p hx _ => absurd hx (Nat.not_lt_zero x)⟩, fun x _ hx => (st3 x (by omega)).2.2.1, fun x hx => absurd hx (Nat.not_lt_zero x), fun r hr hn => ?_, fun _ => rfl, fun u hu => (by cases hu)⟩ (fun h' x3' x5' st => ?_)
    · obtain ⟨a, b, -⟩ := pk3 r (by omega)
      refine ⟨a.trans hn, ?_, (st3 r (by omega)).2.2.2⟩
      rw [b]
      rcases okN_pl ri (s := r) (by omega) hw with t | ⟨i', t, hi, -⟩
      · exact t.2
      · have h6 := op6 ri (s := r) (by omega)
        rw [t] at hn
        exact absurd hn (nI_m1 (by omega))
    · obtain ⟨mf, -, -, -, -, mb⟩ := st
      have lt : nI 0 + (-1 : Int32) < 0 := by decide
      have m' := mf.mw m3
      refine bX12_move_126 m'.1 ⟨fun _ => ?_, fun c => absurd lt c⟩
      cases er : dfM g w n ns np ns 0 (fun _ => 0) none with
      | none =>
        rw [er] at mb
        exact ⟨fun c => absurd (mb.1 rfl) c, fun _ => kN h' er (mo3.tr mf.1) m'.2.2.1⟩
      | some u =>
        rw [er] at mb
        obtain ⟨b1, b2, b3⟩ := mb.2 u rfl
        have cu : mvC g w u ns ≤ 4 := by
          have := mvC_le (g := g) (w := w) (v := u) ns
          have := mvQ_le g w ns
          omega
        rw [b1]
        refine ⟨fun _ => wr u h' _ _ er m'.1 (mo3.tr mf.1) m'.2.2.1 (fun r hr => (ls3 r hr).ar (mf.2.2 85 (by unfold mvA; omega)) (mf.2.2 86 (by unfold mvA; omega)) (mf.2.2 87 (by unfold mvA; omega))) (fun r hr => by rw [mf.2.2 97 (by unfold mvA; omega)]; exact (st3 r (by omega)).1) b3 ns 0 h' (by omega) m'.1 (mo3.tr mf.1) rfl (fun _ _ => rfl) ?_, fun c => absurd c (nI_m1 (by omega))⟩
        rw [m'.2.2.1.2 80 (by decide) (by decide)]
        funext j
        unfold mvW
        rw [if_neg (fun z => Nat.not_lt_zero _ z.1), if_neg (fun z => Nat.not_lt_zero _ z.1)]
  -- the lists
  have lists : ∀ (b s : Nat) (h3 : aH), s + b = ns → MO h h3 → MW g h3 w n → pkO g h3 (pI g w) (pJ g w) 4 → (∀ r, r < s → LsO g h3 r) → (∀ r, r < 4 → hA h3 97 r = pI g w r ∧ hA h3 98 r = pJ g w r ∧ hA h3 95 r = -1 ∧ ∀ p, p < 12 → hA h3 83 (12 * r + p) = nI 0) → LX12_move_99 l E (d + 1) bc bs (nI w) (nI n) (nI s) h3 K := by
    intro b
    induction b with
    | zero =>
      intro s h3 hs mo3 m3 pk3 ls3 st3
      have hs : s = ns := by omega
      subst hs
      refine bX12_move_99 m3.1 ⟨fun _ => walk h3 mo3 m3 pk3 ls3 st3, fun c => absurd (by rw [m3.rg.2.2.2.2.2, ens]; exact nI_le (Nat.le_refl s) (by omega)) c⟩
    | succ b ih =>
      intro s h3 hs mo3 m3 pk3 ls3 st3
      refine bX12_move_99 m3.1 ⟨fun c => absurd c (by rw [m3.rg.2.2.2.2.2, ens]; exact nI_ge (by omega) (by omega)), fun _ => c_lists m3.1 ri m3.2.2.1 (by omega) (fun h4 c4 ls4 => ⟨c4.1.sh m3.1, ?_⟩)⟩
      rw [nI_add]
      have ar : ∀ a, 64 ≤ a → a ≤ 98 → a ≠ 85 → a ≠ 86 → a ≠ 87 → hA h4 a = hA h3 a := c4.2.2.1
      refine ih (s + 1) h4 (by omega) (mo3.tr c4.1) ⟨c4.1.sh m3.1, ri, c4.p m3.2.2.1, by rw [c4.2.1]; exact m3.2.2.2.1, by rw [c4.2.1]; exact m3.2.2.2.2.1, m3.2.2.2.2.2⟩ ?_ (fun r hr => ?_) ?_
      · unfold pkO
        rw [ar 81 (by decide) (by decide) (by decide) (by decide) (by decide), ar 82 (by decide) (by decide) (by decide) (by decide) (by decide)]
        exact pk3
      · by_cases y : r = s
        · rw [y]; exact ls4
        · have l0 := ls3 r (by omega)
          have h6 := op6 ri (s := r) (by omega)
          have hl15 : (clO g r).length ≤ 15 := cls_len (by have := i32_clamp h6.1; omega)
          refine ⟨by rw [c4.2.2.2.2 r y]; exact l0.1, fun q hq => ?_⟩
          have hq' : q < (clO g r).length := hq
          obtain ⟨t1, t2⟩ := c4.2.2.2.1 (15 * r + q) (by omega)
          rw [t1, t2]; exact l0.2 q hq
      · rw [ar 97 (by decide) (by decide) (by decide) (by decide) (by decide), ar 98 (by decide) (by decide) (by decide) (by decide) (by decide), ar 95 (by decide) (by decide) (by decide) (by decide) (by decide), ar 83 (by decide) (by decide) (by decide) (by decide) (by decide)]
        exact st3
  -- the start
  refine c_takesWeek2 S ri e hw hn (fun h3 m3 mo3 pk3 ar3 => ⟨m3.1, ?_⟩)
  have init : ∀ (b s : Nat) (h4 : aH), s + b = 4 → MO h h4 → MW g h4 w n → pkO g h4 (pI g w) (pJ g w) 4 → (∀ r, r < s → hA h4 97 r = pI g w r ∧ hA h4 98 r = pJ g w r ∧ hA h4 95 r = -1 ∧ ∀ p, p < 12 → hA h4 83 (12 * r + p) = nI 0) → LX12_move_26 l E (d + 1) bc bs (nI w) (nI n) (nI s) h4 K := by
    intro b
    induction b with
    | zero =>
      intro s h4 hs mo4 m4 pk4 st4
      have hs : s = 4 := by omega
      subst hs
      exact bX12_move_26 m4.1 ⟨fun _ => lists ns 0 h4 (by omega) mo4 m4 pk4 (fun r hr => absurd hr (Nat.not_lt_zero r)) st4, fun c => absurd (nI_le (Nat.le_refl 4) (by omega)) c⟩
    | succ b ih =>
      intro s h4 hs mo4 m4 pk4 st4
      obtain ⟨q1, q2, -⟩ := pk4 s (by omega)
      refine bX12_move_26 m4.1 ⟨fun c => absurd c (nI_ge (by omega) (by omega)), fun _ => ⟨vp_in_nI (by omega) (by omega), ?_⟩⟩
      rw [nI_clamp (n := s) (by omega), q1, q2]
      have zr : ∀ (b2 p : Nat) (h5 : aH), p + b2 = 12 → MO h h5 → MW g h5 w n → pkO g h5 (pI g w) (pJ g w) 4 → (∀ r, r < s → hA h5 97 r = pI g w r ∧ hA h5 98 r = pJ g w r ∧ hA h5 95 r = -1 ∧ ∀ p, p < 12 → hA h5 83 (12 * r + p) = nI 0) → (hA h5 97 s = pI g w s ∧ hA h5 98 s = pJ g w s ∧ hA h5 95 s = -1) → (∀ p', p' < p → hA h5 83 (12 * s + p') = nI 0) → LX12_move_65 l E (d + 1) bc bs (nI w) (nI n) (nI s) (nI p) h5 K := by
        intro b2
        induction b2 with
        | zero =>
          intro p h5 hp mo5 m5 pk5 st5 ss5 z5
          have hp : p = 12 := by omega
          subst hp
          refine bX12_move_65 m5.1 ⟨fun _ => ?_, fun c => absurd (nI_le (Nat.le_refl 12) (by omega)) c⟩
          rw [nI_add]
          refine ih (s + 1) h5 (by omega) mo5 m5 pk5 (fun r hr => ?_)
          by_cases y : r = s
          · rw [y]; exact ⟨ss5.1, ss5.2.1, ss5.2.2, z5⟩
          · exact st5 r (by omega)
        | succ b2 ih2 =>
          intro p h5 hp mo5 m5 pk5 st5 ss5 z5
          refine bX12_move_65 m5.1 ⟨fun c => absurd c (nI_ge (by omega) (by omega)), fun _ => ⟨vp2 (by omega) (by omega), ?_⟩⟩
          rw [ix2 (by omega), nI_add]
          refine ih2 (p + 1) _ (by omega) (mo5.tr (mo_A h5 _ _ (by decide))) (m5.sa _ _ (by decide)) ?_ (fun r hr => ?_) ?_ (fun p' hp' => ?_)
          · unfold pkO; rw [hA_stn _ _ _ _ (by decide), hA_stn _ _ _ _ (by decide)]; exact pk5
          · rw [hA_stn _ _ _ _ (show 97 ≠ 83 by decide), hA_stn _ _ _ _ (show 98 ≠ 83 by decide), hA_stn _ _ _ _ (show 95 ≠ 83 by decide)]
            obtain ⟨t1, t2, t3, t4⟩ := st5 r hr
            exact ⟨t1, t2, t3, fun p2 hp2 => by rw [hA_st, if_neg (by omega)]; exact t4 p2 hp2⟩
          · rw [hA_stn _ _ _ _ (show 97 ≠ 83 by decide), hA_stn _ _ _ _ (show 98 ≠ 83 by decide), hA_stn _ _ _ _ (show 95 ≠ 83 by decide)]; exact ss5
          · rw [hA_st]
            by_cases y : p' = p
            · rw [if_pos ⟨rfl, by rw [y]⟩]
            · rw [if_neg (fun z => by omega)]; exact z5 p' (by omega)
      refine zr 12 0 _ (by omega) (((mo4.tr (mo_A h4 _ _ (by decide))).tr (mo_A _ _ _ (by decide))).tr (mo_A _ _ _ (by decide))) (((m4.sa _ _ (by decide)).sa _ _ (by decide)).sa _ _ (by decide)) ?_ (fun r hr => ?_) ⟨?_, ?_, ?_⟩ (fun p' hp' => absurd hp' (Nat.not_lt_zero p'))
      · unfold pkO
        rw [hA_stn _ _ _ _ (by decide), hA_stn _ _ _ _ (by decide), hA_stn _ _ _ _ (by decide), hA_stn _ _ _ _ (by decide), hA_stn _ _ _ _ (by decide), hA_stn _ _ _ _ (by decide)]
        exact pk4
      · obtain ⟨t1, t2, t3, t4⟩ := st4 r hr
        refine ⟨?_, ?_, ?_, fun p hp => ?_⟩
        · rw [hA_stn _ _ _ _ (by decide), hA_stn _ _ _ _ (by decide), hA_st, if_neg (by omega)]; exact t1
        · rw [hA_stn _ _ _ _ (by decide), hA_st, if_neg (by omega), hA_stn _ _ _ _ (by decide)]; exact t2
        · rw [hA_st, if_neg (by omega), hA_stn _ _ _ _ (by decide), hA_stn _ _ _ _ (by decide)]; exact t3
        · rw [hA_stn _ _ _ _ (by decide), hA_stn _ _ _ _ (by decide), hA_stn _ _ _ _ (by decide)]; exact t4 p hp
      · rw [hA_stn _ _ _ _ (by decide), hA_stn _ _ _ _ (by decide), hA_st, if_pos ⟨rfl, rfl⟩]
      · rw [hA_stn _ _ _ _ (by decide), hA_st, if_pos ⟨rfl, rfl⟩]
      · rw [hA_st, if_pos ⟨rfl, rfl⟩]
  exact init 4 0 h3 (by omega) mo3 m3 pk3 (fun r hr => absurd hr (Nat.not_lt_zero r))
