/-! ===== the reference: comeAll, takesWeek ===== -/
theorem aa_cm {h : aH} {a b : Nat} (f g : Nat → Int32) (ne : a ≠ b) : stAA (stAA h a f) b g = stAA (stAA h b g) a f := by
  show (hI h, hR h, up1 (up1 (hA h) a f) b g, _) = (hI h, hR h, up1 (up1 (hA h) b g) a f, _)
  have : up1 (up1 (hA h) a f) b g = up1 (up1 (hA h) b g) a f := by
    funext j
    unfold up1
    by_cases c : j = b
    · rw [if_pos c, if_neg (fun z => ne (z.symm.trans c)), if_pos c]
    · rw [if_neg c]
      by_cases c2 : j = a
      · rw [if_pos c2, if_pos c2]
      · rw [if_neg c2, if_neg c2, if_neg c]
  rw [this]
  rfl
abbrev h34 (h : aH) (f f' : Nat → Int32) : aH := stAA (stAA h 83 f) 84 f'
theorem h34_id (h : aH) : h34 h (hA h 83) (hA h 84) = h := by
  show stAA (stAA h 83 (hA h 83)) 84 (hA h 84) = h
  rw [stAA_id, stAA_id]
theorem h34_83 (h : aH) (f f' : Nat → Int32) : hA (h34 h f f') 83 = f := by
  show hA (stAA (stAA h 83 f) 84 f') 83 = f
  rw [hA_AAn _ _ (by decide), hA_AA]
theorem h34_n (h : aH) (f f' : Nat → Int32) {a : Nat} (h3 : a ≠ 83) (h4 : a ≠ 84) : hA (h34 h f f') a = hA h a := by
  show hA (stAA (stAA h 83 f) 84 f') a = _
  rw [hA_AAn _ _ h4, hA_AAn _ _ h3]
theorem h34_st (h : aH) (f f' : Nat → Int32) (k : Nat) (v : Int32) : stA (h34 h f f') 83 k v = h34 h (fun j => if j = k then v else f j) f' := by
  show stA (stAA (stAA h 83 f) 84 f') 83 k v = stAA (stAA h 83 _) 84 f'
  rw [aa_cm f f' (by decide), stA_stAA, aa_cm _ f' (by decide)]
theorem MW.h34 {g h : aH} {w n : Nat} (m : MW g h w n) (f f' : Nat → Int32) : MW g (h34 h f f') w n := (m.aa f (by decide)).aa f' (by decide)
/-- the rows of the first s series stand in f -/
def rwO (g : aH) (w n : Nat) (pi pj : Nat → Int32) (s : Nat) (f : Nat → Int32) : Prop := ∀ r p, r < s → p < 12 → f (12 * r + p) = cmV (tbO g w n pi pj (r + 1) r p 0) (tbO g w n pi pj (r + 1) r p 1)
def pkO (g h : aH) (pi pj : Nat → Int32) (s : Nat) : Prop := ∀ r, r < s → hA h 81 r = pi r ∧ hA h 82 r = pj r ∧ okN g r (pi r) (pj r)
theorem MC.mk {g h : aH} {w n : Nat} {pi pj : Nat → Int32} {s : Nat} {f f' : Nat → Int32} (pk : pkO g h pi pj s) (rw_ : rwO g w n pi pj s f) : MC g (h34 h f f') w n pi pj s := by
  unfold MC
  rw [h34_83, h34_n h f f' (by decide) (by decide), h34_n h f f' (by decide) (by decide)]
  exact ⟨pk, rw_⟩
theorem w_come53 {l : Launch} {E : eE} {d bc bs : Nat} {h : aH} {K : aH → Prop} {g : aH} {w n s u : Nat} {pi pj : Nat → Int32} (m : MW g h w n) (hd : 4 ≤ d) (hu : u ≤ 4) (pk : pkO g h pi pj u) (hsu : s < u) (hs : (s : Int) < (hI g 63 14).toInt) (c : ¬ pi s = -1) {f' : Nat → Int32} (fs : ∀ f, FS g (h34 h f f') w n pi pj s) {np : Nat} (hnp : (np : Int) = (hI g 63 3).toInt)
    (k : ∀ f, rwO g w n pi pj (s + 1) f → LX12_comeAll_2 l E (d + 1) bc bs (nI u) (nI (s + 1)) (h34 h f f') K) :
    ∀ (j p : Nat) (f : Nat → Int32), p + j = np → rwO g w n pi pj s f → (∀ q, q < 12 → f (12 * s + q) = if q < p then cmV (tbO g w n pi pj (s + 1) s q 0) (tbO g w n pi pj (s + 1) s q 1) else nI 0) → LX12_comeAll_53 l E (d + 1) bc bs (nI u) (nI s) (nI p) (h34 h f f') K := by
  have hg := m.rg
  have enp : hI h 63 3 = nI np := by rw [hg.2.2.2.1, i32_nn hg.1.1, show (hI g 63 3).toNatClampNeg = np by have := i32_clamp hg.1.1; omega]
  obtain ⟨e1, e2, ok⟩ := pk s hsu
  intro j
  induction j with
  | zero =>
    intro p f hp h1 h2
    have hp : p = np := by omega
    subst hp
    refine bX12_comeAll_53 (m.h34 f f').1 ⟨fun _ => ?_, fun z => absurd ?_ z⟩
    · rw [nI_add]
      refine k f (fun r q hr hq => ?_)
      by_cases e : r = s
      · subst e
        rw [h2 q hq]
        by_cases y : q < p
        · rw [if_pos y]
        · rw [if_neg y, cm00 (fun z => ?_) (fun z => ?_)]
          · have := ((tbO_in (Nat.lt_succ_self r)).mp z).2.1; omega
          · have := ((tbO_in (Nat.lt_succ_self r)).mp z).2.1; omega
      · exact h1 r q (by omega) hq
    · show hI h 63 3 ≤ _
      rw [enp]; exact nI_le (Nat.le_refl p) (by omega)
  | succ j ih =>
    intro p f hp h1 h2
    refine bX12_comeAll_53 (m.h34 f f').1 ⟨fun z => absurd z ?_, fun _ => ⟨vp_in_nI (by omega) (by omega), ?_⟩⟩
    · show ¬ hI h 63 3 ≤ _
      rw [enp]; exact nI_ge (by omega) (by omega)
    · rw [nI_clamp (n := s) (by omega), h34_n h f f' (by decide) (by decide), h34_n h f f' (by decide) (by decide), e1, e2]
      refine c_comesTo (m.h34 f f') (fs f) (by omega) hs (by omega) (ok.resolve_left (fun z => c z.1)) ⟨(m.h34 f f').1, vp2 (by omega) (by omega), ?_⟩
      rw [ix2 (by omega), h34_st, nI_add]
      have tt : ∀ b, b < 2 → (coF g w n s (frP g w n pi pj s) p (pi s) (pj s) b ↔ tbO g w n pi pj (s + 1) s p b) := fun b hb => by
        rw [tbO_in (Nat.lt_succ_self s)]
        exact ⟨fun z => ⟨c, by omega, hb, z⟩, fun z => z.2.2.2⟩
      refine ih (p + 1) _ (by omega) (fun r q hr hq => ?_) (fun q hq => ?_)
      · rw [if_neg (by omega)]
        exact h1 r q hr hq
      · by_cases y : q = p
        · subst y
          rw [if_pos rfl, if_pos (by omega)]
          exact cmV_iff (tt 0 (by decide)) (tt 1 (by decide))
        · rw [if_neg (by omega), h2 q hq]
          by_cases y2 : q < p
          · rw [if_pos y2, if_pos (by omega)]
          · rw [if_neg y2, if_neg (by omega)]
theorem w_come9 {l : Launch} {E : eE} {d bc bs : Nat} {h : aH} {K : aH → Prop} {g : aH} {w n s u : Nat} {pi pj : Nat → Int32} {f' : Nat → Int32} (m : MW g h w n) (hu : u ≤ 4) (hsu : s < u) (k : ∀ f, rwO g w n pi pj s f → (∀ q, q < 12 → f (12 * s + q) = nI 0) → LX12_comeAll_9 l E (d + 1) bc bs (nI u) (nI s) (nI 12) (h34 h f f') K) :
    ∀ (j p : Nat) (f : Nat → Int32), p + j = 12 → rwO g w n pi pj s f → (∀ q, q < p → f (12 * s + q) = nI 0) → LX12_comeAll_9 l E (d + 1) bc bs (nI u) (nI s) (nI p) (h34 h f f') K := by
  intro j
  induction j with
  | zero =>
    intro p f hp h1 h2
    have hp : p = 12 := by omega
    subst hp
    exact k f h1 h2
  | succ j ih =>
    intro p f hp h1 h2
    refine bX12_comeAll_9 (m.h34 f f').1 ⟨fun z => absurd z (nI_ge (by omega) (by omega)), fun _ => ⟨vp2 (by omega) (by omega), ?_⟩⟩
    rw [ix2 (by omega), h34_st, nI_add]
    refine ih (p + 1) _ (by omega) (fun r q hr hq => ?_) (fun q hq => ?_)
    · rw [if_neg (by omega)]
      exact h1 r q hr hq
    · by_cases y : q = p
      · subst y; rw [if_pos rfl]
      · rw [if_neg (by omega)]; exact h2 q (by omega)
theorem c_comeAll {l : Launch} {E : eE} {d bc bs : Nat} {h : aH} {K : aH → Prop} {g : aH} {w n u : Nat} {pi pj : Nat → Int32} (m : MW g h w n) (hd : 5 ≤ d) (hu : (u : Int) ≤ (hI g 63 14).toInt) (pk : pkO g h pi pj u) (k : ∀ f f', MC g (h34 h f f') w n pi pj u → K (h34 h f f')) : CV l E d bc bs mX12_comeAll [.inr (some (0, 12, 63)), .inl (nI u)] h K := by
  obtain ⟨d, rfl⟩ : ∃ d', d = d' + 1 := ⟨d - 1, by omega⟩
  have hg := m.rg
  obtain ⟨np, hnp⟩ : ∃ np : Nat, (np : Int) = (hI g 63 3).toInt := ⟨_, i32_clamp hg.1.1⟩
  have w2 : ∀ (j s : Nat) (f f' : Nat → Int32), s + j = u → rwO g w n pi pj s f → LX12_comeAll_2 l E (d + 1) bc bs (nI u) (nI s) (h34 h f f') K := by
    intro j
    induction j with
    | zero =>
      intro s f f' hs h1
      have hs : s = u := by omega
      subst hs
      exact bX12_comeAll_2 (m.h34 f f').1 ⟨fun _ => k f f' (MC.mk pk h1), fun c => absurd (nI_le (Nat.le_refl s) (by omega)) c⟩
    | succ j ih =>
      intro s f f' hs h1
      obtain ⟨e1, e2, ok⟩ := pk s (by omega)
      refine bX12_comeAll_2 (m.h34 f f').1 ⟨fun z => absurd z (nI_ge (by omega) (by omega)), fun _ => w_come9 m (by omega) (by omega) (fun f h1 h2 => ?_) 12 0 f (by omega) h1 (fun q hq => absurd hq (Nat.not_lt_zero q))⟩
      refine bX12_comeAll_9 (m.h34 f f').1 ⟨fun _ => ⟨vp_in_nI (by omega) (by omega), ?_⟩, fun c => absurd (nI_le (Nat.le_refl 12) (by omega)) c⟩
      rw [nI_clamp (n := s) (by omega), h34_n h f f' (by decide) (by decide), e1]
      refine ⟨fun c => ?_, fun c => ?_⟩
      · refine c_asksFree (m.h34 f f') (MC.mk (fun r hr => pk r (by omega)) h1) (by omega) (by omega) (fun f2 fs => ?_)
        rw [show stAA (h34 h f f') 84 f2 = h34 h f f2 from stAA_AA _ 84 f' f2] at fs ⊢
        refine ⟨(m.h34 f f2).1, w_come53 m (by omega) (by omega) pk (by omega) (by omega) c (fun f3 => ?_) hnp (fun f3 h3 => ih (s + 1) f3 f2 (by omega) h3) np 0 f (by omega) h1 (fun q hq => by rw [if_neg (Nat.not_lt_zero q)]; exact h2 q hq)⟩
        intro p i hp hi
        have := fs p i hp hi
        rw [show hA (h34 h f f2) 84 = f2 from hA_AA _ 84 f2] at this
        rw [show hA (h34 h f3 f2) 84 = f2 from hA_AA _ 84 f2]
        exact this
      · rw [nI_add]
        refine ih (s + 1) f f' (by omega) (fun r q hr hq => ?_)
        by_cases e : r = s
        · subst e
          rw [h2 q hq, cm00 (fun z => tbI z c) (fun z => tbI z c)]
        · exact h1 r q (by omega) hq
  refine bX12_comeAll_0 m.1 ?_
  have := w2 u 0 (hA h 83) (hA h 84) (by omega) (fun r q hr _ => absurd hr (Nat.not_lt_zero r))
  rw [h34_id] at this
  exact this
/-- the picks of week w as they are planned -/
abbrev pI (g : aH) (w : Nat) : Nat → Int32 := fun s => plI g s w
abbrev pJ (g : aH) (w : Nat) : Nat → Int32 := fun s => plJ g s w
theorem okN_pl {g : aH} (S : RI g) {s w : Nat} (hs : s < 4) (hw : w < 52) : okN g s (pI g w s) (pJ g w s) := by
  rcases RPl.at S hs hw with p | ⟨p0, i, p1, p2, p3, p4⟩
  · exact Or.inl p
  · refine Or.inr ⟨i, p1, p2, ?_⟩
    rcases p4 with p4 | ⟨p5, j, p6, p7, p8, -⟩
    · exact Or.inl p4
    · exact Or.inr ⟨p5, j, p6, p7, p8⟩
theorem c_takesWeek2 {l : Launch} {E : eE} {d bc bs : Nat} {h : aH} {K : aH → Prop} {g : aH} {w n : Nat} (S : SH h) (ri : RI g) (e : REp g h) (hw : w < 52) (hn : (n : Int) ≤ (hI g 63 8).toInt) (k : ∀ h', MW g h' w n → MO h h' → pkO g h' (pI g w) (pJ g w) 4 → (∀ a, a ≠ 81 → a ≠ 82 → hA h' a = hA h a) → K h') : CV l E d bc bs mX12_takesWeek [.inr (some (0, 12, 63)), .inl (nI w), .inl (nI n)] h K := by
  have m0 : MW g (stI (stI h 63 22 (nI w)) 63 23 (nI n)) w n := ⟨((mo_I h 22 (nI w)).tr (mo_I _ 23 (nI n))).sh S, ri, (e.si (k := 22) (nI w) (by decide) (by decide) (by decide) (by decide) (by decide)).si (nI n) (by decide) (by decide) (by decide) (by decide) (by decide), rfl, rfl, hw, hn⟩
  have ar0 : ∀ a, a ≠ 81 → a ≠ 82 → hA (stI (stI h 63 22 (nI w)) 63 23 (nI n)) a = hA h a := fun _ _ _ => rfl
  have mo0 : MO h (stI (stI h 63 22 (nI w)) 63 23 (nI n)) := (mo_I h 22 (nI w)).tr (mo_I _ 23 (nI n))
  refine bX12_takesWeek_0 S ?_
  generalize stI (stI h 63 22 (nI w)) 63 23 (nI n) = h0 at m0 mo0 ar0
  have w2 : ∀ (j s : Nat) (h1 : aH), s + j = 4 → MW g h1 w n → MO h h1 → (∀ a, a ≠ 81 → a ≠ 82 → hA h1 a = hA h a) → (∀ r, r < s → hA h1 81 r = pI g w r ∧ hA h1 82 r = pJ g w r) → LX12_takesWeek_12 l E d bc bs (nI w) (nI n) (nI s) h1 K := by
    intro j
    induction j with
    | zero =>
      intro s h1 hs m mo ar hp
      have hs : s = 4 := by omega
      subst hs
      exact bX12_takesWeek_12 m.1 ⟨fun _ => k h1 m mo (fun r hr => ⟨(hp r hr).1, (hp r hr).2, okN_pl ri hr hw⟩) ar, fun c => absurd (nI_le (Nat.le_refl 4) (by omega)) c⟩
    | succ j ih =>
      intro s h1 hs m mo ar hp
      have e2 : nI 2 * (nI 52 * nI s + nI w) = nI (2 * (52 * s + w)) := by rw [nI_mul, nI_add, nI_mul]
      refine bX12_takesWeek_12 m.1 ⟨fun c => absurd c (nI_ge (by omega) (by omega)), fun _ => ?_⟩
      rw [e2, nI_add, nI_add, nI_clamp (n := s) (by omega), nI_clamp (n := 2 * (52 * s + w)) (by omega), nI_clamp (n := 2 * (52 * s + w) + 1) (by omega), m.2.2.1.2 80 (by decide) (by decide)]
      refine ⟨vp_in_nI (by omega) (by omega), vp_in_nI (by omega) (by omega), vp_in_nI (by omega) (by omega), ih (s + 1) _ (by omega) ?_ ((mo.tr (mo_A h1 s _ (by decide))).tr (mo_A _ s _ (by decide))) (fun a h8 h9 => ((up2_ne h9).trans (up2_ne h8)).trans (ar a h8 h9)) (fun r hr => ?_)⟩
      · rw [stA_AA h1, stA_AA (stAA h1 81 _)]
        exact (m.aa _ (by decide)).aa _ (by decide)
      · rw [stA_AA h1, stA_AA (stAA h1 81 _), hA_AA, hA_AAn (b := 81) _ _ (by decide), hA_AA, hA_AAn (b := 82) _ _ (by decide)]
        show (if r = s then hA g 80 (2 * (52 * s + w)) else hA h1 81 r) = hA g 80 (104 * r + 2 * w) ∧ (if r = s then hA g 80 (2 * (52 * s + w) + 1) else hA h1 82 r) = hA g 80 (104 * r + 2 * w + 1)
        by_cases c : r = s
        · subst c
          rw [if_pos rfl, if_pos rfl, show 2 * (52 * r + w) = 104 * r + 2 * w by omega]
          exact ⟨rfl, rfl⟩
        · rw [if_neg c, if_neg c]
          exact hp r (by omega)
  exact w2 4 0 h0 (by omega) m0 mo0 ar0 (fun r hr => absurd hr (Nat.not_lt_zero r))
theorem c_takesWeek {l : Launch} {E : eE} {d bc bs : Nat} {h : aH} {K : aH → Prop} {g : aH} {w n : Nat} (S : SH h) (ri : RI g) (e : REp g h) (hw : w < 52) (hn : (n : Int) ≤ (hI g 63 8).toInt) (k : ∀ h', MW g h' w n → MO h h' → pkO g h' (pI g w) (pJ g w) 4 → K h') : CV l E d bc bs mX12_takesWeek [.inr (some (0, 12, 63)), .inl (nI w), .inl (nI n)] h K :=
  c_takesWeek2 S ri e hw hn (fun h' a b c _ => k h' a b c)
/-! the price -/
theorem pc00 {g : aH} {w n s p : Nat} {i j : Int32} {t0 t1 : Prop} (h0 : ¬ t0) (h1 : ¬ t1) : pcO g w n s p i j t0 t1 = nI 0 + nI 0 := by unfold pcO; rw [if_neg (dec_f h0), if_neg (dec_f h1)]
theorem c_priceOf {l : Launch} {E : eE} {d bc bs : Nat} {h : aH} {K : Int32 → aH → Prop} {g : aH} {w n s p : Nat} {i j x : Int32} {t0 t1 : Prop} (m : MW g h w n) (hd : 2 ≤ d) (hs : (s : Int) < (hI g 63 14).toInt) (hp : (p : Int) < (hI g 63 3).toInt) (hx : x = cmV t0 t1) (h0 : t0 → ∃ i' : Nat, i = nI i' ∧ (i' : Int) < (hA g 77 s).toInt ∧ inO g w s i') (h1 : t1 → ∃ j' : Nat, j = nI j' ∧ (j' : Int) < (hA g 77 s).toInt ∧ inO g w s j') (k : K (pcO g w n s p i j t0 t1) h) : CI l E d bc bs mX12_priceOf [.inr (some (0, 12, 63)), .inl (nI p), .inl (nI s), .inl i, .inl j, .inl x] h K := by
  obtain ⟨d, rfl⟩ : ∃ d', d = d' + 1 := ⟨d - 1, by omega⟩
  have hg := m.rg
  have R := m.sr
  have h6 := op6 m.2.1 hs
  have hl := m.ln hs
  have hn7 := m.2.2.2.2.2.2
  unfold lnO at hl
  obtain ⟨b0, b1, -⟩ := cmV_b t0 t1
  have kn : 0 ≤ (nI n).toInt ∧ (nI n).toInt ≤ (hI g 63 8).toInt := by rw [nI_toInt (by omega)]; omega
  have ip := rng_p hp hg.1.2
  have z0 : ∀ y : Int32, nI 0 + y = y := Int32.zero_add
  have k2 : ∀ y, (t0 → y = nI 0 + prO g w n s p i.toNatClampNeg) → (¬ t0 → y = nI 0) → LX12_priceOf_37 l E (d + 1) bc bs (nI p) (nI s) i j x y h K := fun y y1 y0 => by
    refine bX12_priceOf_37 R (by omega) ?_
    rw [hx, b1]
    refine ⟨fun c => ?_, fun c => ?_⟩
    · unfold pcO at k
      rw [if_neg (dec_f c)] at k
      by_cases c0 : t0
      · rw [if_pos (dec_t c0), show ∀ y : Int32, y + nI 0 = y from Int32.add_zero] at k
        rw [y1 c0, z0]; exact k
      · rw [if_neg (dec_f c0), z0] at k
        rw [y0 c0]; exact k
    · obtain ⟨j', rfl, hj, inj⟩ := h1 c
      have s2 := stO_int (w := w) m.2.1 hs hj m.2.2.2.2.2.1
      unfold inO lnO at inj
      rw [m.slot (by omega) (by omega), nI_clamp (n := s) (by omega), m.2.2.1.2 74 (by decide) (by decide), m.2.2.2.2.1, nI_clamp (n := n) (by omega), rCosts_c m.2.2.1, hg.2.2.2.2.1, hg.2.2.2.1]
      refine ⟨⟨vp_in_nI (by omega) (by omega), vp_in_nI (by omega) (by omega)⟩, vp_in_nI (by omega) (by omega), ip, ⟨by omega, by omega, by omega, by omega⟩, kn, ?_⟩
      unfold pcO at k
      rw [if_pos (dec_t c), nI_clamp (n := j') (by omega)] at k
      by_cases c0 : t0
      · rw [if_pos (dec_t c0)] at k
        rw [y1 c0, z0]; exact k
      · rw [if_neg (dec_f c0)] at k
        rw [y0 c0]; exact k
  refine bX12_priceOf_0 R (by omega) ?_
  rw [hx, b0]
  rw [hx] at k2
  refine ⟨fun c => k2 _ (fun z => absurd z c) (fun _ => rfl), fun c => ?_⟩
  obtain ⟨i', rfl, hi, ini⟩ := h0 c
  have s1 := stO_int (w := w) m.2.1 hs hi m.2.2.2.2.2.1
  unfold inO lnO at ini
  rw [m.slot (by omega) (by omega), nI_clamp (n := s) (by omega), m.2.2.1.2 74 (by decide) (by decide), m.2.2.2.2.1, nI_clamp (n := n) (by omega), rCosts_c m.2.2.1, hg.2.2.2.2.1, hg.2.2.2.1]
  refine ⟨⟨vp_in_nI (by omega) (by omega), vp_in_nI (by omega) (by omega)⟩, vp_in_nI (by omega) (by omega), ip, ⟨by omega, by omega, by omega, by omega⟩, kn, k2 _ (fun _ => ?_) (fun z => absurd c z)⟩
  rw [nI_clamp (n := i') (by omega)]
