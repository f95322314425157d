/-! ===== the reference: takesChoice, weekSums ===== -/
theorem c_takes {l : Launch} {E : eE} {d bc bs : Nat} {h : aH} {K : Int32 → aH → Prop} {g : aH} {w n r q : Nat} {i j : Int32} {pi pj : Nat → Int32} (m : MW g h w n) (mc : MC g h w n pi pj r) (ls : LsO g h r) (hd : 5 ≤ d) (hr : (r : Int) < (hI g 63 14).toInt) (hq : q < (clO g r).length) (ea : hA h 95 r = nI q) (ei : fO (hA g 76 r) (nI ((clO g r).getD q 0)) = i) (ej : sO (hA g 76 r) (nI ((clO g r).getD q 0)) = j)
    (k1 : ftO g w pi pj r (frP g w n pi pj r) i j → ∀ f84 f83, (∀ y, (y < 12 * r ∨ 12 * r + 12 ≤ y) → f83 y = hA h 83 y) → (∀ p : Nat, p < 12 → f83 (12 * r + p) = if (p : Int) < (hI g 63 3).toInt then cmV (coF g w n r (frP g w n pi pj r) p i j 0) (coF g w n r (frP g w n pi pj r) p i j 1) else nI 0) → K (nI 1) (stAA (stA (stA (stAA h 84 f84) 81 r i) 82 r j) 83 f83))
    (k0 : ¬ ftO g w pi pj r (frP g w n pi pj r) i j → ∀ f84, K (nI 0) (stAA h 84 f84)) : CI l E d bc bs mX12_takesChoice [.inr (some (0, 12, 63)), .inl (nI r)] h K := by
  obtain ⟨d, rfl⟩ : ∃ d', d = d' + 1 := ⟨d - 1, by omega⟩
  have hg := m.rg
  have hl15 : (clO g r).length ≤ 15 := cls_len (by have := op6 m.2.1 hr; have := i32_clamp this.1; omega)
  obtain ⟨okp, ocl, oc15⟩ := clO_ok m.2.1 hr hq
  rw [ei, ej] at okp
  obtain ⟨l1, l2⟩ := ls.2 q hq
  refine bX12_takesChoice_0 m.1 (c_asksFree m mc (by omega) hr (fun f84 fs => ?_))
  have m1 := m.aa f84 (a := 84) (by decide)
  have mc1 := mc.aa f84 (a := 84) (by decide) (by decide) (by decide)
  rw [nI_clamp (n := r) (by omega), hA_AAn _ _ (show 95 ≠ 84 by decide), ea, ix2 (by omega), hA_AAn _ _ (show 85 ≠ 84 by decide), hA_AAn _ _ (show 86 ≠ 84 by decide), l1, l2]
  rw [show fO (hA g 76 r) (nI ((cls (hA g 76 r) (hA g 77 r).toNatClampNeg).getD q 0)) = i from ei, show sO (hA g 76 r) (nI ((cls (hA g 76 r) (hA g 77 r).toNatClampNeg).getD q 0)) = j from ej]
  refine ⟨m1.1, vp_in_nI (by omega) (by omega), vp2 (by omega) (by omega), c_fitsBy m1 mc1.1 fs (by omega) hr okp (fun ft => ⟨m1.1, fun _ => ?_, fun z => absurd z (by decide)⟩) (fun ft => ⟨m1.1, fun z => absurd rfl z, fun _ => k0 ft f84⟩)⟩
  -- write who comes
  have k1 := k1 ft f84
  have eb : stA (stA (stAA h 84 f84) 81 r i) 82 r j = stAA (stAA (stAA h 84 f84) 81 (fun y => if y = r then i else hA h 81 y)) 82 (fun y => if y = r then j else hA h 82 y) := by
    rw [stA_AA (stAA h 84 f84), stA_AA (stAA (stAA h 84 f84) 81 _), hA_AAn _ _ (show 81 ≠ 84 by decide), hA_AAn _ _ (show 82 ≠ 81 by decide), hA_AAn _ _ (show 82 ≠ 84 by decide)]
  have m2 : MW g (stA (stA (stAA h 84 f84) 81 r i) 82 r j) w n := by rw [eb]; exact (m1.aa _ (by decide)).aa _ (by decide)
  have fs2 : FS g (stA (stA (stAA h 84 f84) 81 r i) 82 r j) w n pi pj r := by rw [eb]; exact (fs.aa _ (by decide)).aa _ (by decide)
  have e83 : hA (stA (stA (stAA h 84 f84) 81 r i) 82 r j) 83 = hA h 83 := by rw [eb, hA_AAn _ _ (by decide), hA_AAn _ _ (by decide), hA_AAn _ _ (by decide)]
  generalize stA (stA (stAA h 84 f84) 81 r i) 82 r j = hb at m2 fs2 e83 k1
  have lp : ∀ (b p : Nat) (f : Nat → Int32), p + b = 12 → (∀ y, (y < 12 * r ∨ 12 * r + 12 ≤ y) → f y = hA h 83 y) → (∀ p', p' < p → f (12 * r + p') = if (p' : Int) < (hI g 63 3).toInt then cmV (coF g w n r (frP g w n pi pj r) p' i j 0) (coF g w n r (frP g w n pi pj r) p' i j 1) else nI 0) → LX12_takesChoice_68 l E (d + 1) bc bs (nI r) i j (nI p) (stAA hb 83 f) K := by
    intro b
    induction b with
    | zero =>
      intro p f hp h1 h2
      have hp : p = 12 := by omega
      subst hp
      exact bX12_takesChoice_68 (m2.aa f (by decide)).1 ⟨fun _ => k1 f h1 h2, fun c => absurd (nI_le (Nat.le_refl 12) (by omega)) c⟩
    | succ b ih =>
      intro p f hp h1 h2
      have m3 := m2.aa f (a := 83) (by decide)
      have st : ∀ v, v = (if (p : Int) < (hI g 63 3).toInt then cmV (coF g w n r (frP g w n pi pj r) p i j 0) (coF g w n r (frP g w n pi pj r) p i j 1) else nI 0) → LX12_takesChoice_68 l E (d + 1) bc bs (nI r) i j (nI p + nI 1) (stA (stAA hb 83 f) 83 (nI 12 * nI r + nI p).toNatClampNeg v) K := fun v hv => by
        rw [ix2 (by omega), stA_stAA, nI_add]
        refine ih (p + 1) _ (by omega) (fun y hy => by rw [if_neg (by omega)]; exact h1 y hy) (fun p' hp' => ?_)
        by_cases e : p' = p
        · rw [e, if_pos rfl]; exact hv
        · rw [if_neg (by omega)]; exact h2 p' (by omega)
      refine bX12_takesChoice_68 m3.1 ⟨fun c => absurd c (nI_ge (by omega) (by omega)), fun _ => ?_⟩
      rw [m3.rg.2.2.2.1, Int32.le_iff_toInt_le, nI_toInt (by omega)]
      refine ⟨fun c => ⟨vp2 (by omega) (by omega), st _ (by rw [if_neg (by omega)])⟩, fun c => c_comesTo m3 (fs2.aa f (by decide)) (by omega) hr (by omega) okp ⟨m3.1, vp2 (by omega) (by omega), st _ (by rw [if_pos (by omega)])⟩⟩
  have w0 := lp 12 0 (hA h 83) (by omega) (fun _ _ => rfl) (fun p' hp' => absurd hp' (Nat.not_lt_zero p'))
  rw [← e83, stAA_id] at w0
  exact w0
theorem c_weekSums {l : Launch} {E : eE} {d bc bs : Nat} {h : aH} {K : aH → Prop} {g : aH} {w n ns np : Nat} {v : Nat → Nat} (m : MW g h w n) (mc : MC g h w n (mvI g w v) (mvJ g w v) ns) (hd : 3 ≤ d) (hns : (ns : Int) = (hI g 63 14).toInt) (hnp : (np : Int) = (hI g 63 3).toInt) (k : ∀ f : Nat → Int32, (∀ p, p < np → (f p).toInt = mvU g w n ns v p) → K (stAA h 88 f)) : CV l E d bc bs mX12_weekSums [.inr (some (0, 12, 63))] h K := by
  obtain ⟨d, rfl⟩ : ∃ d', d = d' + 1 := ⟨d - 1, by omega⟩
  have hg := m.rg
  have M : ∀ f, MW g (stAA h 88 f) w n := fun f => m.aa f (by decide)
  have C : ∀ f, MC g (stAA h 88 f) w n (mvI g w v) (mvJ g w v) ns := fun f => mc.aa f (by decide) (by decide) (by decide)
  have enp : hI g 63 3 = nI np := by rw [i32_nn hg.1.1, show (hI g 63 3).toNatClampNeg = np by have := i32_clamp hg.1.1; omega]
  have ens : hI g 63 14 = nI ns := by rw [i32_nn hg.2.2.1.1, show (hI g 63 14).toNatClampNeg = ns by have := i32_clamp hg.2.2.1.1; omega]
  have lp : ∀ (b p : Nat) (f : Nat → Int32), p + b = np → (∀ q, q < p → (f q).toInt = mvU g w n ns v q) → LX12_weekSums_2 l E (d + 1) bc bs (nI p) (stAA h 88 f) K := by
    intro b
    induction b with
    | zero =>
      intro p f hp hf
      have hp : p = np := by omega
      subst hp
      refine bX12_weekSums_2 (M f).1 ⟨fun _ => k f hf, fun c => absurd ?_ c⟩
      rw [(M f).rg.2.2.2.1, enp]; exact nI_le (Nat.le_refl p) (by omega)
    | succ b ih =>
      intro p f hp hf
      refine bX12_weekSums_2 (M f).1 ⟨fun c => absurd c (by rw [(M f).rg.2.2.2.1, enp]; exact nI_ge (by omega) (by omega)), fun _ => ⟨vp_in_nI (by omega) (by omega), ?_⟩⟩
      rw [nI_clamp (n := p) (by omega), stA_stAA]
      have inn : ∀ (b2 r : Nat) (f2 : Nat → Int32), r + b2 = ns → (∀ q, q < p → (f2 q).toInt = mvU g w n ns v q) → (f2 p).toInt = mvS g w n v p r → LX12_weekSums_19 l E (d + 1) bc bs (nI p) (nI r) (stAA h 88 f2) K := by
        intro b2
        induction b2 with
        | zero =>
          intro r f2 hr h1 h2
          have hr : r = ns := by omega
          subst hr
          refine bX12_weekSums_19 (M f2).1 ⟨fun _ => ?_, fun c => absurd ?_ c⟩
          · rw [nI_add]
            refine ih (p + 1) f2 (by omega) (fun q hq => ?_)
            by_cases e : q = p
            · rw [e]; exact h2
            · exact h1 q (by omega)
          · rw [(M f2).rg.2.2.2.2.2, ens]; exact nI_le (Nat.le_refl r) (by omega)
        | succ b2 ih2 =>
          intro r f2 hr h1 h2
          obtain ⟨e1, e2, ok⟩ := (C f2).1 r (by omega)
          have e3 := (C f2).2 r p (by omega) (by omega)
          have rr := mvS_rng (w := w) (n := n) m.2.1 (v := v) (p := p) (by omega) r (by omega)
          have rp := mvP_rng (w := w) (n := n) m.2.1 (v := v) (r := r) (p := p) (by omega) (by omega)
          refine bX12_weekSums_19 (M f2).1 ⟨fun c => absurd c (by rw [(M f2).rg.2.2.2.2.2, ens]; exact nI_ge (by omega) (by omega)), fun _ => ⟨vp_in_nI (by omega) (by omega), ?_⟩⟩
          rw [nI_clamp (n := r) (by omega), e1, e2, nI_add r 1, ix2 (by omega), e3, nI_clamp (n := p) (by omega)]
          refine ⟨fun c => ih2 (r + 1) f2 (by omega) h1 ?_, fun c => ⟨vp_in_nI (by omega) (by omega), vp2 (by omega) (by omega), c_priceOf (M f2) (by omega) (by omega) (by omega) rfl (fun t => tb_in0 ok t (op6 m.2.1 (by omega)).2) (fun t => tb_in1 ok t (op6 m.2.1 (by omega)).2) ⟨(M f2).1, ?_⟩⟩⟩
          · have : mvP g w n v r p = nI 0 := by
              unfold mvP
              rw [pc00 (fun t => tbI t c) (fun t => tbI t c)]
              decide
            rw [mvS, this, h2]
            rw [show (nI 0).toInt = 0 from ti_0]; omega
          · rw [hA_AA, stA_stAA]
            refine ih2 (r + 1) _ (by omega) (fun q hq => by rw [if_neg (by omega)]; exact h1 q hq) ?_
            rw [if_pos rfl, mvS]
            have : (f2 p + mvP g w n v r p).toInt = (f2 p).toInt + (mvP g w n v r p).toInt := i_add (by omega) (by omega)
            rw [← h2]
            exact this
      refine inn ns 0 _ (by omega) (fun q hq => by rw [if_neg (by omega)]; exact hf q (by omega)) ?_
      rw [if_pos rfl, mvS]; decide
  have w0 := lp np 0 (hA h 88) (by omega) (fun q hq => absurd hq (Nat.not_lt_zero q))
  rw [stAA_id] at w0
  exact bX12_weekSums_0 m.1 w0
/-! ===== the reference: the walk over all ways of a week ===== -/
abbrev mvA : Nat → Prop := fun a => a = 81 ∨ a = 82 ∨ a = 83 ∨ a = 84 ∨ a = 88 ∨ a = 89 ∨ a = 90 ∨ a = 95 ∨ a = 96
def MvF (h h' : aH) : Prop := MO h h' ∧ hI h' 63 = hI h 63 ∧ ∀ a, ¬ mvA a → hA h' a = hA h a
theorem MvF.rf (h : aH) : MvF h h := ⟨MO.rf h, rfl, fun _ _ => rfl⟩
theorem MvF.aa {h h' : aH} (o : MvF h h') {a : Nat} (f : Nat → Int32) (ha : mvA a) : MvF h (stAA h' a f) := ⟨o.1.tr (mo_AA h' f (by unfold mvA at ha; omega)), o.2.1, fun b hb => (hA_AAn h' f (fun z => hb (by rw [z]; exact ha))).trans (o.2.2 b hb)⟩
theorem MvF.sa {h h' : aH} (o : MvF h h') {a : Nat} (k : Nat) (v : Int32) (ha : mvA a) : MvF h (stA h' a k v) := by
  rw [stA_AA]; exact o.aa _ ha
theorem MvF.mw {g h h' : aH} {w n : Nat} (o : MvF h h') (m : MW g h w n) : MW g h' w n := ⟨o.1.sh m.1, m.2.1, m.2.2.1.tr ⟨⟨by rw [o.2.1], by rw [o.2.1], by rw [o.2.1], by rw [o.2.1], by rw [o.2.1]⟩, fun a h1 h2 => o.2.2 a (by unfold mvA; omega)⟩, by rw [o.2.1]; exact m.2.2.2.1, by rw [o.2.1]; exact m.2.2.2.2.1, m.2.2.2.2.2⟩
section
variable (g : aH) (w n ns np : Nat)
def MvB (h : aH) (x3 : Int32) (B : Option (Nat → Nat)) : Prop := (B = none → x3 = -1) ∧ ∀ u, B = some u → x3 = nI (mvC g w u ns) ∧ SD np (mvU g w n ns u) (vI (hA h 90)) ∧ ∀ r, r < ns → ¬ pI g w r = -1 → ∃ q, q < (clO g r).length ∧ hA h 96 r = nI q ∧ (clO g r).getD q 0 = u r
/-- what is not planned has no pick and nobody comes -/
def MvN (h : aH) : Prop := ∀ r, r < ns → pI g w r = -1 → hA h 81 r = -1 ∧ hA h 82 r = -1 ∧ ∀ p, p < 12 → hA h 83 (12 * r + p) = nI 0
/-- the walk stands before series r, with the way v behind it -/
def MvS (h0 h : aH) (al v : Nat → Nat) (r : Nat) (x3 : Int32) (B : Option (Nat → Nat)) : Prop := MvF h0 h ∧ MC g h w n (mvI g w v) (mvJ g w v) r ∧ (∀ x, r ≤ x → x < ns → hA h 95 x = -1) ∧ (∀ x, x < r → (pI g w x = -1 → hA h 95 x = nI 0) ∧ (¬ pI g w x = -1 → al x < (clO g x).length ∧ hA h 95 x = nI (al x) ∧ (clO g x).getD (al x) 0 = v x)) ∧ MvN g w ns h ∧ MvB g w n ns np h x3 B
def MvC (h0 : aH) : Prop := MW g h0 w n ∧ (ns : Int) = (hI g 63 14).toInt ∧ (np : Int) = (hI g 63 3).toInt ∧ (∀ r, r < ns → LsO g h0 r) ∧ ∀ r, r < ns → hA h0 97 r = pI g w r ∧ hA h0 98 r = pJ g w r
end
/-- a whole way: its changes, its sums, whether it is better -/
theorem w_mleaf {l : Launch} {E : eE} {d bc bs : Nat} {h : aH} {K : Int32 → aH → Prop} {g h0 : aH} {w n ns np : Nat} {x1 x2 x3 x5 : Int32} {al v : Nat → Nat} {B : Option (Nat → Nat)} (C : MvC g w n ns np h0) (hd : 4 ≤ d) (st : MvS g w n ns np h0 h al v ns x3 B)
    (k : ∀ h' x3' x5', MvS g w n ns np h0 h' al v ns x3' (lfM g w n ns np v B) → LX12_move_126 l E (d + 1) bc bs x1 x2 x3' (nI ns + (-1)) x5' h' K) :
    LX12_move_126 l E (d + 1) bc bs x1 x2 x3 (nI ns) x5 h K := by
  obtain ⟨m0, hns, hnp, hls, hwas⟩ := C
  obtain ⟨mf, mc, a1, a2, mn, mb⟩ := st
  have m := mf.mw m0
  have hg := m.rg
  have np12 : np ≤ 12 := by omega
  have ns4 : ns ≤ 4 := by omega
  have ens : hI g 63 14 = nI ns := by rw [i32_nn hg.2.2.1.1, show (hI g 63 14).toNatClampNeg = ns by have := i32_clamp hg.2.2.1.1; omega]
  have ensH : ∀ {h'}, MvF h0 h' → hI h' 63 14 = nI ns := fun f => by rw [(f.mw m0).rg.2.2.2.2.2, ens]
  have enpH : ∀ {h'}, MvF h0 h' → hI h' 63 3 = nI np := fun f => by rw [(f.mw m0).rg.2.2.2.1, i32_nn hg.1.1, show (hI g 63 3).toNatClampNeg = np by have := i32_clamp hg.1.1; omega]
  -- behind the count
  have fin : LX12_move_146 l E (d + 1) bc bs x1 x2 x3 (nI ns) (nI (mvC g w v ns)) (nI ns) h K := by
    have c4 : mvC g w v ns ≤ 4 := by
      have h1 := mvC_le (g := g) (w := w) (v := v) ns
      have h2 : ∀ r, mvQ g w r ≤ r := fun r => by
        induction r with
        | zero => unfold mvQ; omega
        | succ r ih => unfold mvQ; split <;> omega
      have := h2 ns
      omega
    refine bX12_move_146 m.1 ⟨fun _ => c_weekSums m mc (by omega) hns hnp (fun f hf => ?_), fun c => absurd (by rw [ensH mf]; exact nI_le (Nat.le_refl ns) (by omega)) c⟩
    have mf1 := mf.aa (a := 88) f (by unfold mvA; omega)
    refine ⟨(mf1.mw m0).1, c_sorts (mf1.mw m0).1 np12 (enpH mf1) (fun f2 sd => ?_)⟩
    have mf2 := mf1.aa (a := 89) f2 (by unfold mvA; omega)
    have S2 := (mf2.mw m0).1
    have sd2 : SD np (mvU g w n ns v) (vI (hA (stAA (stAA h 88 f) 89 f2) 89)) := sd.c (fun q hq => by show (hA (stAA h 88 f) 88 q).toInt = _; rw [hA_AA]; exact hf q hq) (fun q _ => by rw [hA_AA])
    -- the arrays of the state are as they were
    have keepS : ∀ {h'}, (∀ a, a = 81 ∨ a = 82 ∨ a = 83 ∨ a = 95 → hA h' a = hA h a) → MvF h0 h' → ∀ {x B'}, MvB g w n ns np h' x B' → MvS g w n ns np h0 h' al v ns x B' := fun {h'} q f {x B'} b => by
      have e81 := q 81 (by omega); have e82 := q 82 (by omega); have e83 := q 83 (by omega); have e95 := q 95 (by omega)
      refine ⟨f, ?_, ?_, ?_, ?_, b⟩
      · unfold MC; rw [e81, e82, e83]; exact mc
      · rw [e95]; exact a1
      · rw [e95]; exact a2
      · unfold MvN; rw [e81, e82, e83]; exact mn
    have keep : lfM g w n ns np v B = some v → CV l E d 0 0 mX12_isBest [.inr (some (0, 12, 63))] (stAA (stAA h 88 f) 89 f2) (fun h5 => SH h5 ∧ LX12_move_240 l E (d + 1) bc bs x1 x2 (nI (mvC g w v ns)) (nI ns) (nI (mvC g w v ns)) (nI 0) h5 K) := fun ek => by
      refine c_isBest S2 np12 (enpH mf2) (fun f3 hf3 => ?_)
      have mf3 := mf2.aa (a := 90) f3 (by unfold mvA; omega)
      refine ⟨(mf3.mw m0).1, ?_⟩
      have cp : ∀ (b r : Nat) (h5 : aH), r + b = ns → MvF h0 h5 → (∀ a, a = 81 ∨ a = 82 ∨ a = 83 ∨ a = 95 → hA h5 a = hA h a) → (∀ j, j < np → hA h5 90 j = f2 j) → (∀ x, x < r → hA h5 96 x = hA h 95 x) → LX12_move_240 l E (d + 1) bc bs x1 x2 (nI (mvC g w v ns)) (nI ns) (nI (mvC g w v ns)) (nI r) h5 K := by
        intro b
        induction b with
        | zero =>
          intro r h5 hr f5 q5 q90 q96
          have hr : r = ns := by omega
          subst hr
          refine bX12_move_240 (f5.mw m0).1 ⟨fun _ => k h5 _ _ (keepS q5 f5 ⟨fun z => ?_, fun u hu => ?_⟩), fun c => absurd (by rw [ensH f5]; exact nI_le (Nat.le_refl r) (by omega)) c⟩
          · rw [ek] at z; cases z
          · rw [ek] at hu
            rw [← Option.some.inj hu]
            refine ⟨rfl, sd2.c (fun _ _ => rfl) (fun q hq => by show (hA (stAA (stAA h 88 f) 89 f2) 89 q).toInt = (hA h5 90 q).toInt; rw [hA_AA, q90 q hq]), fun x hx hn => ?_⟩
            obtain ⟨z1, z2, z3⟩ := (a2 x hx).2 hn
            exact ⟨al x, z1, by rw [q96 x hx]; exact z2, z3⟩
        | succ b ih =>
          intro r h5 hr f5 q5 q90 q96
          refine bX12_move_240 (f5.mw m0).1 ⟨fun c => absurd c (by rw [ensH f5]; exact nI_ge (by omega) (by omega)), fun _ => ⟨vp_in_nI (by omega) (by omega), ?_⟩⟩
          rw [nI_clamp (n := r) (by omega), nI_add, q5 95 (by omega)]
          refine ih (r + 1) _ (by omega) (f5.sa r _ (by unfold mvA; omega)) (fun a ha => by rw [hA_stn _ _ _ _ (by omega)]; exact q5 a ha) (fun j hj => by rw [hA_stn _ _ _ _ (by omega)]; exact q90 j hj) (fun x hx => ?_)
          rw [hA_st]
          by_cases e : x = r
          · rw [if_pos ⟨rfl, e⟩, e]
          · rw [if_neg (fun z => e z.2)]; exact q96 x (by omega)
      refine cp ns 0 _ (by omega) mf3 (fun a ha => ?_) (fun j hj => ?_) (fun x hx => absurd hx (Nat.not_lt_zero x))
      · rw [hA_AAn _ _ (by omega), hA_AAn _ _ (by omega), hA_AAn _ _ (by omega)]
      · rw [hA_AA, hf3 j hj, hA_AA]
    have stay : ∀ {x}, MvB g w n ns np h x (lfM g w n ns np v B) → LX12_move_126 l E (d + 1) bc bs x1 x2 x (nI ns + (-1)) (nI (mvC g w v ns)) (stAA (stAA h 88 f) 89 f2) K := fun {x} b => by
      refine k _ _ _ (keepS (fun a ha => by rw [hA_AAn _ _ (by omega), hA_AAn _ _ (by omega)]) mf2 ?_)
      unfold MvB
      rw [hA_AAn _ _ (show 90 ≠ 89 by decide), hA_AAn _ _ (show 90 ≠ 88 by decide), hA_AAn _ _ (show 96 ≠ 89 by decide), hA_AAn _ _ (show 96 ≠ 88 by decide)]
      exact b
    refine ⟨S2, fun c => ?_, fun c => ?_⟩
    · cases B with
      | none => exact keep rfl
      | some u =>
        have := (mb.2 u rfl).1
        rw [c] at this
        have cu : mvC g w u ns ≤ 4 := by
          have h1 := mvC_le (g := g) (w := w) (v := u) ns
          have h2 : ∀ r, mvQ g w r ≤ r := fun r => by
            induction r with
            | zero => unfold mvQ; omega
            | succ r ih => unfold mvQ; split <;> omega
          have := h2 ns
          omega
        exact absurd this.symm (nI_m1 (by omega))
    · cases B with
      | none => exact absurd (mb.1 rfl) c
      | some u =>
        obtain ⟨u1, u2, u3⟩ := mb.2 u rfl
        have cu : mvC g w u ns ≤ 4 := by
          have h1 := mvC_le (g := g) (w := w) (v := u) ns
          have h2 : ∀ r, mvQ g w r ≤ r := fun r => by
            induction r with
            | zero => unfold mvQ; omega
            | succ r ih => unfold mvQ; split <;> omega
          have := h2 ns
          omega
        have eM : lfM g w n ns np v (some u) = if (Classical.propDecidable (mvL g w n ns np v u)).decide then some v else some u := rfl
        rw [u1, nI_ltI (by omega) (by omega), nI_eq (by omega) (by omega)]
        refine ⟨fun lt => keep (by rw [eM, if_pos (dec_t (show mvL g w n ns np v u from Or.inl lt))]), fun nl => ⟨fun ne => ?_, fun eq => ?_⟩⟩
        · refine stay ?_
          rw [eM, if_neg (dec_f (show ¬ mvL g w n ns np v u from fun z => z.elim nl (fun t => ne t.1)))]
          rw [← u1]; exact mb
        · refine c_isLess S2 np12 (enpH mf2) sd2 (u2.c (fun _ _ => rfl) (fun q _ => by show (hA h 90 q).toInt = (hA (stAA (stAA h 88 f) 89 f2) 90 q).toInt; rw [hA_AAn _ _ (by decide), hA_AAn _ _ (by decide)])) (fun z => ⟨S2, fun y => absurd y (by decide), fun _ => keep (by rw [eM, if_pos (dec_t (show mvL g w n ns np v u from Or.inr ⟨eq, z⟩))])⟩) (fun z => ⟨S2, fun _ => stay ?_, fun y => absurd rfl y⟩)
          rw [eM, if_neg (dec_f (show ¬ mvL g w n ns np v u from fun t => t.elim nl (fun s => z s.2)))]
          rw [← u1]; exact mb
  -- count the changes
  have cnt : ∀ (b r : Nat), r + b = ns → LX12_move_146 l E (d + 1) bc bs x1 x2 x3 (nI ns) (nI (mvC g w v r)) (nI r) h K := by
    intro b
    induction b with
    | zero =>
      intro r hr
      have hr : r = ns := by omega
      subst hr
      exact fin
    | succ b ih =>
      intro r hr
      have ih := ih (r + 1) (by omega)
      obtain ⟨e1, e2, -⟩ := mc.1 r (by omega)
      obtain ⟨w1, w2⟩ := hwas r (by omega)
      refine bX12_move_146 m.1 ⟨fun c => absurd c (by rw [ensH mf]; exact nI_ge (by omega) (by omega)), fun _ => ⟨vp_in_nI (by omega) (by omega), ?_⟩⟩
      rw [nI_clamp (n := r) (by omega), e1, e2, mf.2.2 97 (by unfold mvA; omega), mf.2.2 98 (by unfold mvA; omega), w1, w2, nI_add (mvC g w v r) 1, nI_add r 1]
      rw [mvC] at ih
      have npl : pI g w r = -1 → mvI g w v r = pI g w r ∧ mvJ g w v r = pJ g w r := fun c => by
        have := okN_pl m0.2.1 (s := r) (w := w) (by omega) m0.2.2.2.2.2.1
        unfold mvI mvJ
        rw [if_pos c, if_pos c]
        rcases this with t | ⟨i', t, hi, -⟩
        · exact ⟨t.1.symm, t.2.symm⟩
        · have h6 := op6 m0.2.1 (s := r) (by omega)
          rw [t] at c
          exact absurd c (nI_m1 (by omega))
      refine ⟨fun c => ?_, fun c => ⟨fun c1 => ?_, fun c1 => ?_⟩⟩
      · rw [if_neg (fun z => z.elim (fun t => c (npl t).1) (fun t => c t.1))] at ih
        exact ih
      · rw [if_pos (Or.inr ⟨c, c1⟩), Nat.add_zero] at ih
        exact ih
      · rw [if_neg (fun z => z.elim (fun t => c1 (npl t).2) (fun t => c1 t.2))] at ih
        exact ih
  refine bX12_move_126 m.1 ⟨fun c => absurd c (nI_pos (by omega)), fun _ => ⟨fun c => absurd (by rw [ensH mf]) c, fun _ => ?_⟩⟩
  have := cnt ns 0 (by omega)
  rw [mvC] at this
  exact this
