/-! ===== the reference: who is free, who comes ===== -/
theorem nI_mul (a b : Nat) : nI a * nI b = nI (a * b) := (Int32.ofNat_mul a b).symm
theorem ix2 {a b c : Nat} (h : a * b + c < 2 ^ 31) : (nI a * nI b + nI c).toNatClampNeg = a * b + c := by rw [nI_mul, nI_add, nI_clamp h]
theorem vp2 {a b c n : Nat} (h : a * b + c < n) (hn : n < 2 ^ 31) : vp_in (nI a * nI b + nI c) n := by rw [nI_mul, nI_add]; exact vp_in_nI h hn
/-- the reference's week w, with what is known: n; its lasting data are those of g -/
def MW (g h : aH) (w n : Nat) : Prop := SH h ∧ RI g ∧ REp g h ∧ hI h 63 22 = nI w ∧ hI h 63 23 = nI n ∧ w < 52 ∧ (n : Int) ≤ (hI g 63 8).toInt
/-- what is picked of the first series, and who comes to it -/
def MC (g h : aH) (w n : Nat) (pi pj : Nat → Int32) (s : Nat) : Prop := (∀ r, r < s → hA h 81 r = pi r ∧ hA h 82 r = pj r ∧ okN g r (pi r) (pj r)) ∧ ∀ r p, r < s → p < 12 → hA h 83 (12 * r + p) = cmV (tbO g w n pi pj (r + 1) r p 0) (tbO g w n pi pj (r + 1) r p 1)
section
variable {g h : aH} {w n : Nat} {pi pj : Nat → Int32}
theorem MW.sr (m : MW g h w n) : SR h := ⟨m.1, m.2.2.1.ri m.2.1⟩
theorem MW.rg (m : MW g h w n) : (0 ≤ (hI g 63 3).toInt ∧ (hI g 63 3).toInt ≤ 12) ∧ (0 ≤ (hI g 63 8).toInt ∧ (hI g 63 8).toInt ≤ 400) ∧ (0 ≤ (hI g 63 14).toInt ∧ (hI g 63 14).toInt ≤ 4) ∧ hI h 63 3 = hI g 63 3 ∧ hI h 63 8 = hI g 63 8 ∧ hI h 63 14 = hI g 63 14 := by
  have hN := m.2.1.1
  unfold RIn at hN
  exact ⟨hN.2.1, hN.2.2.1, hN.2.2.2, m.2.2.1.1.2.1, m.2.2.1.1.2.2.1, m.2.2.1.1.2.2.2.1⟩
theorem MW.slot (m : MW g h w n) {s i : Nat} (hs : s < 4) (hi : i < 6) : rSlot h (nI s) (nI i) = rAt g s i w := by
  unfold rSlot rAt
  rw [m.2.2.2.1, ix2 (by omega), m.2.2.1.2 78 (by decide) (by decide)]
theorem MW.ln (m : MW g h w n) {s : Nat} (hs : (s : Int) < (hI g 63 14).toInt) : 1 ≤ lnO g s ∧ lnO g s ≤ 6 := (m.2.1.2.2.2.2.2.1 s hs).1
theorem stO_int (S : RI g) {s i : Nat} (hs : (s : Int) < (hI g 63 14).toInt) (hi : (i : Int) < (hA g 77 s).toInt) (hw : w < 52) : (rAt g s i w).toInt = stO g w s i ∧ 336 * (w : Int) ≤ stO g w s i ∧ stO g w s i < 336 * w + 336 := by
  obtain ⟨a, b, c⟩ := rAt_int S hs hi hw
  unfold stO
  exact ⟨a, by omega, by omega⟩
theorem enO_int (S : RI g) {s i : Nat} (hs : (s : Int) < (hI g 63 14).toInt) (hi : (i : Int) < (hA g 77 s).toInt) (hw : w < 52) : (rAt g s i w + hA g 74 s).toInt = stO g w s i + lnO g s := by
  obtain ⟨a, b, c⟩ := stO_int S hs hi hw
  have hl : 1 ≤ (hA g 74 s).toInt ∧ (hA g 74 s).toInt ≤ 6 := (S.2.2.2.2.2.1 s hs).1
  rw [i_add (by omega) (by omega), a]
  rfl
theorem op6 (S : RI g) {s : Nat} (hs : (s : Int) < (hI g 63 14).toInt) : 0 ≤ (hA g 77 s).toInt ∧ (hA g 77 s).toInt ≤ 6 := (S.2.2.2.2.2.1 s hs).2.2.2.1
theorem MW.meet (m : MW g h w n) {s i r j : Nat} (hs : (s : Int) < (hI g 63 14).toInt) (hi : (i : Int) < (hA g 77 s).toInt) (hr : (r : Int) < (hI g 63 14).toInt) (hj : (j : Int) < (hA g 77 r).toInt) : rMeet h (nI s) (nI i) (nI r) (nI j) ↔ mtO g w s i r j := by
  have h1 := op6 m.2.1 hs
  have h2 := op6 m.2.1 hr
  have hg := m.rg
  unfold rMeet
  rw [m.slot (by omega) (by omega), m.slot (by omega) (by omega), nI_clamp (by omega), nI_clamp (by omega), m.2.2.1.2 74 (by decide) (by decide), Int32.lt_iff_toInt_lt, Int32.lt_iff_toInt_lt, enO_int m.2.1 hr hj m.2.2.2.2.2.1, enO_int m.2.1 hs hi m.2.2.2.2.2.1, (stO_int m.2.1 hs hi m.2.2.2.2.2.1).1, (stO_int m.2.1 hr hj m.2.2.2.2.2.1).1]
theorem MW.isin (m : MW g h w n) {s i : Nat} (hs : (s : Int) < (hI g 63 14).toInt) (hi : (i : Int) < (hA g 77 s).toInt) : (rSlot h (nI s) (nI i) + hA h 74 (nI s).toNatClampNeg ≤ nI 17472) ↔ inO g w s i := by
  have h1 := op6 m.2.1 hs
  have hg := m.rg
  rw [m.slot (by omega) (by omega), nI_clamp (by omega), m.2.2.1.2 74 (by decide) (by decide), Int32.le_iff_toInt_le, enO_int m.2.1 hs hi m.2.2.2.2.2.1, ti_17472]
/-- a pick within the options -/
theorem okN.i {s : Nat} {i j : Int32} (o : okN g s i j) (c : ¬ i = -1) : ∃ i' : Nat, i = nI i' ∧ (i' : Int) < (hA g 77 s).toInt := by
  rcases o with o | ⟨i', e, hi, -⟩
  · exact absurd o.1 c
  · exact ⟨i', e, hi⟩
theorem okN.j {s : Nat} {i j : Int32} (o : okN g s i j) (c : ¬ j = -1) : ∃ j' : Nat, j = nI j' ∧ (j' : Int) < (hA g 77 s).toInt := by
  rcases o with o | ⟨i', e, hi, o | ⟨-, j', h1, h2, e2⟩⟩
  · exact absurd o.2 c
  · exact absurd o.2 c
  · exact ⟨j', e2, h2⟩
theorem tbJ {r p : Nat} (t : tbO g w n pi pj (r + 1) r p 1) : ¬ pj r = -1 := ((tbO_in (Nat.lt_succ_self r)).mp t).2.2.2.1
theorem tbI {r p b : Nat} (t : tbO g w n pi pj (r + 1) r p b) : ¬ pi r = -1 := ((tbO_in (Nat.lt_succ_self r)).mp t).1
end
theorem w_isF96 {l : Launch} {E : eE} {d bc bs : Nat} {h : aH} {K : Int32 → aH → Prop} {g : aH} {w n s p i : Nat} {pi pj : Nat → Int32} (m : MW g h w n) (mc : MC g h w n pi pj s) (hd : 1 ≤ d) (hs : (s : Int) < (hI g 63 14).toInt) (hp : p < 12) (hi : (i : Int) < (hA g 77 s).toInt) (k1 : ¬ enO g w pi pj (tbO g w n pi pj s) s p (stO g w s i) (stO g w s i + lnO g s) → K (nI 1) h) (k0 : enO g w pi pj (tbO g w n pi pj s) s p (stO g w s i) (stO g w s i + lnO g s) → K (nI 0) h) : ∀ (j r : Nat), r + j = s → (∀ a, a < r → ¬ ((tbO g w n pi pj s a p 0 ∧ stO g w a (pi a).toNatClampNeg < stO g w s i + lnO g s ∧ stO g w s i < stO g w a (pi a).toNatClampNeg + lnO g a) ∨ (tbO g w n pi pj s a p 1 ∧ stO g w a (pj a).toNatClampNeg < stO g w s i + lnO g s ∧ stO g w s i < stO g w a (pj a).toNatClampNeg + lnO g a))) → LX12_isFree_96 l E (d + 1) bc bs (nI p) (nI s) (nI i) (nI r) h K := by
  have hg := m.rg
  have R := m.sr
  have h6 := op6 m.2.1 hs
  intro j
  induction j with
  | zero =>
    intro r hr hno
    have hr : r = s := by omega
    subst hr
    exact bX12_isFree_96 R hd ⟨fun _ => k1 (fun ⟨a, ha, q⟩ => hno a ha q), fun c => absurd (nI_le (Nat.le_refl r) (by omega)) c⟩
  | succ j ih =>
    intro r hr hno
    obtain ⟨e1, e2, ok⟩ := mc.1 r (by omega)
    have ec := mc.2 r p (by omega) (by omega)
    obtain ⟨b0, b1, -⟩ := cmV_b (tbO g w n pi pj (r + 1) r p 0) (tbO g w n pi pj (r + 1) r p 1)
    have est : tbO g w n pi pj s r = tbO g w n pi pj (r + 1) r := tbO_st s (by omega)
    have h6r := op6 m.2.1 (s := r) (by omega)
    have vi : (vp_in (nI s) 4 ∧ vp_in (nI i) 6) := ⟨vp_in_nI (by omega) (by omega), vp_in_nI (by omega) (by omega)⟩
    have vr : vp_in (nI r) 4 := vp_in_nI (by omega) (by omega)
    have step : ¬ (tbO g w n pi pj s r p 0 ∧ stO g w r (pi r).toNatClampNeg < stO g w s i + lnO g s ∧ stO g w s i < stO g w r (pi r).toNatClampNeg + lnO g r) → LX12_isFree_138 l E (d + 1) bc bs (nI p) (nI s) (nI i) (nI r) h K := fun q0 => by
      refine bX12_isFree_138 R hd ⟨vp2 (by omega) (by omega), ?_⟩
      rw [ix2 (by omega), ec, b1, nI_clamp (n := r) (by omega), e2, nI_add]
      refine ⟨fun c => ih (r + 1) (by omega) (lt_s hno (fun q => q.elim q0 (fun z => c (est ▸ z.1)))), fun c => ?_⟩
      obtain ⟨j', ej, hj⟩ := ok.j (tbJ c)
      rw [ej]
      refine ⟨vr, ⟨vi, vr, vp_in_nI (by omega) (by omega)⟩, ?_⟩
      rw [m.meet hs hi (by omega) hj]
      refine ⟨fun c1 => ih (r + 1) (by omega) (lt_s hno (fun q => q.elim q0 (fun z => c1 ?_))), fun c1 => k0 ⟨r, by omega, Or.inr ⟨est ▸ c, ?_⟩⟩⟩
      · rw [ej, nI_clamp (by omega)] at z; exact ⟨z.2.2, z.2.1⟩
      · rw [ej, nI_clamp (by omega)]; exact ⟨c1.2, c1.1⟩
    refine bX12_isFree_96 R hd ⟨fun c => absurd c (nI_ge (by omega) (by omega)), fun _ => ⟨vp2 (by omega) (by omega), ?_⟩⟩
    rw [ix2 (by omega), ec, b0, nI_clamp (n := r) (by omega), e1]
    refine ⟨fun c => step (fun q => c (est ▸ q.1)), fun c => ?_⟩
    obtain ⟨i', ei, hi'⟩ := ok.i (tbI c)
    rw [ei]
    refine ⟨vr, ⟨vi, vr, vp_in_nI (by omega) (by omega)⟩, ?_⟩
    rw [m.meet hs hi (by omega) hi']
    refine ⟨fun c1 => k0 ⟨r, by omega, Or.inl ⟨est ▸ c, ?_⟩⟩, fun c1 => step (fun q => c1 ?_)⟩
    · rw [ei, nI_clamp (by omega)]; exact ⟨c1.2, c1.1⟩
    · rw [ei, nI_clamp (by omega)] at q; exact ⟨q.2.2, q.2.1⟩
theorem w_isF29 {l : Launch} {E : eE} {d bc bs : Nat} {h : aH} {K : Int32 → aH → Prop} {g : aH} {w n s p i : Nat} (m : MW g h w n) (k1 : ¬ cantO g w n s p → LX12_isFree_96 l E (d + 1) bc bs (nI p) (nI s) (nI i) (nI 0) h K) (k0 : cantO g w n s p → K (nI 0) h) : ∀ (j a : Nat), a + j = n → (∀ b, b < a → ¬ (hA g 69 b = nI 3 ∧ hA g 70 b = nI p ∧ hA g 71 b = nI s ∧ hA g 72 b = nI w)) → LX12_isFree_29 l E (d + 1) bc bs (nI p) (nI s) (nI i) (nI a) h K := by
  have hg := m.rg
  have R := m.sr
  have h7 := m.2.2.2.2.2.2
  have e := m.2.2.1.2
  intro j
  induction j with
  | zero =>
    intro a ha hno
    have ha : a = n := by omega
    subst ha
    refine bX12_isFree_29 R ⟨fun _ => k1 (fun ⟨b, hb, q⟩ => hno b hb q), fun c => absurd ?_ c⟩
    rw [m.2.2.2.2.1]; exact nI_le (Nat.le_refl a) (by omega)
  | succ j ih =>
    intro a ha hno
    refine bX12_isFree_29 R ?_
    rw [m.2.2.2.2.1, m.2.2.2.1, nI_clamp (n := a) (by omega), nI_add, e 69 (by decide) (by decide), e 70 (by decide) (by decide), e 71 (by decide) (by decide), e 72 (by decide) (by decide)]
    have st : ¬ (hA g 69 a = nI 3 ∧ hA g 70 a = nI p ∧ hA g 71 a = nI s ∧ hA g 72 a = nI w) → LX12_isFree_29 l E (d + 1) bc bs (nI p) (nI s) (nI i) (nI (a + 1)) h K := fun q => ih (a + 1) (by omega) (lt_s hno q)
    exact ⟨fun c => absurd c (nI_ge (by omega) (by omega)), fun _ => ⟨vp_in_nI (by omega) (by omega), fun c => st (fun q => c q.1), fun c => ⟨fun c1 => st (fun q => c1 q.2.1), fun c1 => ⟨fun c2 => st (fun q => c2 q.2.2.1), fun c2 => ⟨fun c3 => st (fun q => c3 q.2.2.2), fun c3 => k0 ⟨a, by omega, c, c1, c2, c3⟩⟩⟩⟩⟩⟩
theorem c_isFree {l : Launch} {E : eE} {d bc bs : Nat} {h : aH} {K : Int32 → aH → Prop} {g : aH} {w n s p i : Nat} {pi pj : Nat → Int32} (m : MW g h w n) (mc : MC g h w n pi pj s) (hd : 3 ≤ d) (hs : (s : Int) < (hI g 63 14).toInt) (hp : (p : Int) < (hI g 63 3).toInt) (hi : (i : Int) < (hA g 77 s).toInt) (hin : inO g w s i) (k1 : frP g w n pi pj s p i → K (nI 1) h) (k0 : ¬ frP g w n pi pj s p i → K (nI 0) h) : CI l E d bc bs mX12_isFree [.inr (some (0, 12, 63)), .inl (nI p), .inl (nI s), .inl (nI i)] h K := by
  obtain ⟨d, rfl⟩ : ∃ d', d = d' + 1 := ⟨d - 1, by omega⟩
  have hg := m.rg
  have R := m.sr
  have h6 := op6 m.2.1 hs
  have hl := m.ln hs
  have hst := stO_int (w := w) m.2.1 hs hi m.2.2.2.2.2.1
  have hn7 := m.2.2.2.2.2.2
  unfold inO lnO at hin
  unfold lnO at hl
  refine bX12_isFree_0 R (by omega) ?_
  rw [m.slot (by omega) (by omega), nI_clamp (n := s) (by omega), m.2.2.1.2 74 (by decide) (by decide), m.2.2.2.2.1, nI_clamp (n := n) (by omega), hst.1, rReasons_c m.2.2.1, rReasons_nn, hg.2.2.2.2.1, hg.2.2.2.1]
  refine ⟨⟨vp_in_nI (by omega) (by omega), vp_in_nI (by omega) (by omega)⟩, vp_in_nI (by omega) (by omega), ⟨by rw [nI_toInt (by omega)]; omega, by rw [nI_toInt (by omega)]; omega⟩, ⟨by omega, by omega, by omega, by omega⟩, ⟨by rw [nI_toInt (by omega)]; omega, by rw [nI_toInt (by omega)]; omega⟩, fun c => ?_, fun c => k0 (fun q => c q.1.2.1)⟩
  refine w_isF29 m (fun c1 => w_isF96 m mc (by omega) hs (by omega) hi (fun c2 => k1 ⟨⟨hin, c, c1⟩, c2⟩) (fun c2 => k0 (fun q => q.2 c2)) s 0 (by omega) lt_0) (fun c1 => k0 (fun q => q.1.2.2 c1)) n 0 (by omega) lt_0
