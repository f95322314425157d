/-! ===== the reference: isBehind, fitsBy, fits ===== -/
theorem c_isBehind {l : Launch} {E : eE} {d bc bs : Nat} {h : aH} {K : Int32 → aH → Prop} {g : aH} {w n s i : Nat} {pi pj : Nat → Int32} (m : MW g h w n) (pk : pkO g h pi pj s) (hd : 1 ≤ d) (hs : (s : Int) < (hI g 63 14).toInt) (hi : (i : Int) < (hA g 77 s).toInt) (k1 : bhO g w pi pj s i → K (nI 1) h) (k0 : ¬ bhO g w pi pj s i → K (nI 0) h) : CI l E d bc bs mX12_isBehind [.inr (some (0, 12, 63)), .inl (nI s), .inl (nI i)] h K := by
  obtain ⟨d, rfl⟩ : ∃ d', d = d' + 1 := ⟨d - 1, by omega⟩
  have hg := m.rg
  have R := m.sr
  have h6 := op6 m.2.1 hs
  have hse := (m.2.1.2.2.2.2.2.1 s hs).2.1
  refine bX12_isBehind_0 R.1 ?_
  rw [nI_clamp (n := s) (by omega), m.2.2.1.2 75 (by decide) (by decide)]
  refine ⟨vp_in_nI (by omega) (by omega), fun c => k1 (Or.inl c), fun c => ?_⟩
  have hc := hse.resolve_left c
  have e1 := i32_nn hc.1
  have e2 := i32_clamp hc.1
  have hcs : ((hA g 75 s).toNatClampNeg : Int) < (hI g 63 14).toInt := by omega
  obtain ⟨q1, q2, ok⟩ := pk (hA g 75 s).toNatClampNeg (by omega)
  unfold bhO at k1 k0
  have h6c := op6 m.2.1 hcs
  have vc : vp_in (hA g 75 s) 4 := vp_of hc.1 (by omega)
  have vi : (vp_in (nI s) 4 ∧ vp_in (nI i) 6) := ⟨vp_in_nI (by omega) (by omega), vp_in_nI (by omega) (by omega)⟩
  refine ⟨vc, ?_⟩
  rw [q1, q2]
  have sl : ∀ j : Nat, (j : Int) < (hA g 77 (hA g 75 s).toNatClampNeg).toInt → rSlot h (hA g 75 s) (nI j) + hA h 74 (hA g 75 s).toNatClampNeg = rAt g (hA g 75 s).toNatClampNeg j w + hA g 74 (hA g 75 s).toNatClampNeg := fun j hj => by
    have := m.slot (s := (hA g 75 s).toNatClampNeg) (i := j) (by omega) (by omega)
    rw [← e1] at this
    rw [this, m.2.2.1.2 74 (by decide) (by decide)]
  refine ⟨fun c1 => ?_, fun c1 => k1 (Or.inr (Or.inl c1))⟩
  obtain ⟨i', ei, hi'⟩ := ok.i c1
  rw [ei, sl i' hi', m.slot (s := s) (i := i) (by omega) (by omega), Int32.le_iff_toInt_le, enO_int m.2.1 hcs hi' m.2.2.2.2.2.1, (stO_int m.2.1 hs hi m.2.2.2.2.2.1).1]
  rw [ei, nI_clamp (n := i') (by omega)] at k1 k0
  refine ⟨⟨vc, vp_in_nI (by omega) (by omega)⟩, vi, fun c2 => ⟨fun c3 => k1 (Or.inr (Or.inr ⟨c2, Or.inl c3⟩)), fun c3 => ?_⟩, fun c2 => k0 (fun q => ?_)⟩
  · obtain ⟨j', ej, hj'⟩ := ok.j c3
    rw [ej, sl j' hj', Int32.lt_iff_toInt_lt, enO_int m.2.1 hcs hj' m.2.2.2.2.2.1, (stO_int m.2.1 hs hi m.2.2.2.2.2.1).1]
    rw [ej, nI_clamp (n := j') (by omega)] at k1 k0
    refine ⟨⟨vc, vp_in_nI (by omega) (by omega)⟩, vi, fun c4 => k0 (fun q => ?_), fun c4 => k1 (Or.inr (Or.inr ⟨c2, Or.inr (by omega)⟩))⟩
    rcases q with q | q | ⟨-, q | q⟩
    · exact c q
    · exact nI_m1 (by omega) q
    · exact nI_m1 (by omega) q
    · omega
  · rcases q with q | q | ⟨q, -⟩
    · exact c q
    · exact nI_m1 (by omega) q
    · exact c2 q
/-- the groups of whom one was wanted, and of whom one was had, among the first p -/
def grO (g : aH) (s : Nat) (A : Nat → Prop) (p : Nat) (x : Int32) : Prop := ∀ r, r < 32 → (bt x r = true ↔ (3 ≤ r ∧ ∃ q, q < p ∧ roO g s q = r ∧ A q))
theorem grO_s {g : aH} (S : RI g) {s p : Nat} {A : Nat → Prop} {x : Int32} (hs : s < 4) (hp : p < 12) (gr : grO g s A p x) : ((3 ≤ roO g s p ∧ A p) → grO g s A (p + 1) (x ||| (nI 1 <<< (hA g 79 (12 * s + p) &&& 31)))) ∧ (¬ (3 ≤ roO g s p ∧ A p) → grO g s A (p + 1) x) := by
  have hro := role_rng S hs hp
  refine ⟨fun c r hr => ?_, fun c r hr => ?_⟩
  · have e := i32_nn hro.1
    have e2 := i32_clamp hro.1
    rw [bt_or, Bool.or_eq_true, gr r hr, e, bt_pow (by omega) (by omega), decide_eq_true_iff]
    unfold roO at c ⊢
    constructor
    · rintro (⟨h1, q, hq, h2, h3⟩ | rfl)
      · exact ⟨h1, q, by omega, h2, h3⟩
      · exact ⟨by omega, p, by omega, by omega, c.2⟩
    · rintro ⟨h1, q, hq, h2, h3⟩
      by_cases y : q = p
      · subst y
        exact Or.inr (by omega)
      · exact Or.inl ⟨h1, q, by omega, h2, h3⟩
  · rw [gr r hr]
    constructor
    · rintro ⟨h1, q, hq, h2, h3⟩
      exact ⟨h1, q, by omega, h2, h3⟩
    · rintro ⟨h1, q, hq, h2, h3⟩
      by_cases y : q = p
      · subst y
        exact absurd ⟨by omega, h3⟩ c
      · exact ⟨h1, q, by omega, h2, h3⟩
theorem w_fit65 {l : Launch} {E : eE} {d bc bs : Nat} {h : aH} {K : Int32 → aH → Prop} {g : aH} {w n s : Nat} {i j : Int32} {pi pj : Nat → Int32} (m : MW g h w n) (fs : FS g h w n pi pj s) (hs : (s : Int) < (hI g 63 14).toInt) (ok : okP g s i j) (pre : sdO g w s i j ∧ bhO g w pi pj s i.toNatClampNeg ∧ (¬ j = -1 → bhO g w pi pj s j.toNatClampNeg)) {np : Nat} (hnp : (np : Int) = (hI g 63 3).toInt) (k1 : ftO g w pi pj s (frP g w n pi pj s) i j → K (nI 1) h) (k0 : ¬ ftO g w pi pj s (frP g w n pi pj s) i j → K (nI 0) h) :
    ∀ (b p : Nat) (x4 x5 : Int32), p + b = np → grO g s (fun _ => True) p x4 → grO g s (fun q => anF (frP g w n pi pj s) q i j) p x5 → (∀ q, q < p → roO g s q = 1 → anF (frP g w n pi pj s) q i j) → (¬ j = -1 → ∀ q, q < p → hA g 76 s = nI q → frP g w n pi pj s q i.toNatClampNeg ∧ frP g w n pi pj s q j.toNatClampNeg) → LX12_fitsBy_65 l E (d + 1) bc bs (nI s) i j x4 x5 (nI p) h K := by
  have hg := m.rg
  have R := m.sr.1
  have h6 := op6 m.2.1 hs
  have enp : hI h 63 3 = nI np := by rw [hg.2.2.2.1, i32_nn hg.1.1, show (hI g 63 3).toNatClampNeg = np by have := i32_clamp hg.1.1; omega]
  obtain ⟨i', rfl, hi', okj⟩ := ok
  have ci : (nI i').toNatClampNeg = i' := nI_clamp (by omega)
  intro b
  induction b with
  | zero =>
    intro p x4 x5 hp g4 g5 hm hc
    have hp : p = np := by omega
    subst hp
    refine bX12_fitsBy_65 R ⟨fun _ => ⟨fun c => k0 (fun q => c ?_), fun c => k1 ?_⟩, fun c => absurd (by rw [enp]; exact nI_le (Nat.le_refl p) (by omega)) c⟩
    · refine bt_ext (fun r hr => ?_)
      rw [Bool.eq_iff_iff, g4 r hr, g5 r hr]
      constructor
      · rintro ⟨h1, a, ha, h2, -⟩
        have hro := role_rng m.2.1 (s := s) (p := a) (by omega) (by omega)
        obtain ⟨b, hb, h3, h4⟩ := q.2.2.2.2.2 r (by omega) (by unfold roO at h2; omega) a (by omega) h2
        exact ⟨h1, b, by omega, h3, h4⟩
      · rintro ⟨h1, a, ha, h2, -⟩
        exact ⟨h1, a, ha, h2, trivial⟩
    · refine ⟨pre.1, pre.2.1, pre.2.2, fun q hq => hm q (by omega), fun z q hq => hc z q (by omega), fun r hr1 hr2 q hq hr => ?_⟩
      have z := (g4 r.toNat (by omega)).mpr ⟨by omega, q, by omega, by omega, trivial⟩
      rw [c, g5 r.toNat (by omega)] at z
      obtain ⟨-, a, ha, h2, h3⟩ := z
      exact ⟨a, by omega, by omega, h3⟩
  | succ b ih =>
    intro p x4 x5 hp g4 g5 hm hc
    have f1 := fs p i' (by omega) hi'
    have hro := role_rng m.2.1 (s := s) (p := p) (by omega) (by omega)
    obtain ⟨u1, u2⟩ := grO_s m.2.1 (by omega) (by omega) g4
    obtain ⟨v1, v2⟩ := grO_s m.2.1 (by omega) (by omega) g5
    have ro1 : hA g 79 (12 * s + p) = nI 1 ↔ roO g s p = 1 := ⟨fun z => by unfold roO; rw [z]; decide, fun z => i32_eq (by decide) z⟩
    have s185 : ∀ x8 x9, x9 = fV (anF (frP g w n pi pj s) p (nI i') j) → (roO g s p = 1 → anF (frP g w n pi pj s) p (nI i') j) → (¬ j = -1 → hA g 76 s = nI p → frP g w n pi pj s p (nI i').toNatClampNeg ∧ frP g w n pi pj s p j.toNatClampNeg) → LX12_fitsBy_185 l E (d + 1) bc bs (nI s) (nI i') j x4 x5 (nI p) (hA g 79 (12 * s + p)) x8 x9 h K := fun x8 x9 e9 hr hch => by
      have go : ∀ y4 y5, grO g s (fun _ => True) (p + 1) y4 → grO g s (fun q => anF (frP g w n pi pj s) q (nI i') j) (p + 1) y5 → LX12_fitsBy_65 l E (d + 1) bc bs (nI s) (nI i') j y4 y5 (nI p + nI 1) h K := fun y4 y5 q4 q5 => by
        rw [nI_add]
        exact ih (p + 1) y4 y5 (by omega) q4 q5 (fun q hq => (show q < p ∨ q = p by omega).elim (hm q) (fun e => by rw [e]; exact hr)) (fun z q hq => (show q < p ∨ q = p by omega).elim (hc z q) (fun e => by rw [e]; exact hch z))
      refine bX12_fitsBy_185 R ⟨fun c => ?_, fun c => ?_⟩
      · rw [Int32.le_iff_toInt_le, ti_3] at c
        rw [e9, fV0]
        exact ⟨fun z => go _ _ (u1 ⟨c, trivial⟩) (v2 (fun y => z y.2)), fun z => go _ _ (u1 ⟨c, trivial⟩) (v1 ⟨c, Classical.not_not.mp z⟩)⟩
      · rw [Int32.le_iff_toInt_le, ti_3] at c
        exact go _ _ (u2 (fun z => c z.1)) (v2 (fun z => c z.1))
    have s147 : ∀ x9, x9 = fV (anF (frP g w n pi pj s) p (nI i') j) → (roO g s p = 1 → anF (frP g w n pi pj s) p (nI i') j) → LX12_fitsBy_147 l E (d + 1) bc bs (nI s) (nI i') j x4 x5 (nI p) (hA g 79 (12 * s + p)) (fV (frP g w n pi pj s p i')) x9 h K := fun x9 e9 hr => by
      refine bX12_fitsBy_147 R ?_
      rw [nI_clamp (n := s) (by omega), m.2.2.1.2 76 (by decide) (by decide), fV0]
      refine ⟨vp_in_nI (by omega) (by omega), fun c => s185 _ x9 e9 hr (fun _ z => absurd z.symm c), fun c => ⟨fun c1 => s185 _ x9 e9 hr (fun z => absurd c1 z), fun c1 => ⟨fun c2 => k0 (fun q => c2 ?_), fun c2 => ?_⟩⟩⟩
      · have := (q.2.2.2.2.1 c1 p (by omega) c.symm).1
        rw [ci] at this
        exact this
      · rcases okj with z | ⟨-, j', hij, hj', rfl⟩
        · exact absurd z.2 c1
        have cj : (nI j').toNatClampNeg = j' := nI_clamp (by omega)
        rw [ix2 (by omega), fs p j' (by omega) hj', fV0]
        refine ⟨vp2 (by omega) (by omega), fun c3 => s185 _ x9 e9 hr (fun _ _ => ?_), fun c3 => k0 (fun q => c3 ?_)⟩
        · rw [ci, cj]; exact ⟨Classical.not_not.mp c2, Classical.not_not.mp c3⟩
        · have := (q.2.2.2.2.1 c1 p (by omega) c.symm).2
          rw [cj] at this
          exact this
    have s127 : anF (frP g w n pi pj s) p (nI i') j → LX12_fitsBy_127 l E (d + 1) bc bs (nI s) (nI i') j x4 x5 (nI p) (hA g 79 (12 * s + p)) (fV (frP g w n pi pj s p i')) h K := fun any => bX12_fitsBy_127 R ⟨fun _ => s147 _ (fV_t any).symm (fun _ => any), fun _ => ⟨fun _ => s147 _ (fV_t any).symm (fun _ => any), fun z => absurd z (by decide)⟩⟩
    have s131 : ¬ anF (frP g w n pi pj s) p (nI i') j → LX12_fitsBy_131 l E (d + 1) bc bs (nI s) (nI i') j x4 x5 (nI p) (hA g 79 (12 * s + p)) (fV (frP g w n pi pj s p i')) h K := fun any => bX12_fitsBy_131 R ⟨fun c => s147 _ (fV_f any).symm (fun z => absurd (ro1.mpr z) c), fun c => ⟨fun z => absurd rfl z, fun _ => k0 (fun q => any (q.2.2.2.1 p (by omega) (ro1.mp c)))⟩⟩
    refine bX12_fitsBy_65 R ⟨fun c => absurd c (by rw [enp]; exact nI_ge (by omega) (by omega)), fun _ => ⟨vp2 (by omega) (by omega), vp2 (by omega) (by omega), ?_⟩⟩
    rw [ix2 (a := 6) (b := p) (c := i') (by omega), f1, ix2 (a := 12) (by omega), m.2.2.1.2 79 (by decide) (by decide), fV0]
    refine ⟨fun c => s127 (Or.inl (by rw [ci]; exact Classical.not_not.mp c)), fun c => ⟨fun c1 => s131 (fun q => q.elim (fun z => c (by rw [ci] at z; exact z)) (fun z => z.1 c1)), fun c1 => ?_⟩⟩
    rcases okj with z | ⟨-, j', hij, hj', rfl⟩
    · exact absurd z.2 c1
    have cj : (nI j').toNatClampNeg = j' := nI_clamp (by omega)
    rw [ix2 (a := 6) (b := p) (c := j') (by omega), fs p j' (by omega) hj', fV0]
    refine ⟨vp2 (by omega) (by omega), fun c2 => s131 (fun q => q.elim (fun z => c (by rw [ci] at z; exact z)) (fun z => c2 (by have := z.2; rw [cj] at this; exact this))), fun c2 => s127 (Or.inr ⟨c1, by rw [cj]; exact Classical.not_not.mp c2⟩)⟩
theorem c_fitsBy {l : Launch} {E : eE} {d bc bs : Nat} {h : aH} {K : Int32 → aH → Prop} {g : aH} {w n s : Nat} {i j : Int32} {pi pj : Nat → Int32} (m : MW g h w n) (pk : pkO g h pi pj s) (fs : FS g h w n pi pj s) (hd : 2 ≤ d) (hs : (s : Int) < (hI g 63 14).toInt) (ok : okP g s i j) (k1 : ftO g w pi pj s (frP g w n pi pj s) i j → K (nI 1) h) (k0 : ¬ ftO g w pi pj s (frP g w n pi pj s) i j → K (nI 0) h) : CI l E d bc bs mX12_fitsBy [.inr (some (0, 12, 63)), .inl (nI s), .inl i, .inl j] h K := by
  obtain ⟨d, rfl⟩ : ∃ d', d = d' + 1 := ⟨d - 1, by omega⟩
  have hg := m.rg
  have R := m.sr.1
  have h6 := op6 m.2.1 hs
  have okk := ok
  obtain ⟨i', rfl, hi', okj⟩ := ok
  have ci : (nI i').toNatClampNeg = i' := nI_clamp (by omega)
  have vi : (vp_in (nI s) 4 ∧ vp_in (nI i') 6) := ⟨vp_in_nI (by omega) (by omega), vp_in_nI (by omega) (by omega)⟩
  have z4 : ∀ A, grO g s A 0 (nI 0) := fun A r hr => ⟨fun z => (by rw [show bt (nI 0) r = false from bt_0 r] at z; cases z), fun ⟨_, q, hq, _⟩ => absurd hq (Nat.not_lt_zero q)⟩
  have go : (sdO g w s (nI i') j ∧ bhO g w pi pj s (nI i').toNatClampNeg ∧ (¬ j = -1 → bhO g w pi pj s j.toNatClampNeg)) → LX12_fitsBy_65 l E (d + 1) bc bs (nI s) (nI i') j (nI 0) (nI 0) (nI 0) h K := fun pre =>
    w_fit65 m fs hs okk pre (i32_clamp hg.1.1) k1 k0 _ 0 _ _ (Nat.zero_add _) (z4 _) (z4 _) (fun q hq => absurd hq (Nat.not_lt_zero q)) (fun _ q hq => absurd hq (Nat.not_lt_zero q))
  refine bX12_fitsBy_0 R (by omega) ?_
  rw [m.isin hs hi']
  refine ⟨vi, fun c => k0 (fun q => c (by have := q.1.1; rw [ci] at this; exact this)), fun c => c_isBehind m pk (by omega) hs hi' (fun c1 => ⟨R, fun _ => ⟨fun c2 => go ⟨⟨by rw [ci]; exact c, fun z => absurd c2 z⟩, by rw [ci]; exact c1, fun z => absurd c2 z⟩, fun c2 => ?_⟩, fun z => absurd z (by decide)⟩) (fun c1 => ⟨R, fun z => absurd rfl z, fun _ => k0 (fun q => c1 (by have := q.2.1; rw [ci] at this; exact this))⟩)⟩
  rcases okj with z | ⟨-, j', hij, hj', rfl⟩
  · exact absurd z.2 c2
  have cj : (nI j').toNatClampNeg = j' := nI_clamp (by omega)
  have vj : (vp_in (nI s) 4 ∧ vp_in (nI j') 6) := ⟨vp_in_nI (by omega) (by omega), vp_in_nI (by omega) (by omega)⟩
  rw [m.isin hs hj']
  refine ⟨vj, fun c3 => k0 (fun q => c3 (by have := (q.1.2 c2).1; rw [cj] at this; exact this)), fun c3 => c_isBehind m pk (by omega) hs hj' (fun c4 => ⟨R, fun z => absurd z (by decide), fun _ => ⟨⟨vi, vj⟩, ?_⟩⟩) (fun c4 => ⟨R, fun _ => k0 (fun q => c4 (by have := q.2.2.1 c2; rw [cj] at this; exact this)), fun z => absurd rfl z⟩)⟩
  rw [m.meet hs hi' hs hj']
  refine ⟨fun c5 => go ⟨⟨by rw [ci]; exact c, fun _ => ⟨by rw [cj]; exact c3, by rw [ci, cj]; exact c5⟩⟩, by rw [ci]; exact c1, fun _ => by rw [cj]; exact c4⟩, fun c5 => k0 (fun q => (q.1.2 c2).2 (by rw [ci, cj]; exact c5))⟩
