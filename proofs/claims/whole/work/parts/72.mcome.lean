/-! ===== the reference: asksFree, comesTo, comeAll, takesWeek ===== -/
noncomputable def fV (t : Prop) : Int32 := if Classical.propDecidable t |>.decide then nI 1 else nI 0
theorem fV_t {t : Prop} (h : t) : fV t = nI 1 := if_pos (dec_t h)
theorem fV_f {t : Prop} (h : ¬ t) : fV t = nI 0 := if_neg (dec_f h)
theorem fV0 {t : Prop} : fV t = 0 ↔ ¬ t := by
  by_cases c : t
  · rw [fV_t c]; exact ⟨fun z => absurd z (by decide), fun z => absurd c z⟩
  · rw [fV_f c]; exact ⟨fun _ => c, fun _ => rfl⟩
theorem cm00 {t0 t1 : Prop} (h0 : ¬ t0) (h1 : ¬ t1) : cmV t0 t1 = nI 0 := by unfold cmV; rw [if_neg (dec_f h0), if_neg (dec_f h1)]; decide
theorem cm10 {t0 t1 : Prop} (h0 : t0) (h1 : ¬ t1) : cmV t0 t1 = nI 1 := by unfold cmV; rw [if_pos (dec_t h0), if_neg (dec_f h1)]; decide
theorem cm01 {t0 t1 : Prop} (h0 : ¬ t0) (h1 : t1) : cmV t0 t1 = nI 2 := by unfold cmV; rw [if_neg (dec_f h0), if_pos (dec_t h1)]; decide
theorem cm11 {t0 t1 : Prop} (h0 : t0) (h1 : t1) : cmV t0 t1 = nI 1 + nI 2 := by unfold cmV; rw [if_pos (dec_t h0), if_pos (dec_t h1)]
theorem narb0 : vp_nar .boolean (nI 0) = nI 0 := by decide
theorem narb1 : vp_nar .boolean (nI 1) = nI 1 := by decide
section
variable {g h : aH} {w n : Nat} {pi pj : Nat → Int32}
theorem REp.aa (e : REp g h) {a : Nat} (f : Nat → Int32) (ha : 80 < a) : REp g (stAA h a f) := ⟨e.1, fun b h1 h2 => (hA_AAn h f (by omega)).trans (e.2 b h1 h2)⟩
theorem REp.si (e : REp g h) {k : Nat} (v : Int32) (h1 : k ≠ 1) (h3 : k ≠ 3) (h8 : k ≠ 8) (h14 : k ≠ 14) (h38 : k ≠ 38) : REp g (stI h 63 k v) := by
  have q : ∀ m, m ≠ k → hI (stI h 63 k v) 63 m = hI h 63 m := fun m hm => if_neg (fun z => hm z.2)
  exact ⟨⟨(q 1 (Ne.symm h1)).trans e.1.1, (q 3 (Ne.symm h3)).trans e.1.2.1, (q 8 (Ne.symm h8)).trans e.1.2.2.1, (q 14 (Ne.symm h14)).trans e.1.2.2.2.1, (q 38 (Ne.symm h38)).trans e.1.2.2.2.2⟩, e.2⟩
theorem MW.aa (m : MW g h w n) {a : Nat} (f : Nat → Int32) (ha : 80 < a ∧ a ≤ 98) : MW g (stAA h a f) w n := ⟨(mo_AA h f (by omega)).sh m.1, m.2.1, m.2.2.1.aa f ha.1, m.2.2.2⟩
theorem MC.aa {s : Nat} (m : MC g h w n pi pj s) {a : Nat} (f : Nat → Int32) (h1 : 81 ≠ a) (h2 : 82 ≠ a) (h3 : 83 ≠ a) : MC g (stAA h a f) w n pi pj s := by
  unfold MC
  rw [hA_AAn h f h1, hA_AAn h f h2, hA_AAn h f h3]
  exact m
/-- the table of the free ones -/
def FS (g h : aH) (w n : Nat) (pi pj : Nat → Int32) (s : Nat) : Prop := ∀ p i : Nat, (p : Int) < (hI g 63 3).toInt → (i : Int) < (hA g 77 s).toInt → hA h 84 (6 * p + i) = fV (frP g w n pi pj s p i)
theorem FS.aa {s : Nat} (m : FS g h w n pi pj s) {a : Nat} (f : Nat → Int32) (h1 : 84 ≠ a) : FS g (stAA h a f) w n pi pj s := by
  unfold FS
  rw [hA_AAn h f h1]
  exact m
end
theorem w_asks12 {l : Launch} {E : eE} {d bc bs : Nat} {h : aH} {K : aH → Prop} {g : aH} {w n s : Nat} {pi pj : Nat → Int32} (m : MW g h w n) (mc : MC g h w n pi pj s) (hd : 3 ≤ d) (hs : (s : Int) < (hI g 63 14).toInt) {np no : Nat} (hnp : (np : Int) = (hI g 63 3).toInt) (hno : (no : Int) = (hA g 77 s).toInt) {p : Nat} (hp : p < np)
    (k : ∀ f, (∀ q i, i < no → q < p + 1 → f (6 * q + i) = fV (frP g w n pi pj s q i)) → LX12_asksFree_2 l E (d + 1) bc bs (nI s) (nI (p + 1)) (stAA h 84 f) K) :
    ∀ (j i : Nat) (f : Nat → Int32), i + j = no → (∀ q i', i' < no → (q < p ∨ (q = p ∧ i' < i)) → f (6 * q + i') = fV (frP g w n pi pj s q i')) → LX12_asksFree_12 l E (d + 1) bc bs (nI s) (nI p) (nI i) (stAA h 84 f) K := by
  have hg := m.rg
  have h6 := op6 m.2.1 hs
  have e77 : ∀ f, hA (stAA h 84 f) 77 (nI s).toNatClampNeg = nI no := fun f => by
    rw [hA_AAn h f (by decide), nI_clamp (by omega), m.2.2.1.2 77 (by decide) (by decide), i32_nn h6.1, show (hA g 77 s).toNatClampNeg = no by have := i32_clamp h6.1; omega]
  intro j
  induction j with
  | zero =>
    intro i f hi hf
    have hi : i = no := by omega
    subst hi
    refine bX12_asksFree_12 (m.aa f (by decide)).1 (by omega) ⟨vp_in_nI (by omega) (by omega), fun _ => ?_, fun c => absurd ?_ c⟩
    · rw [nI_add]
      exact k f (fun q i h1 h2 => hf q i h1 (by omega))
    · rw [e77]; exact nI_le (Nat.le_refl i) (by omega)
  | succ j ih =>
    intro i f hi hf
    have m2 := m.aa f (a := 84) (by decide)
    have mc2 := mc.aa f (a := 84) (by decide) (by decide) (by decide)
    have go : ∀ v, v = fV (frP g w n pi pj s p i) → LX12_asksFree_12 l E (d + 1) bc bs (nI s) (nI p) (nI i + nI 1) (stA (stAA h 84 f) 84 (nI 6 * nI p + nI i).toNatClampNeg v) K := fun v hv => by
      rw [ix2 (by omega), stA_stAA, nI_add]
      refine ih (i + 1) _ (by omega) (fun q i' h1 h2 => ?_)
      by_cases c : 6 * q + i' = 6 * p + i
      · have : q = p ∧ i' = i := by omega
        rw [if_pos c, this.1, this.2]
        exact hv
      · rw [if_neg c]
        exact hf q i' h1 (by omega)
    refine bX12_asksFree_12 m2.1 (by omega) ⟨vp_in_nI (by omega) (by omega), fun c => absurd c ?_, fun _ => ⟨⟨vp_in_nI (by omega) (by omega), vp_in_nI (by omega) (by omega)⟩, ?_⟩⟩
    · rw [e77]; exact nI_ge (by omega) (by omega)
    · rw [m2.isin hs (by omega), narb0, narb1]
      refine ⟨fun c => ⟨vp2 (by omega) (by omega), go _ (fV_f (fun q => c q.1.1)).symm⟩, fun c => c_isFree m2 mc2 (by omega) hs (by omega) (by omega) c (fun c1 => ⟨m2.1, fun z => absurd z (by decide), fun _ => ⟨vp2 (by omega) (by omega), go _ (fV_t c1).symm⟩⟩) (fun c1 => ⟨m2.1, fun _ => ⟨vp2 (by omega) (by omega), go _ (fV_f c1).symm⟩, fun z => absurd rfl z⟩)⟩
theorem c_asksFree {l : Launch} {E : eE} {d bc bs : Nat} {h : aH} {K : aH → Prop} {g : aH} {w n s : Nat} {pi pj : Nat → Int32} (m : MW g h w n) (mc : MC g h w n pi pj s) (hd : 4 ≤ d) (hs : (s : Int) < (hI g 63 14).toInt) (k : ∀ f, FS g (stAA h 84 f) w n pi pj s → K (stAA h 84 f)) : CV l E d bc bs mX12_asksFree [.inr (some (0, 12, 63)), .inl (nI s)] h K := by
  obtain ⟨d, rfl⟩ : ∃ d', d = d' + 1 := ⟨d - 1, by omega⟩
  have hg := m.rg
  have h6 := op6 m.2.1 hs
  obtain ⟨np, hnp, enp⟩ : ∃ np : Nat, (np : Int) = (hI g 63 3).toInt ∧ hI g 63 3 = nI np := ⟨_, i32_clamp hg.1.1, i32_nn hg.1.1⟩
  obtain ⟨no, hno⟩ : ∃ no : Nat, (no : Int) = (hA g 77 s).toInt := ⟨_, i32_clamp h6.1⟩
  have w2 : ∀ (j p : Nat) (f : Nat → Int32), p + j = np → (∀ q i, i < no → q < p → f (6 * q + i) = fV (frP g w n pi pj s q i)) → LX12_asksFree_2 l E (d + 1) bc bs (nI s) (nI p) (stAA h 84 f) K := by
    intro j
    induction j with
    | zero =>
      intro p f hp hf
      have hp : p = np := by omega
      subst hp
      refine bX12_asksFree_2 (m.aa f (by decide)).1 ⟨fun _ => k f (fun q i h1 h2 => ?_), fun c => absurd ?_ c⟩
      · rw [hA_AA]; exact hf q i (by omega) (by omega)
      · show hI h 63 3 ≤ _
        rw [hg.2.2.2.1, enp]; exact nI_le (Nat.le_refl p) (by omega)
    | succ j ih =>
      intro p f hp hf
      refine bX12_asksFree_2 (m.aa f (by decide)).1 ⟨fun c => absurd c ?_, fun _ => w_asks12 m mc (by omega) hs hnp hno (show p < np by omega) (fun f2 hf2 => ih (p + 1) f2 (by omega) hf2) no 0 f (by omega) (fun q i h1 h2 => hf q i h1 (by omega))⟩
      show ¬ hI h 63 3 ≤ _
      rw [hg.2.2.2.1, enp]; exact nI_ge (by omega) (by omega)
  refine bX12_asksFree_0 m.1 ?_
  rw [← stAA_id h 84]
  exact w2 np 0 _ (by omega) (fun q i _ h2 => absurd h2 (Nat.not_lt_zero q))
theorem rng_p {p : Nat} {g : aH} (hp : (p : Int) < (hI g 63 3).toInt) (hg : (hI g 63 3).toInt ≤ 12) : inI (nI p) (hI g 63 3) := ⟨by rw [nI_toInt (by omega)]; omega, by rw [nI_toInt (by omega)]; omega⟩
/-- comesTo: what the reference writes of p -/
theorem c_comesTo {l : Launch} {E : eE} {d bc bs : Nat} {h : aH} {K : Int32 → aH → Prop} {g : aH} {w n s p : Nat} {i j : Int32} {pi pj : Nat → Int32} (m : MW g h w n) (fs : FS g h w n pi pj s) (hd : 2 ≤ d) (hs : (s : Int) < (hI g 63 14).toInt) (hp : (p : Int) < (hI g 63 3).toInt) (ok : okP g s i j) (k : K (cmV (coF g w n s (frP g w n pi pj s) p i j 0) (coF g w n s (frP g w n pi pj s) p i j 1)) h) : CI l E d bc bs mX12_comesTo [.inr (some (0, 12, 63)), .inl (nI p), .inl (nI s), .inl i, .inl j] h K := by
  obtain ⟨d, rfl⟩ : ∃ d', d = d' + 1 := ⟨d - 1, by omega⟩
  have hg := m.rg
  have R := m.sr
  have h6 := op6 m.2.1 hs
  have hl := m.ln hs
  have hn7 := m.2.2.2.2.2.2
  have hro := role_rng m.2.1 (s := s) (p := p) (by omega) (by omega)
  have hro0 : ¬ (hA g 79 (12 * s + p)) = 0 ↔ 1 ≤ (hA g 79 (12 * s + p)).toInt := ⟨fun z => by
    refine Decidable.byContradiction fun q => z (Int32.toInt_inj.mp ?_)
    rw [ti_z]; omega, fun z q => by rw [q, ti_z] at z; omega⟩
  obtain ⟨i', rfl, hi', okj⟩ := ok
  have ci : (nI i').toNatClampNeg = i' := nI_clamp (by omega)
  have f1 := fs p i' hp hi'
  refine bX12_comesTo_0 R ?_
  rw [ix2 (a := 6) (b := p) (c := i') (by omega), f1, ix2 (a := 12) (by omega), m.2.2.1.2 79 (by decide) (by decide), nI_clamp (n := s) (by omega), m.2.2.1.2 76 (by decide) (by decide)]
  rcases okj with ⟨hc, rfl⟩ | ⟨hc, j', hij, hj', rfl⟩
  · refine ⟨fun z => absurd rfl z, fun _ => ⟨vp2 (by omega) (by omega), fun c => ?_, fun c => ⟨vp2 (by omega) (by omega), ?_⟩⟩⟩
    · rw [Int32.le_iff_toInt_le, ti_z] at c
      rw [cm00 (fun q => ?_) (fun q => q.1 rfl)] at k
      · exact k
      · have q1 := q.1
        unfold roO at q1
        rcases q1 with q1 | q1
        · omega
        · exact q1.1 rfl
    · rw [Int32.le_iff_toInt_le, ti_z] at c
      rw [fV0]
      refine ⟨fun c1 => ?_, fun c1 => ?_⟩
      · rw [cm00 (fun q => c1 (by have := q.2.1; rw [ci] at this; exact this)) (fun q => q.1 rfl)] at k
        exact k
      · have c1 := Classical.not_not.mp c1
        rw [cm10 ⟨Or.inl (by unfold roO; omega), by rw [ci]; exact c1, fun q => q.1 rfl⟩ (fun q => q.1 rfl)] at k
        exact k
  · have cj : (nI j').toNatClampNeg = j' := nI_clamp (by omega)
    have f2 := fs p j' hp hj'
    have nj : ¬ nI j' = -1 := nI_m1 (by omega)
    have d0 : coF g w n s (frP g w n pi pj s) p (nI i') (nI j') 0 ↔ ((1 ≤ roO g s p ∨ hA g 76 s = nI p) ∧ frP g w n pi pj s p i' ∧ ¬ (¬ hA g 76 s = nI p ∧ frP g w n pi pj s p j' ∧ prO g w n s p j' < prO g w n s p i')) := by
      show (_ ∧ _ ∧ _) ↔ _
      rw [ci, cj]
      exact ⟨fun q => ⟨q.1.imp id (fun z => z.2), q.2.1, fun z => q.2.2 ⟨nj, z⟩⟩, fun q => ⟨q.1.imp id (fun z => ⟨nj, z⟩), q.2.1, fun z => q.2.2 z.2⟩⟩
    have d1 : coF g w n s (frP g w n pi pj s) p (nI i') (nI j') 1 ↔ ((1 ≤ roO g s p ∨ hA g 76 s = nI p) ∧ frP g w n pi pj s p j' ∧ ¬ (¬ hA g 76 s = nI p ∧ frP g w n pi pj s p i' ∧ ¬ prO g w n s p j' < prO g w n s p i')) := by
      show (_ ∧ _ ∧ _ ∧ _) ↔ _
      rw [ci, cj]
      exact ⟨fun q => q.2, fun q => ⟨nj, q⟩⟩
    rw [cmV_iff d0 d1] at k
    rw [ix2 (a := 6) (b := p) (c := j') (by omega), f2]
    refine ⟨fun _ => ⟨vp2 (by omega) (by omega), vp2 (by omega) (by omega), vp_in_nI (by omega) (by omega), fun c => ⟨vp2 (by omega) (by omega), fun c1 => ?_, fun c1 => ?_⟩, fun c => ?_⟩, fun z => absurd z nj⟩
    · have nc : ¬ hA g 76 s = nI p := fun z => c z.symm
      have nr : ¬ 1 ≤ roO g s p := fun z => hro0.mpr z c1
      rw [cm00 (fun q => q.1.elim nr nc) (fun q => q.1.elim nr nc)] at k
      exact k
    · have nc : ¬ hA g 76 s = nI p := fun z => c z.symm
      have yr : 1 ≤ roO g s p := hro0.mp c1
      have go : (frP g w n pi pj s p i' ∨ frP g w n pi pj s p j') → LX12_comesTo_125 l E (d + 1) bc bs (nI p) (nI s) (nI i') (nI j') (fV (frP g w n pi pj s p i')) (fV (frP g w n pi pj s p j')) h K := fun any => by
        refine bX12_comesTo_125 R (by omega) ?_
        rw [fV0, fV0]
        refine ⟨fun z1 => ⟨fun _ => ?_, fun z => absurd z1 z⟩, fun z1 => ⟨fun z2 => ⟨fun z => absurd z z1, fun _ => ?_⟩, fun z2 => ?_⟩⟩
        · rw [cm01 (fun q => z1 q.2.1) ⟨Or.inl yr, any.resolve_left z1, fun q => z1 q.2.1⟩] at k; exact k
        · rw [cm10 ⟨Or.inl yr, Classical.not_not.mp z1, fun q => z2 q.2.1⟩ (fun q => z2 q.2.1)] at k; exact k
        · have z1 := Classical.not_not.mp z1
          have z2 := Classical.not_not.mp z2
          have s1 := stO_int (w := w) m.2.1 hs hi' m.2.2.2.2.2.1
          have s2 := stO_int (w := w) m.2.1 hs hj' m.2.2.2.2.2.1
          have in1 := z1.1.1
          have in2 := z2.1.1
          unfold inO lnO at in1 in2
          unfold lnO at hl
          have kn : 0 ≤ (nI n).toInt ∧ (nI n).toInt ≤ (hI g 63 8).toInt := by rw [nI_toInt (by omega)]; omega
          have ip := rng_p hp hg.1.2
          have v1 : (vp_in (nI s) 4 ∧ vp_in (nI i') 6) := ⟨vp_in_nI (by omega) (by omega), vp_in_nI (by omega) (by omega)⟩
          have v2 : (vp_in (nI s) 4 ∧ vp_in (nI j') 6) := ⟨vp_in_nI (by omega) (by omega), vp_in_nI (by omega) (by omega)⟩
          rw [m.slot (by omega) (by omega), m.slot (by omega) (by omega), nI_clamp (n := s) (by omega), m.2.2.1.2 74 (by decide) (by decide), m.2.2.2.2.1, nI_clamp (n := n) (by omega), rCosts_c m.2.2.1, rCosts_c m.2.2.1, hg.2.2.2.2.1, hg.2.2.2.1]
          refine ⟨v2, v2.1, ip, ⟨by omega, by omega, by omega, by omega⟩, kn, v1, ip, ⟨by omega, by omega, by omega, by omega⟩, kn, fun z => ?_, fun z => ?_⟩
          · rw [cm10 ⟨Or.inl yr, z1, fun q => i_lt_n q.2.2 z⟩ (fun q => q.2.2 ⟨nc, z1, fun y => i_lt_n y z⟩)] at k; exact k
          · rw [cm01 (fun q => q.2.2 ⟨nc, z2, i_nle z⟩) ⟨Or.inl yr, z2, fun q => q.2.2 (i_nle z)⟩] at k; exact k
      rw [fV0, fV0]
      refine ⟨fun z => go (Or.inl (Classical.not_not.mp z)), fun z => ⟨fun z2 => go (Or.inr (Classical.not_not.mp z2)), fun z2 => ?_⟩⟩
      rw [cm00 (fun q => z q.2.1) (fun q => z2 q.2.1)] at k
      exact k
    · have yc : hA g 76 s = nI p := c.symm
      rw [fV0, fV0]
      refine ⟨fun z1 => ⟨fun z2 => ?_, fun z2 => ?_⟩, fun z1 => ⟨fun z2 => ?_, fun z2 => ?_⟩⟩
      · rw [cm00 (fun q => z1 q.2.1) (fun q => z2 q.2.1)] at k; exact k
      · rw [cm01 (fun q => z1 q.2.1) ⟨Or.inr yc, Classical.not_not.mp z2, fun q => q.1 yc⟩] at k; exact k
      · rw [cm10 ⟨Or.inr yc, Classical.not_not.mp z1, fun q => q.1 yc⟩ (fun q => z2 q.2.1)] at k; exact k
      · rw [cm11 ⟨Or.inr yc, Classical.not_not.mp z1, fun q => q.1 yc⟩ ⟨Or.inr yc, Classical.not_not.mp z2, fun q => q.1 yc⟩] at k; exact k
