/-! ===== plan: the words of both sides ===== -/
section
variable (g : aH) (s a n : Nat)
abbrev chO : Int32 := hA g 76 s
abbrev clO : List Nat := cls (hA g 76 s) (hA g 77 s).toNatClampNeg
/-- choice c fits in week a + k -/
def plD (k c : Nat) : Prop := clsP (hA g 76 s) (hA g 77 s).toNatClampNeg c = true ∧ fitY g s (a + k) n (fO (hA g 76 s) (nI c)) (sO (hA g 76 s) (nI c))
abbrev plF (k : Nat) : Nat → Nat → Prop := frP g (a + k) n (pI g (a + k)) (pJ g (a + k)) s
/-- what choice c of week a + k costs p -/
noncomputable def plP (k c p : Nat) : Int32 := pcO g (a + k) n s p (fO (hA g 76 s) (nI c)) (sO (hA g 76 s) (nI c)) (coF g (a + k) n s (plF g s a n k) p (fO (hA g 76 s) (nI c)) (sO (hA g 76 s) (nI c)) 0) (coF g (a + k) n s (plF g s a n k) p (fO (hA g 76 s) (nI c)) (sO (hA g 76 s) (nI c)) 1)
noncomputable def plS (v : Nat → Nat) (p : Nat) : Nat → Int
  | 0 => 0
  | k + 1 => plS v p k + (plP g s a n k (v k) p).toInt
end
theorem pcO_rng {g : aH} (S : RI g) {w n s p : Nat} {i j : Int32} {t0 t1 : Prop} (hs : (s : Int) < (hI g 63 14).toInt) (hp : (p : Int) < (hI g 63 3).toInt) : 0 ≤ (pcO g w n s p i j t0 t1).toInt ∧ (pcO g w n s p i j t0 t1).toInt ≤ 1200 := by
  have hl := (S.2.2.2.2.2.1 s hs).1
  have ec := i32_clamp (x := hA g 74 s) (by omega)
  have r : ∀ x, 0 ≤ (prO g w n s p x).toInt ∧ (prO g w n s p x).toInt ≤ 600 := fun x => by
    have := rCosts_rng S hp (rAt g s x w) n (hA g 74 s).toNatClampNeg (by omega)
    unfold prO
    omega
  have q : ∀ {t : Prop} {x : Nat}, 0 ≤ (if (Classical.propDecidable t).decide then prO g w n s p x else nI 0).toInt ∧ (if (Classical.propDecidable t).decide then prO g w n s p x else nI 0).toInt ≤ 600 := fun {t x} => by
    split
    · exact r x
    · exact ⟨by decide, by decide⟩
  unfold pcO
  have q1 := q (t := t0) (x := i.toNatClampNeg)
  have q2 := q (t := t1) (x := j.toNatClampNeg)
  rw [i_add (by omega) (by omega)]
  omega
theorem plP_rng {g : aH} (S : RI g) {s a n k c p : Nat} (hs : (s : Int) < (hI g 63 14).toInt) (hp : (p : Int) < (hI g 63 3).toInt) : 0 ≤ (plP g s a n k c p).toInt ∧ (plP g s a n k c p).toInt ≤ 1200 := pcO_rng S hs hp
theorem plS_rng {g : aH} (S : RI g) {s a n p : Nat} {v : Nat → Nat} (hs : (s : Int) < (hI g 63 14).toInt) (hp : (p : Int) < (hI g 63 3).toInt) : ∀ k, 0 ≤ plS g s a n v p k ∧ plS g s a n v p k ≤ 1200 * k
  | 0 => by unfold plS; omega
  | k + 1 => by
    have i := plS_rng S (a := a) (n := n) (v := v) hs hp k
    have j := plP_rng S (a := a) (n := n) (k := k) (c := v k) hs hp
    unfold plS
    omega
/-- of the first k weeks the reference has noted what fits, and what it costs -/
def WkR (g h : aH) (s a n k : Nat) : Prop := ∀ x q, x < k → q < (clO g s).length → hA h 91 (15 * x + q) = fV (plD g s a n x ((clO g s).getD q 0)) ∧ (plD g s a n x ((clO g s).getD q 0) → ∀ p : Nat, (p : Int) < (hI g 63 3).toInt → hA h 92 (12 * (15 * x + q) + p) = plP g s a n x ((clO g s).getD q 0) p)
theorem LsO.aa {g h : aH} {s : Nat} (q : LsO g h s) {a : Nat} (f : Nat → Int32) (h1 : 85 ≠ a) (h2 : 86 ≠ a) (h3 : 87 ≠ a) : LsO g (stAA h a f) s := by
  unfold LsO
  rw [hA_AAn h f h1, hA_AAn h f h2, hA_AAn h f h3]
  exact q
theorem LsO.ar {g h h' : aH} {s : Nat} (q : LsO g h s) (h1 : hA h' 85 = hA h 85) (h2 : hA h' 86 = hA h 86) (h3 : hA h' 87 = hA h 87) : LsO g h' s := by
  unfold LsO
  rw [h1, h2, h3]
  exact q
theorem WkR.ar {g h h' : aH} {s a n k : Nat} (q : WkR g h s a n k) (h1 : hA h' 91 = hA h 91) (h2 : hA h' 92 = hA h 92) : WkR g h' s a n k := by
  unfold WkR
  rw [h1, h2]
  exact q
/-- the q-th choice is one of the options that there are -/
theorem clO_ok {g : aH} (S : RI g) {s q : Nat} (hs : (s : Int) < (hI g 63 14).toInt) (hq : q < (clO g s).length) : okP g s (fO (hA g 76 s) (nI ((clO g s).getD q 0))) (sO (hA g 76 s) (nI ((clO g s).getD q 0))) ∧ clsP (hA g 76 s) (hA g 77 s).toNatClampNeg ((clO g s).getD q 0) = true ∧ (clO g s).getD q 0 < 15 := by
  obtain ⟨h1, h2⟩ := cls_lt hq
  exact ⟨((clsP_iff S hs h1).mp h2).2, h2, h1⟩
/-! ===== the reference's plan: the weeks ===== -/
abbrev h12 (h : aH) (f f' : Nat → Int32) : aH := stAA (stAA h 91 f) 92 f'
theorem h12_1 (h : aH) (f f' : Nat → Int32) : hA (h12 h f f') 91 = f := by
  show hA (stAA (stAA h 91 f) 92 f') 91 = f
  rw [hA_AAn _ _ (by decide), hA_AA]
theorem h12_2 (h : aH) (f f' : Nat → Int32) : hA (h12 h f f') 92 = f' := hA_AA _ 92 f'
theorem h12_s1 (h : aH) (f f' : Nat → Int32) (k : Nat) (v : Int32) : stA (h12 h f f') 91 k v = h12 h (fun j => if j = k then v else f j) f' := by
  show stA (stAA (stAA h 91 f) 92 f') 91 k v = stAA (stAA h 91 _) 92 f'
  rw [aa_cm f f' (by decide), stA_stAA, aa_cm _ f' (by decide)]
theorem h12_s2 (h : aH) (f f' : Nat → Int32) (k : Nat) (v : Int32) : stA (h12 h f f') 92 k v = h12 h f (fun j => if j = k then v else f' j) := stA_stAA _ 92 k v f'
theorem h12_id (h : aH) : h12 h (hA h 91) (hA h 92) = h := by
  show stAA (stAA h 91 (hA h 91)) 92 (hA h 92) = h
  rw [stAA_id, stAA_id]
theorem h12_n (h : aH) (f f' : Nat → Int32) {a : Nat} (h3 : a ≠ 91) (h4 : a ≠ 92) : hA (h12 h f f') a = hA h a := by
  show hA (stAA (stAA h 91 f) 92 f') a = _
  rw [hA_AAn _ _ h4, hA_AAn _ _ h3]
/-- one week x of the reference's plan: all choices -/
theorem w_plan204 {l : Launch} {E : eE} {d bc bs : Nat} {h : aH} {K : Int32 → aH → Prop} {g : aH} {s a n x q : Nat} {x3 x8 : Int32} {m : Nat} (mw : MW g h (a + x) n) (pk : pkO g h (pI g (a + x)) (pJ g (a + x)) s) (fs : FS g h (a + x) n (pI g (a + x)) (pJ g (a + x)) s) (hd : 3 ≤ d) (hs : (s : Int) < (hI g 63 14).toInt) (hx : x < 6) (hq : q < (clO g s).length) (hq15 : (clO g s).length ≤ 15) {f : Nat → Int32} (ef : f (15 * x + q) = fV (plD g s a n x ((clO g s).getD q 0))) {np : Nat} (hnp : (np : Int) = (hI g 63 3).toInt)
    (k : ∀ f', (∀ j, j < 12 * (15 * x + q) → f' j = hA h 92 j) → (plD g s a n x ((clO g s).getD q 0) → ∀ p, p < np → f' (12 * (15 * x + q) + p) = plP g s a n x ((clO g s).getD q 0) p) → LX12_plan_116 l E (d + 1) bc bs (nI s) (nI a) x3 (nI n) (nI (clO g s).length) (nI m) (nI x) x8 (nI (q + 1)) (h12 h f f') K) :
    ∀ (b p : Nat) (f' : Nat → Int32), p + b = np → (∀ j, j < 12 * (15 * x + q) → f' j = hA h 92 j) → (plD g s a n x ((clO g s).getD q 0) → ∀ p', p' < p → f' (12 * (15 * x + q) + p') = plP g s a n x ((clO g s).getD q 0) p') → LX12_plan_204 l E (d + 1) bc bs (nI s) (nI a) x3 (nI n) (nI (clO g s).length) (nI m) (nI x) x8 (nI q) (fO (hA g 76 s) (nI ((clO g s).getD q 0))) (sO (hA g 76 s) (nI ((clO g s).getD q 0))) (nI p) (h12 h f f') K := by
  have hg := mw.rg
  have enp : hI h 63 3 = nI np := by rw [hg.2.2.2.1, i32_nn hg.1.1, show (hI g 63 3).toNatClampNeg = np by have := i32_clamp hg.1.1; omega]
  obtain ⟨okp, ocl, oc15⟩ := clO_ok mw.2.1 hs hq
  have M : ∀ f', MW g (h12 h f f') (a + x) n := fun f' => (mw.aa f (by decide)).aa f' (by decide)
  have FSs : ∀ f', FS g (h12 h f f') (a + x) n (pI g (a + x)) (pJ g (a + x)) s := fun f' => (fs.aa f (by decide)).aa f' (by decide)
  have e12 : nI 12 * (nI 15 * nI x + nI q) = nI (12 * (15 * x + q)) := by rw [nI_mul, nI_add, nI_mul]
  intro b
  induction b with
  | zero =>
    intro p f' hp h1 h2
    have hp : p = np := by omega
    subst hp
    refine bX12_plan_204 (M f').1 ⟨fun _ => ?_, fun c => absurd ?_ c⟩
    · rw [nI_add]; exact k f' h1 h2
    · show hI h 63 3 ≤ _
      rw [enp]; exact nI_le (Nat.le_refl p) (by omega)
  | succ b ih =>
    intro p f' hp h1 h2
    refine bX12_plan_204 (M f').1 ⟨fun c => absurd c ?_, fun _ => ?_⟩
    · show ¬ hI h 63 3 ≤ _
      rw [enp]; exact nI_ge (by omega) (by omega)
    rw [ix2 (a := 15) (by omega), h12_1, ef, fV0, e12, nI_add (12 * (15 * x + q)) p, nI_add p 1, nI_clamp (n := 12 * (15 * x + q) + p) (by omega)]
    refine ⟨vp2 (by omega) (by omega), fun c => ⟨vp_in_nI (by omega) (by omega), ?_⟩, fun c => ?_⟩
    · rw [h12_s2]
      exact ih (p + 1) _ (by omega) (fun j hj => by rw [if_neg (by omega)]; exact h1 j hj) (fun z => absurd z c)
    · have hD := Classical.not_not.mp c
      refine c_comesTo (M f') (FSs f') (by omega) hs (by omega) okp ⟨(M f').1, c_priceOf (M f') (by omega) hs (by omega) rfl (fun t => ?_) (fun t => ?_) ⟨(M f').1, vp_in_nI (by omega) (by omega), ?_⟩⟩
      · obtain ⟨i', e1, e2, e3, e4, -⟩ := okp.c mw.2.1 hs
        have := t.2.1.1.1
        rw [e2] at this
        exact ⟨i', e1, e4, this⟩
      · obtain ⟨i', -, -, -, -, e⟩ := okp.c mw.2.1 hs
        rcases e with e | ⟨-, -, j', e1, e2, e3, -, e5⟩
        · exact absurd e.2 t.1
        · have := t.2.2.1.1.1
          rw [e2] at this
          exact ⟨j', e1, e5, this⟩
      · rw [h12_s2]
        refine ih (p + 1) _ (by omega) (fun j hj => by rw [if_neg (by omega)]; exact h1 j hj) (fun z p' hp' => ?_)
        by_cases y : p' = p
        · subst y; rw [if_pos rfl]; rfl
        · rw [if_neg (by omega)]; exact h2 z p' (by omega)
theorem w_plan116 {l : Launch} {E : eE} {d bc bs : Nat} {h : aH} {K : Int32 → aH → Prop} {g : aH} {s a n x : Nat} {x3 : Int32} {m : Nat} (mw : MW g h (a + x) n) (pk : pkO g h (pI g (a + x)) (pJ g (a + x)) s) (fs : FS g h (a + x) n (pI g (a + x)) (pJ g (a + x)) s) (ls : LsO g h s) (wk : WkR g h s a n x) (hd : 3 ≤ d) (hs : (s : Int) < (hI g 63 14).toInt) (hx : x < 6) (hq15 : (clO g s).length ≤ 15)
    (k1 : ∀ f f', WkR g (h12 h f f') s a n (x + 1) → (∃ q, q < (clO g s).length ∧ plD g s a n x ((clO g s).getD q 0)) → LX12_plan_83 l E (d + 1) bc bs (nI s) (nI a) x3 (nI n) (nI (clO g s).length) (nI m) (nI (x + 1)) (h12 h f f') K)
    (k0 : ∀ f f', (∀ q, q < (clO g s).length → ¬ plD g s a n x ((clO g s).getD q 0)) → CI l E d 0 0 mX12_leastStuck [.inr (some (0, 12, 63)), .inl (nI s)] (h12 h f f') (fun v3 h3 => SH h3 ∧ K (-1) (stI h3 63 38 v3))) :
    ∀ (b q : Nat) (f f' : Nat → Int32) (x8 : Int32), q + b = (clO g s).length → (x8 = 0 → ∀ q', q' < q → ¬ plD g s a n x ((clO g s).getD q' 0)) → (¬ x8 = 0 → ∃ q', q' < q ∧ plD g s a n x ((clO g s).getD q' 0)) → (∀ j, j < 15 * x → f j = hA h 91 j) → (∀ j, j < 12 * (15 * x) → f' j = hA h 92 j) → (∀ q', q' < q → f (15 * x + q') = fV (plD g s a n x ((clO g s).getD q' 0)) ∧ (plD g s a n x ((clO g s).getD q' 0) → ∀ p : Nat, (p : Int) < (hI g 63 3).toInt → f' (12 * (15 * x + q') + p) = plP g s a n x ((clO g s).getD q' 0) p)) → LX12_plan_116 l E (d + 1) bc bs (nI s) (nI a) x3 (nI n) (nI (clO g s).length) (nI m) (nI x) x8 (nI q) (h12 h f f') K := by
  have hg := mw.rg
  obtain ⟨np, hnp⟩ : ∃ np : Nat, (np : Int) = (hI g 63 3).toInt := ⟨_, i32_clamp hg.1.1⟩
  have M : ∀ f f', MW g (h12 h f f') (a + x) n := fun f f' => (mw.aa f (by decide)).aa f' (by decide)
  have FSs : ∀ f f', FS g (h12 h f f') (a + x) n (pI g (a + x)) (pJ g (a + x)) s := fun f f' => (fs.aa f (by decide)).aa f' (by decide)
  have PK : ∀ f f', pkO g (h12 h f f') (pI g (a + x)) (pJ g (a + x)) s := fun f f' => by
    unfold pkO
    rw [h12_n h f f' (by decide) (by decide), h12_n h f f' (by decide) (by decide)]
    exact pk
  intro b
  induction b with
  | zero =>
    intro q f f' x8 hq z0 z1 a1 a2 a3
    have hq : q = (clO g s).length := by omega
    refine bX12_plan_116 (M f f').1 ⟨fun _ => ⟨fun c => k0 f f' (by rw [← hq]; exact z0 c), fun c => ?_⟩, fun c => absurd (by rw [hq]; exact nI_le (Nat.le_refl _) (by omega)) c⟩
    rw [nI_add]
    refine k1 f f' (fun y q' hy hq' => ?_) (by rw [← hq]; exact z1 c)
    rw [h12_1, h12_2]
    by_cases e : y = x
    · subst e
      exact a3 q' (by omega)
    · obtain ⟨w1, w2⟩ := wk y q' (by omega) hq'
      refine ⟨by rw [a1 _ (by omega)]; exact w1, fun z p hp => ?_⟩
      rw [a2 _ (by omega)]
      exact w2 z p hp
  | succ b ih =>
    intro q f f' x8 hq z0 z1 a1 a2 a3
    have hql : q < (clO g s).length := by omega
    obtain ⟨okp, ocl, oc15⟩ := clO_ok mw.2.1 hs hql
    obtain ⟨l1, l2⟩ := ls.2 q hql
    have fit : ftO g (a + x) (pI g (a + x)) (pJ g (a + x)) s (frP g (a + x) n (pI g (a + x)) (pJ g (a + x)) s) (fO (hA g 76 s) (nI ((clO g s).getD q 0))) (sO (hA g 76 s) (nI ((clO g s).getD q 0))) ↔ plD g s a n x ((clO g s).getD q 0) := ⟨fun z => ⟨ocl, z⟩, fun z => z.2⟩
    refine bX12_plan_116 (M f f').1 ⟨fun c => absurd c (nI_ge (by omega) (by omega)), fun _ => ?_⟩
    rw [ix2 (a := 15) (b := s) (by omega), h12_n h f f' (by decide) (by decide), h12_n h f f' (by decide) (by decide), l1, l2]
    have go : ∀ v x9 : Int32, v = fV (plD g s a n x ((clO g s).getD q 0)) → (x9 = 0 → ∀ q', q' < q + 1 → ¬ plD g s a n x ((clO g s).getD q' 0)) → (¬ x9 = 0 → ∃ q', q' < q + 1 ∧ plD g s a n x ((clO g s).getD q' 0)) → LX12_plan_204 l E (d + 1) bc bs (nI s) (nI a) x3 (nI n) (nI (clO g s).length) (nI m) (nI x) x9 (nI q) (fO (hA g 76 s) (nI ((clO g s).getD q 0))) (sO (hA g 76 s) (nI ((clO g s).getD q 0))) (nI 0) (stA (h12 h f f') 91 (nI 15 * nI x + nI q).toNatClampNeg (vp_nar .boolean v)) K := fun v x9 hv y0 y1 => by
      have env : vp_nar .boolean v = v := by
        rw [hv]
        by_cases c : plD g s a n x ((clO g s).getD q 0)
        · rw [fV_t c]; exact narb1
        · rw [fV_f c]; exact narb0
      rw [env, ix2 (by omega), h12_s1]
      have hh : ∀ f2 f3, h12 (h12 h f2 f') f2 f3 = h12 h f2 f3 := fun f2 f3 => by
        show stAA (stAA (stAA (stAA h 91 f2) 92 f') 91 f2) 92 f3 = stAA (stAA h 91 f2) 92 f3
        rw [aa_cm f' f2 (by decide), stAA_AA, stAA_AA]
      have := w_plan204 (l := l) (E := E) (d := d) (bc := bc) (bs := bs) (K := K) (m := m) (x3 := x3) (x8 := x9) (h := h12 h (fun j => if j = 15 * x + q then v else f j) f') (M _ _) (PK _ _) (FSs _ _) (by omega) hs hx hql hq15 (f := fun j => if j = 15 * x + q then v else f j) (by rw [if_pos rfl]; exact hv) hnp (fun f3 b1 b2 => ?_) np 0 f' (by omega) (fun j _ => by rw [h12_2]) (fun _ p' hp' => absurd hp' (Nat.not_lt_zero p'))
      · rw [hh] at this
        exact this
      · rw [hh]
        rw [h12_2] at b1
        refine ih (q + 1) _ f3 x9 (by omega) y0 y1 (fun j hj => by rw [if_neg (by omega)]; exact a1 j hj) (fun j hj => by rw [b1 j (by omega)]; exact a2 j hj) (fun q' hq' => ?_)
        by_cases e : q' = q
        · subst e
          exact ⟨by rw [if_pos rfl]; exact hv, fun z p hp => b2 z p (by omega)⟩
        · obtain ⟨u1, u2⟩ := a3 q' (by omega)
          refine ⟨by rw [if_neg (by omega)]; exact u1, fun z p hp => ?_⟩
          rw [b1 _ (by omega)]
          exact u2 z p hp
    have fin : ∀ v : Int32, v = fV (plD g s a n x ((clO g s).getD q 0)) → (vp_in (nI 15 * nI x + nI q) 90 ∧ ((¬ x8 = 0 → LX12_plan_204 l E (d + 1) bc bs (nI s) (nI a) x3 (nI n) (nI (clO g s).length) (nI m) (nI x) (nI 1) (nI q) (fO (hA g 76 s) (nI ((clO g s).getD q 0))) (sO (hA g 76 s) (nI ((clO g s).getD q 0))) (nI 0) (stA (h12 h f f') 91 (nI 15 * nI x + nI q).toNatClampNeg (vp_nar .boolean v)) K) ∧ (x8 = 0 → ((hA (stA (h12 h f f') 91 (nI 15 * nI x + nI q).toNatClampNeg (vp_nar .boolean v)) 91 (nI 15 * nI x + nI q).toNatClampNeg = 0 → LX12_plan_204 l E (d + 1) bc bs (nI s) (nI a) x3 (nI n) (nI (clO g s).length) (nI m) (nI x) (nI 0) (nI q) (fO (hA g 76 s) (nI ((clO g s).getD q 0))) (sO (hA g 76 s) (nI ((clO g s).getD q 0))) (nI 0) (stA (h12 h f f') 91 (nI 15 * nI x + nI q).toNatClampNeg (vp_nar .boolean v)) K) ∧ (¬ hA (stA (h12 h f f') 91 (nI 15 * nI x + nI q).toNatClampNeg (vp_nar .boolean v)) 91 (nI 15 * nI x + nI q).toNatClampNeg = 0 → LX12_plan_204 l E (d + 1) bc bs (nI s) (nI a) x3 (nI n) (nI (clO g s).length) (nI m) (nI x) (nI 1) (nI q) (fO (hA g 76 s) (nI ((clO g s).getD q 0))) (sO (hA g 76 s) (nI ((clO g s).getD q 0))) (nI 0) (stA (h12 h f f') 91 (nI 15 * nI x + nI q).toNatClampNeg (vp_nar .boolean v)) K))))) := fun v hv => by
      have env : vp_nar .boolean v = v := by
        rw [hv]
        by_cases c : plD g s a n x ((clO g s).getD q 0)
        · rw [fV_t c]; exact narb1
        · rw [fV_f c]; exact narb0
      have ea : hA (stA (h12 h f f') 91 (nI 15 * nI x + nI q).toNatClampNeg (vp_nar .boolean v)) 91 (nI 15 * nI x + nI q).toNatClampNeg = v := by
        rw [hA_st, if_pos ⟨rfl, rfl⟩]; exact env
      refine ⟨vp2 (by omega) (by omega), fun c => go v (nI 1) hv (fun z => absurd z (by decide)) (fun _ => ?_), fun c => ⟨fun c1 => go v (nI 0) hv (fun _ q' hq' => ?_) (fun z => absurd rfl z), fun c1 => go v (nI 1) hv (fun z => absurd z (by decide)) (fun _ => ?_)⟩⟩
      · obtain ⟨q', e1, e2⟩ := z1 c
        exact ⟨q', by omega, e2⟩
      · rw [ea, hv, fV0] at c1
        by_cases e : q' = q
        · rw [e]; exact c1
        · exact z0 c q' (by omega)
      · rw [ea, hv, fV0] at c1
        exact ⟨q, by omega, Classical.not_not.mp c1⟩
    exact ⟨vp2 (by omega) (by omega), c_fitsBy (M f f') (PK f f') (FSs f f') (by omega) hs okp (fun y => ⟨(M f f').1, fin _ (fV_t (fit.mp y)).symm⟩) (fun y => ⟨(M f f').1, fin _ (fV_f (fun z => y (fit.mpr z))).symm⟩)⟩
