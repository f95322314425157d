/-! ===== who can come, who comes, what fits: the words of both sides ===== -/
/-! what the same lasting data say is the same -/
section
variable {g h : aH}
theorem rBest_c (e : REp g h) (land t : Int32) : ∀ n, rBest h land t n = rBest g land t n
  | 0 => rfl
  | n + 1 => by
    unfold rBest
    rw [rBest_c e land t n, e.2 69 (by decide) (by decide), e.2 70 (by decide) (by decide), e.2 71 (by decide) (by decide)]
theorem rOff_c (e : REp g h) (land t : Int32) (n : Nat) : rOff h land t n = rOff g land t n := by
  unfold rOff
  rw [rBest_c e, e.2 64 (by decide) (by decide), e.2 72 (by decide) (by decide)]
theorem rCost_c (e : REp g h) (p x : Int32) : rCost h p x = rCost g p x := by
  unfold rCost
  rw [e.2 67 (by decide) (by decide), e.2 68 (by decide) (by decide)]
theorem rLoc_c (e : REp g h) (p t : Int32) (n : Nat) : rLoc h p t n = rLoc g p t n := by
  unfold rLoc
  rw [rOff_c e, e.2 65 (by decide) (by decide)]
theorem rReason_c (e : REp g h) (p t : Int32) (n : Nat) : rReason h p t n = rReason g p t n := by
  unfold rReason rFeast rBusy
  rw [rLoc_c e, rCost_c e, e.2 65 (by decide) (by decide), e.2 66 (by decide) (by decide), e.2 69 (by decide) (by decide), e.2 70 (by decide) (by decide), e.2 71 (by decide) (by decide), e.2 72 (by decide) (by decide)]
theorem rReasons_c (e : REp g h) (p t : Int32) (n : Nat) : ∀ j i, rReasons h p t n i j = rReasons g p t n i j
  | 0, i => by unfold rReasons; rfl
  | j + 1, i => by
    unfold rReasons
    rw [rReason_c e, rReasons_c e p t n j (i + 1)]
theorem rCosts_c (e : REp g h) (p t : Int32) (n : Nat) : ∀ j, rCosts h p t n j = rCosts g p t n j
  | 0 => rfl
  | j + 1 => by
    unfold rCosts
    rw [rLoc_c e, rCost_c e, rCosts_c e p t n j]
theorem rAt_c (e : REp g h) (s i w : Nat) : rAt h s i w = rAt g s i w := by
  unfold rAt
  rw [e.2 78 (by decide) (by decide)]
end
theorem rReasons_nn (h : aH) (p t : Int32) (n : Nat) : ∀ j i, rReasons h p t n i j ≤ 0 ↔ rReasons h p t n i j = 0
  | 0, i => by unfold rReasons; decide
  | j + 1, i => by
    unfold rReasons
    split
    · exact rReasons_nn h p t n j (i + 1)
    · exact rReason_nn h p (t + nI i) n
theorem rCosts_rng {h : aH} (S : RI h) {p : Nat} (hp : (p : Int) < (hI h 63 3).toInt) (t : Int32) (n : Nat) : ∀ j, j ≤ 6 → 0 ≤ (rCosts h (nI p) t n j).toInt ∧ (rCosts h (nI p) t n j).toInt ≤ 100 * j := by
  intro j
  have hN := S.1
  unfold RIn at hN
  have key : ∀ x : Int32, 0 ≤ x.toInt → x.toInt < 48 → (rCost h (nI p) x).toInt ≤ 100 := fun x x0 x1 => by
    have hc := (S.2.2.1 p hp).2.2
    have ec : (nI p).toNatClampNeg = p := nI_clamp (by omega)
    have e48 : (nI 48 * nI p).toInt = 48 * p := by rw [i_mul (by rw [ti_48, nI_toInt (by omega)]; omega) (by rw [ti_48, nI_toInt (by omega)]; omega), ti_48, nI_toInt (by omega)]
    unfold rCost
    rw [ec]
    split
    · decide
    · rename_i c
      have hc := hc.resolve_left c
      have e1 : (hA h 67 p - nI 1).toInt = (hA h 67 p).toInt - 1 := by rw [i_sub (by rw [ti_1]; omega) (by rw [ti_1]; omega), ti_1]
      have e2 : (nI 48 * nI p + (hA h 67 p - nI 1)).toInt = 48 * p + ((hA h 67 p).toInt - 1) := by rw [i_add (by omega) (by omega), e48, e1]
      have e3 : (nI 48 * nI p + x).toInt = 48 * p + x.toInt := by rw [i_add (by omega) (by omega), e48]
      have c2 := i32_clamp (x := nI 48 * nI p + (hA h 67 p - nI 1)) (by omega)
      have c3 := i32_clamp (x := nI 48 * nI p + x) (by omega)
      split
      · exact (S.2.2.2.1 _ (by omega)).2
      · exact (S.2.2.2.1 _ (by omega)).2
  have md : ∀ x : Int32, 0 ≤ (x - nI 48 * rDown x (nI 48)).toInt ∧ (x - nI 48 * rDown x (nI 48)).toInt < 48 := fun x => by
    have hd := rDown48 x
    have hr := fb_rng' x
    have m : (nI 48 * rDown x (nI 48)).toInt = 48 * (x.toInt / 48) ∨ True := Or.inr trivial
    rw [Int32.toInt_sub, Int32.toInt_mul, ti_48, hd]
    rw [Int.sub_bmod_bmod, fb_bmod' (by omega) (by omega)]
    omega
  induction j with
  | zero => intro _; rw [rCosts]; exact ⟨by decide, by decide⟩
  | succ j ih =>
    intro hj
    obtain ⟨i1, i2⟩ := ih (by omega)
    unfold rCosts
    split
    · omega
    · rename_i c
      rw [Int32.le_iff_toInt_le, ti_z] at c
      obtain ⟨m1, m2⟩ := md (rLoc h (nI p) (t + nI j) n)
      have := key _ m1 m2
      rw [i_add (by omega) (by omega)]
      omega
/-! a half: its first slot, its length -/
def stO (g : aH) (w s i : Nat) : Int := 336 * w + (hA g 78 (6 * s + i)).toInt
def lnO (g : aH) (s : Nat) : Int := (hA g 74 s).toInt
abbrev inO (g : aH) (w s i : Nat) : Prop := stO g w s i + lnO g s ≤ 17472
abbrev mtO (g : aH) (w s i r j : Nat) : Prop := stO g w s i < stO g w r j + lnO g r ∧ stO g w r j < stO g w s i + lnO g s
def cantO (g : aH) (w n s p : Nat) : Prop := ∃ k, k < n ∧ hA g 69 k = nI 3 ∧ hA g 70 k = nI p ∧ hA g 71 k = nI s ∧ hA g 72 k = nI w
/-- p is able to come to option i, but for other meetings -/
def ablO (g : aH) (w n s p i : Nat) : Prop := inO g w s i ∧ rReasons g (nI p) (rAt g s i w) n 0 (hA g 74 s).toNatClampNeg = 0 ∧ ¬ cantO g w n s p
abbrev Tab := Nat → Nat → Nat → Prop
/-- p is at a meeting of a lesser series somewhere from a up to b -/
def enO (g : aH) (w : Nat) (pi pj : Nat → Int32) (T : Tab) (s p : Nat) (a b : Int) : Prop := ∃ r, r < s ∧ ((T r p 0 ∧ stO g w r (pi r).toNatClampNeg < b ∧ a < stO g w r (pi r).toNatClampNeg + lnO g r) ∨ (T r p 1 ∧ stO g w r (pj r).toNatClampNeg < b ∧ a < stO g w r (pj r).toNatClampNeg + lnO g r))
def frO (g : aH) (w n : Nat) (pi pj : Nat → Int32) (T : Tab) (s p i : Nat) : Prop := ablO g w n s p i ∧ ¬ enO g w pi pj T s p (stO g w s i) (stO g w s i + lnO g s)
/-- the price of option i for p -/
abbrev prO (g : aH) (w n s p i : Nat) : Int32 := rCosts g (nI p) (rAt g s i w) n (hA g 74 s).toNatClampNeg
abbrev roO (g : aH) (s p : Nat) : Int := (hA g 79 (12 * s + p)).toInt
/-- p comes to half b of the pair i, j; F: to whom which option is free -/
def coF (g : aH) (w n s : Nat) (F : Nat → Nat → Prop) (p : Nat) (i j : Int32) : Nat → Prop
  | 0 => (1 ≤ roO g s p ∨ (¬ j = -1 ∧ hA g 76 s = nI p)) ∧ F p i.toNatClampNeg ∧ ¬ (¬ j = -1 ∧ ¬ hA g 76 s = nI p ∧ F p j.toNatClampNeg ∧ prO g w n s p j.toNatClampNeg < prO g w n s p i.toNatClampNeg)
  | _ + 1 => ¬ j = -1 ∧ (1 ≤ roO g s p ∨ hA g 76 s = nI p) ∧ F p j.toNatClampNeg ∧ ¬ (¬ hA g 76 s = nI p ∧ F p i.toNatClampNeg ∧ ¬ prO g w n s p j.toNatClampNeg < prO g w n s p i.toNatClampNeg)
/-- who comes to what is picked of the first series -/
def tbO (g : aH) (w n : Nat) (pi pj : Nat → Int32) : Nat → Tab
  | 0 => fun _ _ _ => False
  | s + 1 => fun r p b => (r = s ∧ ¬ pi s = -1 ∧ (p : Int) < (hI g 63 3).toInt ∧ b < 2 ∧ coF g w n s (frO g w n pi pj (tbO g w n pi pj s) s) p (pi s) (pj s) b) ∨ (¬ r = s ∧ tbO g w n pi pj s r p b)
/-- free beside what is picked of the lesser ones -/
abbrev frP (g : aH) (w n : Nat) (pi pj : Nat → Int32) (s : Nat) : Nat → Nat → Prop := frO g w n pi pj (tbO g w n pi pj s) s
theorem enO_c {g : aH} {w : Nat} {pi pj pi' pj' : Nat → Int32} {T T' : Tab} {s : Nat} (e : ∀ r, r < s → pi r = pi' r ∧ pj r = pj' r ∧ T r = T' r) (p : Nat) (a b : Int) : enO g w pi pj T s p a b = enO g w pi' pj' T' s p a b := by
  apply propext
  unfold enO
  constructor
  · rintro ⟨r, hr, q⟩
    obtain ⟨e1, e2, e3⟩ := e r hr
    rw [e1, e2, e3] at q
    exact ⟨r, hr, q⟩
  · rintro ⟨r, hr, q⟩
    obtain ⟨e1, e2, e3⟩ := e r hr
    rw [← e1, ← e2, ← e3] at q
    exact ⟨r, hr, q⟩
theorem tbO_c {g : aH} {w n : Nat} {pi pj pi' pj' : Nat → Int32} : ∀ s, (∀ r, r < s → pi r = pi' r ∧ pj r = pj' r) → tbO g w n pi pj s = tbO g w n pi' pj' s
  | 0, _ => rfl
  | s + 1, e => by
    have ih := tbO_c (g := g) (w := w) (n := n) s (fun r hr => e r (by omega))
    obtain ⟨e1, e2⟩ := e s (Nat.lt_succ_self s)
    have ef : frO g w n pi pj (tbO g w n pi pj s) s = frO g w n pi' pj' (tbO g w n pi' pj' s) s := by
      funext p i
      unfold frO
      rw [enO_c (fun r hr => ⟨(e r (by omega)).1, (e r (by omega)).2, by rw [ih]⟩)]
    funext r p b
    unfold tbO
    rw [e1, e2, ef, ih]
theorem frP_c {g : aH} {w n : Nat} {pi pj pi' pj' : Nat → Int32} (s : Nat) (e : ∀ r, r < s → pi r = pi' r ∧ pj r = pj' r) : frP g w n pi pj s = frP g w n pi' pj' s := by
  funext p i
  show frO g w n pi pj (tbO g w n pi pj s) s p i = frO g w n pi' pj' (tbO g w n pi' pj' s) s p i
  unfold frO
  rw [tbO_c s e, enO_c (fun r hr => ⟨(e r hr).1, (e r hr).2, rfl⟩)]
/-- the row of series r stays as later ones come -/
theorem tbO_st {g : aH} {w n : Nat} {pi pj : Nat → Int32} {r : Nat} : ∀ s, r < s → tbO g w n pi pj s r = tbO g w n pi pj (r + 1) r
  | 0, h => absurd h (Nat.not_lt_zero r)
  | s + 1, h => by
    by_cases c : r = s
    · subst c; rfl
    · rw [← tbO_st s (by omega)]
      funext p b
      apply propext
      show (r = s ∧ _) ∨ (¬ r = s ∧ tbO g w n pi pj s r p b) ↔ _
      exact ⟨fun q => q.elim (fun z => absurd z.1 c) (fun z => z.2), fun q => Or.inr ⟨c, q⟩⟩
theorem tbO_in {g : aH} {w n : Nat} {pi pj : Nat → Int32} {s r p b : Nat} (hr : r < s) : tbO g w n pi pj s r p b ↔ (¬ pi r = -1 ∧ (p : Int) < (hI g 63 3).toInt ∧ b < 2 ∧ coF g w n r (frP g w n pi pj r) p (pi r) (pj r) b) := by
  rw [tbO_st s hr]
  show (r = r ∧ _) ∨ (¬ r = r ∧ _) ↔ _
  exact ⟨fun q => q.elim (fun z => z.2) (fun z => absurd rfl z.1), fun q => Or.inl ⟨rfl, q⟩⟩
/-- the pick of a series: nothing, an option, a pair -/
def okP (g : aH) (s : Nat) (i j : Int32) : Prop := ∃ i' : Nat, i = nI i' ∧ (i' : Int) < (hA g 77 s).toInt ∧ ((hA g 76 s = -1 ∧ j = -1) ∨ (¬ hA g 76 s = -1 ∧ ∃ j' : Nat, i' < j' ∧ (j' : Int) < (hA g 77 s).toInt ∧ j = nI j'))
def okN (g : aH) (s : Nat) (i j : Int32) : Prop := (i = -1 ∧ j = -1) ∨ okP g s i j
/-- behind the series of the chain -/
def bhO (g : aH) (w : Nat) (pi pj : Nat → Int32) (s i : Nat) : Prop := hA g 75 s = -1 ∨ pi (hA g 75 s).toNatClampNeg = -1 ∨ (stO g w (hA g 75 s).toNatClampNeg (pi (hA g 75 s).toNatClampNeg).toNatClampNeg + lnO g (hA g 75 s).toNatClampNeg ≤ stO g w s i ∧ (pj (hA g 75 s).toNatClampNeg = -1 ∨ stO g w (hA g 75 s).toNatClampNeg (pj (hA g 75 s).toNatClampNeg).toNatClampNeg + lnO g (hA g 75 s).toNatClampNeg ≤ stO g w s i))
/-- there are such meetings at all -/
def sdO (g : aH) (w s : Nat) (i j : Int32) : Prop := inO g w s i.toNatClampNeg ∧ (¬ j = -1 → inO g w s j.toNatClampNeg ∧ ¬ mtO g w s i.toNatClampNeg s j.toNatClampNeg)
abbrev anF (F : Nat → Nat → Prop) (p : Nat) (i j : Int32) : Prop := F p i.toNatClampNeg ∨ (¬ j = -1 ∧ F p j.toNatClampNeg)
/-- the pair i, j fits -/
def ftO (g : aH) (w : Nat) (pi pj : Nat → Int32) (s : Nat) (F : Nat → Nat → Prop) (i j : Int32) : Prop :=
  sdO g w s i j ∧ bhO g w pi pj s i.toNatClampNeg ∧ (¬ j = -1 → bhO g w pi pj s j.toNatClampNeg) ∧
  (∀ p : Nat, (p : Int) < (hI g 63 3).toInt → roO g s p = 1 → anF F p i j) ∧
  (¬ j = -1 → ∀ p : Nat, (p : Int) < (hI g 63 3).toInt → hA g 76 s = nI p → F p i.toNatClampNeg ∧ F p j.toNatClampNeg) ∧
  (∀ r : Int, 3 ≤ r → r ≤ 5 → ∀ p : Nat, (p : Int) < (hI g 63 3).toInt → roO g s p = r → ∃ q : Nat, (q : Int) < (hI g 63 3).toInt ∧ roO g s q = r ∧ anF F q i j)
/-- what it costs p to come so -/
noncomputable def pcO (g : aH) (w n s p : Nat) (i j : Int32) (t0 t1 : Prop) : Int32 := (if Classical.propDecidable t0 |>.decide then prO g w n s p i.toNatClampNeg else nI 0) + (if Classical.propDecidable t1 |>.decide then prO g w n s p j.toNatClampNeg else nI 0)
noncomputable def cmV (t0 t1 : Prop) : Int32 := (if Classical.propDecidable t0 |>.decide then nI 1 else nI 0) + (if Classical.propDecidable t1 |>.decide then nI 2 else nI 0)
theorem cmV_b (t0 t1 : Prop) : ((cmV t0 t1 &&& nI 1 = nI 1) ↔ t0) ∧ ((cmV t0 t1 &&& nI 2 = nI 2) ↔ t1) ∧ (bt (cmV t0 t1) 0 = true ↔ t0) ∧ (bt (cmV t0 t1) 1 = true ↔ t1) := by
  unfold cmV
  by_cases c0 : t0
  · by_cases c1 : t1
    · rw [if_pos (dec_t c0), if_pos (dec_t c1)]
      exact ⟨iff_of_true (by decide) c0, iff_of_true (by decide) c1, iff_of_true (by decide) c0, iff_of_true (by decide) c1⟩
    · rw [if_pos (dec_t c0), if_neg (dec_f c1)]
      exact ⟨iff_of_true (by decide) c0, iff_of_false (by decide) c1, iff_of_true (by decide) c0, iff_of_false (by decide) c1⟩
  · by_cases c1 : t1
    · rw [if_neg (dec_f c0), if_pos (dec_t c1)]
      exact ⟨iff_of_false (by decide) c0, iff_of_true (by decide) c1, iff_of_false (by decide) c0, iff_of_true (by decide) c1⟩
    · rw [if_neg (dec_f c0), if_neg (dec_f c1)]
      exact ⟨iff_of_false (by decide) c0, iff_of_false (by decide) c1, iff_of_false (by decide) c0, iff_of_false (by decide) c1⟩
theorem cmV_iff {t0 t1 u0 u1 : Prop} (h0 : t0 ↔ u0) (h1 : t1 ↔ u1) : cmV t0 t1 = cmV u0 u1 := by rw [propext h0, propext h1]
