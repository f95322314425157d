/-! ===== the words don't read the stuck ones ===== -/
section
variable {g h : aH}
theorem rBest_q (e : REq g h) (land t : Int32) : ∀ n, rBest h land t n = rBest g land t n
  | 0 => rfl
  | n + 1 => by
    unfold rBest
    rw [rBest_q e land t n, e.2 69 (by decide) (by decide), e.2 70 (by decide) (by decide), e.2 71 (by decide) (by decide)]
theorem rOff_q (e : REq g h) (land t : Int32) (n : Nat) : rOff h land t n = rOff g land t n := by
  unfold rOff
  rw [rBest_q e, e.2 64 (by decide) (by decide), e.2 72 (by decide) (by decide)]
theorem rCost_q (e : REq g h) (p x : Int32) : rCost h p x = rCost g p x := by
  unfold rCost
  rw [e.2 67 (by decide) (by decide), e.2 68 (by decide) (by decide)]
theorem rLoc_q (e : REq g h) (p t : Int32) (n : Nat) : rLoc h p t n = rLoc g p t n := by
  unfold rLoc
  rw [rOff_q e, e.2 65 (by decide) (by decide)]
theorem rReason_q (e : REq g h) (p t : Int32) (n : Nat) : rReason h p t n = rReason g p t n := by
  unfold rReason rFeast rBusy
  rw [rLoc_q e, rCost_q e, e.2 65 (by decide) (by decide), e.2 66 (by decide) (by decide), e.2 69 (by decide) (by decide), e.2 70 (by decide) (by decide), e.2 71 (by decide) (by decide), e.2 72 (by decide) (by decide)]
theorem rReasons_q (e : REq g h) (p t : Int32) (n : Nat) : ∀ j i, rReasons h p t n i j = rReasons g p t n i j
  | 0, i => by unfold rReasons; rfl
  | j + 1, i => by
    unfold rReasons
    rw [rReason_q e, rReasons_q e p t n j (i + 1)]
theorem rCosts_q (e : REq g h) (p t : Int32) (n : Nat) : ∀ j, rCosts h p t n j = rCosts g p t n j
  | 0 => rfl
  | j + 1 => by
    unfold rCosts
    rw [rLoc_q e, rCost_q e, rCosts_q e p t n j]
end
section
variable (g : aH) (v : Int32)
theorem q38 : REq g (stI g 63 38 v) := ⟨⟨rfl, rfl, rfl, rfl⟩, fun _ _ _ => rfl⟩
theorem stO38 : stO (stI g 63 38 v) = stO g := rfl
theorem enO38 : enO (stI g 63 38 v) = enO g := rfl
theorem ftO38 : ftO (stI g 63 38 v) = ftO g := rfl
theorem stS38 : stS (stI g 63 38 v) = stS g := rfl
theorem ablO38 : ablO (stI g 63 38 v) = ablO g := by
  funext w n s p i
  show (_ ∧ rReasons (stI g 63 38 v) (nI p) (rAt g s i w) n 0 (hA g 74 s).toNatClampNeg = 0 ∧ _) = _
  rw [rReasons_q (q38 g v)]
  rfl
theorem frO38 : frO (stI g 63 38 v) = frO g := by
  funext w n pi pj T s p i
  unfold frO
  rw [ablO38, enO38]
  rfl
theorem prO38 (w n s p i : Nat) : prO (stI g 63 38 v) w n s p i = prO g w n s p i := rCosts_q (q38 g v) (nI p) (rAt g s i w) n (hA g 74 s).toNatClampNeg
theorem coF38 : coF (stI g 63 38 v) = coF g := by
  funext w n s F p i j b
  cases b with
  | zero =>
    unfold coF
    rw [prO38, prO38]
    rfl
  | succ b =>
    unfold coF
    rw [prO38, prO38]
    rfl
theorem tbO38 (w n : Nat) (pi pj : Nat → Int32) : ∀ s, tbO (stI g 63 38 v) w n pi pj s = tbO g w n pi pj s
  | 0 => rfl
  | s + 1 => by
    funext r p b
    unfold tbO
    rw [tbO38 w n pi pj s, coF38, frO38]
    rfl
theorem frP38 (w n : Nat) (pi pj : Nat → Int32) (s : Nat) : frP (stI g 63 38 v) w n pi pj s = frP g w n pi pj s := by
  show frO (stI g 63 38 v) w n pi pj (tbO (stI g 63 38 v) w n pi pj s) s = frO g w n pi pj (tbO g w n pi pj s) s
  rw [frO38, tbO38]
theorem pcO38 : pcO (stI g 63 38 v) = pcO g := by
  funext w n s p i j t0 t1
  unfold pcO
  rw [prO38, prO38]
theorem plF38 (s a n k : Nat) : plF (stI g 63 38 v) s a n k = plF g s a n k := frP38 g v (a + k) n (pI g (a + k)) (pJ g (a + k)) s
theorem plD38 (s a n : Nat) : plD (stI g 63 38 v) s a n = plD g s a n := by
  funext k c
  show (_ ∧ ftO (stI g 63 38 v) (a + k) (pI g (a + k)) (pJ g (a + k)) s (plF (stI g 63 38 v) s a n k) _ _) = _
  rw [plF38, ftO38]
  rfl
theorem plP38 (s a n : Nat) : plP (stI g 63 38 v) s a n = plP g s a n := by
  funext k c p
  unfold plP
  rw [plF38, pcO38, coF38]
  rfl
theorem plS38 (s a n : Nat) (u : Nat → Nat) (p : Nat) : ∀ k, plS (stI g 63 38 v) s a n u p k = plS g s a n u p k
  | 0 => rfl
  | k + 1 => by
    unfold plS
    rw [plS38 s a n u p k, plP38]
theorem plU38 (s a n m : Nat) : plU (stI g 63 38 v) s a n m = plU g s a n m := by
  funext u p
  exact plS38 g v s a n u p m
theorem plB38 (s a n m np : Nat) : plB (stI g 63 38 v) s a n m np = plB g s a n m np := by
  show foB np m (plD (stI g 63 38 v) s a n) (plU (stI g 63 38 v) s a n m) (clO g s) = _
  rw [plD38, plU38]
theorem plV38 (s a n m np : Nat) (u : Nat → Nat) (x : Int32) : plV (stI g 63 38 v) s a n m np u x = plV g s a n m np u x := by
  unfold plV
  rw [plU38]
end
