/-! ===== the class's facts: chains that lead to what was told earlier ===== -/
def chn (h : aH) (P : Nat → Prop) (a b c : Nat → Int32) : Nat → aR → Prop
  | 0, r => r = none
  | k + 1, r => (P k ∧ ∃ o, r = some (0, 3, o) ∧ hI h o 0 = nI k ∧ hI h o 1 = a k ∧ hI h o 2 = b k ∧ hI h o 3 = c k ∧ chn h P a b c k (hR h o 4) ∧ (99 ≤ o ∧ o < hN h ∧ hT h o = (0, 3))) ∨ (¬ P k ∧ chn h P a b c k r)
/-- what the class's walk down a chain comes to, with facts 0 .. m - 1 still ahead -/
def bk (h : aH) (land t : Int32) (n m : Nat) (off L : Int32) : Int32 := if rBest h land t (min m n) = -1 ∨ hA h 71 (rBest h land t (min m n)).toNatClampNeg ≤ L then off else hA h 72 (rBest h land t (min m n)).toNatClampNeg
theorem bk_same {h : aH} {land t : Int32} {n m : Nat} {off L : Int32} (e : rBest h land t (min (m + 1) n) = rBest h land t (min m n)) : bk h land t n (m + 1) off L = bk h land t n m off L := by unfold bk; rw [e]
theorem rBest_no {h : aH} {land t : Int32} {m : Nat} (c : ¬ (hA h 69 m = 0 ∧ hA h 70 m = land ∧ ¬ t < hA h 71 m)) : rBest h land t (m + 1) = rBest h land t m := by
  rw [rBest]
  exact if_neg (fun q => c ⟨q.1, q.2.1, q.2.2.1⟩)
theorem w_koff {l : Launch} {E : eE} {d bc bs : Nat} {h : aH} {K : Int32 → aH → Prop} {o : Nat} {land t : Int32} {n : Nat} (S : SH h) (hn : n < 2 ^ 31) : ∀ (m : Nat) (r : aR) (off L : Int32), m < 2 ^ 31 → chn h (fun k => hA h 69 k = 0 ∧ hA h 70 k = land) (hA h 71) (hA h 72) (hA h 73) m r → K (bk h land t n m off L) h → LX4_offsetAt_14 l E d bc bs o t (nI n) off L r h K := by
  intro m
  induction m with
  | zero =>
    intro r off L _ hc k
    have hc : r = none := hc
    subst hc
    refine bX4_offsetAt_14 S ⟨fun _ => ?_, fun q e => by cases e⟩
    unfold bk at k
    rw [Nat.zero_min, if_pos (Or.inl (show rBest h land t 0 = -1 from rfl))] at k
    exact k
  | succ m ih =>
    intro r off L hm hc k
    rcases hc with ⟨hP, p, rfl, f0, f1, f2, f3, hc, -⟩ | ⟨hP, hc⟩
    · refine bX4_offsetAt_14 S ⟨fun e => (by cases e), fun q _ => ⟨p, rfl, ?_⟩⟩
      rw [f0, f1, f2]
      refine ⟨fun c => ih _ _ _ (by omega) hc ?_, fun c => ⟨fun c1 => ih _ _ _ (by omega) hc ?_, fun c1 => ⟨fun c2 => ih _ _ _ (by omega) hc ?_, fun c2 => ih _ _ _ (by omega) hc ?_⟩⟩⟩
      · have hnm : n ≤ m := (nI_leI hn (by omega)).mp c
        rw [bk_same (by rw [Nat.min_eq_right hnm, Nat.min_eq_right (by omega)])] at k
        exact k
      · have hnm : m < n := by
          have : ¬ n ≤ m := fun q => c ((nI_leI hn (by omega)).mpr q)
          omega
        rw [bk_same (by rw [Nat.min_eq_left (by omega : m + 1 ≤ n), Nat.min_eq_left (by omega : m ≤ n)]; exact rBest_no (fun q => q.2.2 c1))] at k
        exact k
      all_goals
        have hnm : m < n := by
          have : ¬ n ≤ m := fun q => c ((nI_leI hn (by omega)).mpr q)
          omega
        unfold bk at k ⊢
        rw [Nat.min_eq_left (by omega : m + 1 ≤ n)] at k
        rw [Nat.min_eq_left (by omega : m ≤ n)]
        have hmc : (nI m).toNatClampNeg = m := nI_clamp (by omega)
        have hne : ¬ nI m = -1 := fun q => by
          have := congrArg Int32.toInt q
          rw [nI_toInt (by omega), ti_m1] at this
          omega
      · -- not later than the latest: nothing changes
        by_cases g : rBest h land t m = -1 ∨ ¬ hA h 71 m < hA h 71 (rBest h land t m).toNatClampNeg
        · rw [show rBest h land t (m + 1) = nI m by rw [rBest]; exact if_pos ⟨hP.1, hP.2, c1, g⟩, hmc, if_pos (Or.inr c2)] at k
          rw [if_pos]
          · exact k
          · refine g.imp id (fun g => ?_)
            rw [Int32.lt_iff_toInt_lt] at g
            rw [Int32.le_iff_toInt_le] at c2 ⊢
            omega
        · rw [show rBest h land t (m + 1) = rBest h land t m by rw [rBest]; exact if_neg (fun q => g q.2.2.2)] at k
          exact k
      · by_cases g : rBest h land t m = -1 ∨ ¬ hA h 71 m < hA h 71 (rBest h land t m).toNatClampNeg
        · rw [show rBest h land t (m + 1) = nI m by rw [rBest]; exact if_pos ⟨hP.1, hP.2, c1, g⟩, hmc, if_neg (fun q => q.elim hne c2)] at k
          rw [if_pos]
          · exact k
          · refine g.imp id (fun g => ?_)
            rw [Int32.lt_iff_toInt_lt] at g
            rw [Int32.le_iff_toInt_le]
            omega
        · rw [show rBest h land t (m + 1) = rBest h land t m by rw [rBest]; exact if_neg (fun q => g q.2.2.2)] at k
          have g1 : ¬ rBest h land t m = -1 := fun q => g (Or.inl q)
          have g2 : hA h 71 m < hA h 71 (rBest h land t m).toNatClampNeg := Decidable.byContradiction fun q => g (Or.inr q)
          rw [Int32.lt_iff_toInt_lt] at g2
          rw [Int32.le_iff_toInt_le] at c2
          rw [if_neg (fun q => q.elim g1 (fun z => by rw [Int32.le_iff_toInt_le] at z; omega))] at k
          rw [if_neg (fun q => q.elim g1 (fun z => by rw [Int32.le_iff_toInt_le] at z; omega))]
          exact k
    · refine ih r off L (by omega) hc ?_
      by_cases hnm : n ≤ m
      · rw [bk_same (by rw [Nat.min_eq_right hnm, Nat.min_eq_right (by omega)])] at k
        exact k
      · rw [bk_same (by rw [Nat.min_eq_left (by omega : m + 1 ≤ n), Nat.min_eq_left (by omega : m ≤ n)]; exact rBest_no (fun q => hP ⟨q.1, q.2.1⟩))] at k
        exact k
/-- Land.offsetAt -/
theorem k_off {l : Launch} {E : eE} {d bc bs : Nat} {h : aH} {K : Int32 → aH → Prop} {o : Nat} {land t : Int32} {n m : Nat} (S : SH h) (hn : n ≤ m) (hm : m < 2 ^ 31) (hl : hI h o 0 = hA h 64 land.toNatClampNeg) (hA0 : ∀ k, k < m → hA h 69 k = 0 → 0 ≤ (hA h 71 k).toInt) (hc : chn h (fun k => hA h 69 k = 0 ∧ hA h 70 k = land) (hA h 71) (hA h 72) (hA h 73) m (hR h o 1)) (k : K (rOff h land t n) h) : CI l E d bc bs mX4_offsetAt [.inr (some (0, 4, o)), .inl t, .inl (nI n)] h K := by
  refine bX4_offsetAt_0 S (w_koff S (by omega) m _ _ _ hm hc ?_)
  unfold rOff at k
  unfold bk
  rw [Nat.min_eq_right hn, hl]
  have key : ∀ i, i ≤ n → rBest h land t i = -1 ∨ 0 ≤ (hA h 71 (rBest h land t i).toNatClampNeg).toInt := by
    intro i
    induction i with
    | zero => intro _; exact Or.inl rfl
    | succ i ih =>
      intro hi
      rw [rBest]
      split
      · next c => rw [nI_clamp (by omega)]; exact Or.inr (hA0 i (by omega) c.1)
      · exact ih (by omega)
  by_cases g : rBest h land t n = -1
  · rw [if_pos g] at k
    rw [if_pos (Or.inl g)]
    exact k
  · rw [if_neg g] at k
    have := (key n (Nat.le_refl n)).resolve_left g
    rw [if_neg (fun q => q.elim g (fun z => by rw [Int32.le_iff_toInt_le, ti_m1] at z; omega))]
    exact k
