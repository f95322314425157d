/-! ===== the reference: reasons, can, cost ===== -/
noncomputable def rReasons (h : aH) (p t : Int32) (n : Nat) : Nat → Nat → Int32
  | _, 0 => nI 0
  | i, j + 1 => if rReason h p (t + nI i) n ≤ 0 then rReasons h p t n (i + 1) j else rReason h p (t + nI i) n
theorem w_reasons {l : Launch} {E : eE} {d bc bs : Nat} {h : aH} {K : Int32 → aH → Prop} {p t x : Int32} {m : Nat} (S : SR h) (hd : 1 ≤ d) (hm : m ≤ 6) (hp : inI p (hI h 63 3)) (ht : 0 ≤ t.toInt ∧ t.toInt + m ≤ 17472) (hx : 0 ≤ x.toInt ∧ x.toInt ≤ (hI h 63 8).toInt) : ∀ (j i : Nat), i + j = m → K (rReasons h p t x.toNatClampNeg i j) h → LX12_reasons_3 l E (d + 1) bc bs p t (nI m) x (nI i) h K := by
  intro j
  induction j with
  | zero =>
    intro i hi k
    have hi : i = m := by omega
    subst hi
    exact bX12_reasons_3 S hd ⟨fun _ => k, fun c => absurd (nI_le (Nat.le_refl i) (by omega)) c⟩
  | succ j ih =>
    intro i hi k
    have ei : (nI i).toInt = i := nI_toInt (by omega)
    have et : (t + nI i).toInt = t.toInt + i := by rw [i_add (by omega) (by omega), ei]
    refine bX12_reasons_3 S hd ⟨fun c => absurd c (nI_ge (by omega) (by omega)), fun _ => ⟨hp, ⟨by omega, by omega⟩, hx, fun c => ?_, fun c => ?_⟩⟩
    · unfold rReasons at k
      rw [if_pos c] at k
      rw [nI_add]
      exact ih (i + 1) (by omega) k
    · unfold rReasons at k
      rw [if_neg c] at k
      exact k
theorem c_reasons {l : Launch} {E : eE} {d bc bs : Nat} {h : aH} {K : Int32 → aH → Prop} {p t x4 x : Int32} (S : SR h) (hd : 2 ≤ d) (hp : inI p (hI h 63 3)) (ht : 0 ≤ t.toInt ∧ 1 ≤ x4.toInt ∧ x4.toInt ≤ 6 ∧ t.toInt + x4.toInt ≤ 17472) (hx : 0 ≤ x.toInt ∧ x.toInt ≤ (hI h 63 8).toInt) (k : K (rReasons h p t x.toNatClampNeg 0 x4.toNatClampNeg) h) : CI l E d bc bs mX12_reasons [.inr (some (0, 12, 63)), .inl p, .inl t, .inl x4, .inl x] h K := by
  obtain ⟨d, rfl⟩ : ∃ d', d = d' + 1 := ⟨d - 1, by omega⟩
  have e := i32_nn (x := x4) (by omega)
  have e2 := i32_clamp (x := x4) (by omega)
  refine bX12_reasons_0 S ?_
  rw [e]
  exact w_reasons S (by omega) (by omega) hp (by omega) hx x4.toNatClampNeg 0 (by omega) k
