/-! ===== what holds of the reference's data at all times ===== -/
theorem fb_bmod' {z : Int} (h1 : -2147483648 ≤ z) (h2 : z < 2147483648) : z.bmod (2 ^ 32) = z := by
  rw [Int.bmod_eq_of_le (by omega) (by omega)]
theorem i_add {x y : Int32} (h1 : -2147483648 ≤ x.toInt + y.toInt) (h2 : x.toInt + y.toInt < 2147483648) : (x + y).toInt = x.toInt + y.toInt := by
  rw [Int32.toInt_add, fb_bmod' h1 h2]
theorem i_sub {x y : Int32} (h1 : -2147483648 ≤ x.toInt - y.toInt) (h2 : x.toInt - y.toInt < 2147483648) : (x - y).toInt = x.toInt - y.toInt := by
  rw [Int32.toInt_sub, fb_bmod' h1 h2]
theorem i_mul {x y : Int32} (h1 : -2147483648 ≤ x.toInt * y.toInt) (h2 : x.toInt * y.toInt < 2147483648) : (x * y).toInt = x.toInt * y.toInt := by
  rw [Int32.toInt_mul, fb_bmod' h1 h2]
def RIn (h : aH) : Prop := (0 ≤ (hI h 63 1).toInt ∧ (hI h 63 1).toInt ≤ 8) ∧ (0 ≤ (hI h 63 3).toInt ∧ (hI h 63 3).toInt ≤ 12) ∧ (0 ≤ (hI h 63 8).toInt ∧ (hI h 63 8).toInt ≤ 400) ∧ (0 ≤ (hI h 63 14).toInt ∧ (hI h 63 14).toInt ≤ 4)
def RIl (h : aH) : Prop := ∀ i : Nat, (i : Int) < (hI h 63 1).toInt → -24 ≤ (hA h 64 i).toInt ∧ (hA h 64 i).toInt ≤ 28
def RIp (h : aH) : Prop := ∀ p : Nat, (p : Int) < (hI h 63 3).toInt → inI (hA h 65 p) (hI h 63 1) ∧ (0 ≤ (hA h 66 p).toInt ∧ (hA h 66 p).toInt ≤ 127) ∧ (hA h 67 p = -1 ∨ (1 ≤ (hA h 67 p).toInt ∧ (hA h 67 p).toInt ≤ 48))
def RIc (h : aH) : Prop := ∀ i : Nat, i < 576 → -1 ≤ (hA h 68 i).toInt ∧ (hA h 68 i).toInt ≤ 100
/-- fact k is what it says -/
def RF (h : aH) (k : Nat) : Prop :=
  (hA h 69 k = nI 0 ∧ inI (hA h 70 k) (hI h 63 1) ∧ (0 ≤ (hA h 71 k).toInt ∧ (hA h 71 k).toInt < 17472) ∧ -24 ≤ (hA h 72 k).toInt ∧ (hA h 72 k).toInt ≤ 28) ∨
  (hA h 69 k = nI 1 ∧ inI (hA h 70 k) (hI h 63 1) ∧ 0 ≤ (hA h 71 k).toInt ∧ (hA h 71 k).toInt ≤ 363) ∨
  (hA h 69 k = nI 2 ∧ inI (hA h 70 k) (hI h 63 3) ∧ 0 ≤ (hA h 71 k).toInt ∧ (hA h 71 k).toInt < (hA h 72 k).toInt ∧ (hA h 72 k).toInt ≤ 17472) ∨
  (hA h 69 k = nI 3 ∧ inI (hA h 70 k) (hI h 63 3) ∧ inI (hA h 71 k) (hI h 63 14) ∧ 0 ≤ (hA h 72 k).toInt ∧ (hA h 72 k).toInt < 52)
def RIf (h : aH) : Prop := ∀ k : Nat, (k : Int) < (hI h 63 8).toInt → RF h k ∧ (hA h 73 k = nI 0 ∨ hA h 73 k = nI 1)
/-- series s is what it says -/
def RSe (h : aH) (s : Nat) : Prop :=
  (1 ≤ (hA h 74 s).toInt ∧ (hA h 74 s).toInt ≤ 6) ∧ (hA h 75 s = -1 ∨ (0 ≤ (hA h 75 s).toInt ∧ (hA h 75 s).toInt < s)) ∧ (hA h 76 s = -1 ∨ inI (hA h 76 s) (hI h 63 3)) ∧ (0 ≤ (hA h 77 s).toInt ∧ (hA h 77 s).toInt ≤ 6) ∧
  (∀ i : Nat, (i : Int) < (hA h 77 s).toInt → 0 ≤ (hA h 78 (6 * s + i)).toInt ∧ (hA h 78 (6 * s + i)).toInt < 336)
/-- what is planned of series s in week w: nothing, an option, a pair, all within the weeks -/
def RPl (h : aH) (s w : Nat) : Prop :=
  (hA h 80 (2 * (52 * s + w)) = -1 ∧ hA h 80 (2 * (52 * s + w) + 1) = -1) ∨
  ((s : Int) < (hI h 63 14).toInt ∧ ∃ i : Nat, hA h 80 (2 * (52 * s + w)) = nI i ∧ (i : Int) < (hA h 77 s).toInt ∧ 336 * (w : Int) + (hA h 78 (6 * s + i)).toInt + (hA h 74 s).toInt ≤ 17472 ∧
    ((hA h 76 s = -1 ∧ hA h 80 (2 * (52 * s + w) + 1) = -1) ∨ (¬ hA h 76 s = -1 ∧ ∃ j : Nat, i < j ∧ (j : Int) < (hA h 77 s).toInt ∧ hA h 80 (2 * (52 * s + w) + 1) = nI j ∧ 336 * (w : Int) + (hA h 78 (6 * s + j)).toInt + (hA h 74 s).toInt ≤ 17472)))
def RIs (h : aH) : Prop := (∀ s : Nat, (s : Int) < (hI h 63 14).toInt → RSe h s) ∧ (∀ s : Nat, s < 4 → ¬ (s : Int) < (hI h 63 14).toInt → hA h 77 s = nI 0) ∧
  (∀ s p : Nat, s < 4 → p < 12 → 0 ≤ (hA h 79 (12 * s + p)).toInt ∧ (hA h 79 (12 * s + p)).toInt ≤ 5 ∧ (¬ ((s : Int) < (hI h 63 14).toInt ∧ (p : Int) < (hI h 63 3).toInt) → hA h 79 (12 * s + p) = nI 0)) ∧
  (∀ s w : Nat, s < 4 → w < 52 → RPl h s w)
def RI (h : aH) : Prop := RIn h ∧ RIl h ∧ RIp h ∧ RIc h ∧ RIf h ∧ RIs h
def SR (h : aH) : Prop := SH h ∧ RI h
def rCost (h : aH) (p x : Int32) : Int32 := if hA h 67 p.toNatClampNeg = -1 then nI 0 else if hA h 67 p.toNatClampNeg ≤ x then hA h 68 (nI 48 * p + (hA h 67 p.toNatClampNeg - nI 1)).toNatClampNeg else hA h 68 (nI 48 * p + x).toNatClampNeg
theorem c_costAt {l : Launch} {E : eE} {d bc bs : Nat} {h : aH} {K : Int32 → aH → Prop} {p x : Int32} (S : SR h) (hp : inI p (hI h 63 3)) (hx : 0 ≤ x.toInt ∧ x.toInt < 48) (k : K (rCost h p x) h) : CI l E d bc bs mX12_costAt [.inr (some (0, 12, 63)), .inl p, .inl x] h K := by
  have hn := S.2.1
  have e := i32_clamp hp.1
  have hc := (S.2.2.2.1 p.toNatClampNeg (by omega)).2.2
  unfold RIn at hn
  unfold rCost at k
  have e48 : (nI 48 * p).toInt = 48 * p.toInt := by rw [i_mul (by rw [ti_48]; omega) (by rw [ti_48]; omega), ti_48]
  refine bX12_costAt_0 S.1 ⟨vp_of hp.1 (by omega), fun c1 => ⟨fun c2 => ⟨?_, ?_⟩, fun c2 => ⟨?_, ?_⟩⟩, fun c1 => ?_⟩
  · have hc := hc.resolve_left c1
    have e1 : (hA h 67 p.toNatClampNeg - nI 1).toInt = (hA h 67 p.toNatClampNeg).toInt - 1 := by rw [i_sub (by rw [ti_1]; omega) (by rw [ti_1]; omega), ti_1]
    have e2 : (nI 48 * p + (hA h 67 p.toNatClampNeg - nI 1)).toInt = 48 * p.toInt + ((hA h 67 p.toNatClampNeg).toInt - 1) := by rw [i_add (by rw [e48, e1]; omega) (by rw [e48, e1]; omega), e48, e1]
    exact vp_of (by rw [e2]; omega) (by rw [e2]; omega)
  · rw [if_neg c1, if_pos c2] at k; exact k
  · have e2 : (nI 48 * p + x).toInt = 48 * p.toInt + x.toInt := by rw [i_add (by rw [e48]; omega) (by rw [e48]; omega), e48]
    exact vp_of (by rw [e2]; omega) (by rw [e2]; omega)
  · rw [if_neg c1, if_neg c2] at k; exact k
  · rw [if_pos c1] at k; exact k
def rSlot (h : aH) (s i : Int32) : Int32 := nI 336 * hI h 63 22 + hA h 78 (nI 6 * s + i).toNatClampNeg
theorem c_slotOf {l : Launch} {E : eE} {d bc bs : Nat} {h : aH} {K : Int32 → aH → Prop} {s i : Int32} (S : SH h) (hs : vp_in s 4 ∧ vp_in i 6) (k : K (rSlot h s i) h) : CI l E d bc bs mX12_slotOf [.inr (some (0, 12, 63)), .inl s, .inl i] h K := by
  obtain ⟨h1, h2⟩ := hs
  rw [vp_in_iff] at h1 h2
  have e6 : (nI 6 * s).toInt = 6 * s.toInt := by rw [i_mul (by rw [ti_6]; omega) (by rw [ti_6]; omega), ti_6]
  have e2 : (nI 6 * s + i).toInt = 6 * s.toInt + i.toInt := by rw [i_add (by rw [e6]; omega) (by rw [e6]; omega), e6]
  exact bX12_slotOf_0 S ⟨vp_of (by rw [e2]; omega) (by rw [e2]; omega), k⟩
def rFact (h : aH) (x1 x2 x3 x4 x5 : Int32) : aH := stI (stA (stA (stA (stA (stA h 69 (hI h 63 8).toNatClampNeg x1) 70 (hI h 63 8).toNatClampNeg x2) 71 (hI h 63 8).toNatClampNeg x3) 72 (hI h 63 8).toNatClampNeg x4) 73 (hI h 63 8).toNatClampNeg (vp_nar .boolean x5)) 63 8 (hI h 63 8 + nI 1)
theorem add_sub1 (x : Int32) : x + nI 1 - nI 1 = x := Int32.add_sub_cancel x (nI 1)
theorem c_fact {l : Launch} {E : eE} {d bc bs : Nat} {h : aH} {K : Int32 → aH → Prop} {x1 x2 x3 x4 x5 : Int32} (S : SH h) (hf : vp_in (hI h 63 8) 400) (k : K (hI h 63 8) (rFact h x1 x2 x3 x4 x5)) : CI l E d bc bs mX12_fact [.inr (some (0, 12, 63)), .inl x1, .inl x2, .inl x3, .inl x4, .inl x5] h K :=
  bX12_fact_0 S ⟨hf, by rw [add_sub1]; exact k⟩
