/-! ===== sets of persons: bits of an int ===== -/
def bt (x : Int32) (p : Nat) : Bool := x.toBitVec.getLsbD p
theorem bt_and (x y : Int32) (p : Nat) : bt (x &&& y) p = (bt x p && bt y p) := by simp [bt]
theorem bt_or (x y : Int32) (p : Nat) : bt (x ||| y) p = (bt x p || bt y p) := by simp [bt]
theorem bt_not (x : Int32) {p : Nat} (hp : p < 32) : bt (~~~ x) p = !bt x p := by simp [bt, hp]
theorem bt_xor (x y : Int32) (p : Nat) : bt (x ^^^ y) p = (bt x p ^^ bt y p) := by simp [bt]
theorem bt_0 (p : Nat) : bt 0 p = false := by simp [bt]
theorem sh_p : ∀ p, p < 32 → (nI p &&& 31) = nI p ∧ (nI p).toBitVec.smod 32 = BitVec.ofNat 32 p := by decide
theorem bt_one : ∀ q, q < 32 → (nI 1 <<< (nI q &&& 31)).toBitVec = BitVec.ofNat 32 (2 ^ q) := by decide
theorem bt_pow {q p : Nat} (hq : q < 32) (hp : p < 32): bt (nI 1 <<< (nI q &&& 31)) p = decide (p = q) := by
  unfold bt
  rw [bt_one q hq]
  rw [BitVec.getLsbD_ofNat, Nat.testBit_two_pow, decide_eq_true hp, Bool.true_and, decide_eq_decide]
  exact ⟨Eq.symm, Eq.symm⟩
theorem bt_shr (x : Int32) {p : Nat} (hp : p < 32) (k : Nat) : bt (x >>> (nI p &&& 31)) k = (x.toBitVec.sshiftRight p).getLsbD k := by
  unfold bt
  rw [Int32.toBitVec_shiftRight, (sh_p p hp).1, (sh_p p hp).2]
  simp [BitVec.sshiftRight']
  rw [Nat.mod_eq_of_lt (by omega)]
theorem bt_ext {x y : Int32} (h : ∀ p, p < 32 → bt x p = bt y p) : x = y := by
  apply Int32.toBitVec_inj.mp
  apply BitVec.eq_of_getLsbD_eq
  intro i hi
  exact h i hi
theorem bt_1 (p : Nat) : bt (nI 1) p = decide (p = 0) := by
  unfold bt
  show (1#32).getLsbD p = _
  rw [BitVec.getLsbD_one]
  simp
theorem bt_in (x : Int32) {p : Nat} (hp : p < 32) : ((x >>> (nI p &&& 31)) &&& nI 1) = (if bt x p then nI 1 else 0) := by
  apply bt_ext
  intro k hk
  rw [bt_and, bt_1, bt_shr x hp]
  by_cases h0 : k = 0
  · subst h0
    have e : (x.toBitVec.sshiftRight p).getLsbD 0 = bt x p := by
      rw [BitVec.getLsbD_sshiftRight]
      simp [bt, hp]
    rw [e]
    cases bt x p
    · simp [bt_0]
    · simp [bt_1]
  · simp [h0]
    cases bt x p
    · simp [bt_0]
    · simp [bt_1, h0]

/-- a set of the first n -/
def sm (n : Nat) (x : Int32) : Prop := ∀ p, n ≤ p → bt x p = false
theorem bt_ge (x : Int32) {p : Nat} (hp : 32 ≤ p) : bt x p = false := BitVec.getLsbD_of_ge _ _ hp
theorem sm_and {n : Nat} {x y : Int32} (h : sm n x) : sm n (x &&& y) := fun p hp => by rw [bt_and, h p hp, Bool.false_and]
theorem sm_or {n : Nat} {x y : Int32} (h : sm n x) (h2 : sm n y) : sm n (x ||| y) := fun p hp => by rw [bt_or, h p hp, h2 p hp]; rfl
theorem sm_0 (n : Nat) : sm n 0 := fun p _ => bt_0 p
theorem sm_pow {n q : Nat} (hq : q < n) (hn : n ≤ 31) : sm n (nI 1 <<< (nI q &&& 31)) := fun p hp => by
  by_cases h : p < 32
  · rw [bt_pow (by omega) h, decide_eq_false (by omega)]
  · exact bt_ge _ (by omega)
theorem sm_ext {n : Nat} {x y : Int32} (h1 : sm n x) (h2 : sm n y) (h : ∀ p, p < n → bt x p = bt y p) : x = y := bt_ext (fun p _ => by
  by_cases g : p < n
  · exact h p g
  · rw [h1 p (by omega), h2 p (by omega)])
theorem sm_ne {n : Nat} {x : Int32} (h1 : sm n x) (h : ¬ x = 0) : ∃ p, p < n ∧ bt x p = true := by
  refine Classical.byContradiction fun c => h (sm_ext h1 (sm_0 n) (fun p hp => ?_))
  rw [bt_0]
  cases e : bt x p with
  | false => rfl
  | true => exact absurd ⟨p, hp, e⟩ c
theorem ne_of_bt {x : Int32} {p : Nat} (h : bt x p = true) : ¬ x = 0 := fun e => by rw [e, bt_0] at h; cases h
