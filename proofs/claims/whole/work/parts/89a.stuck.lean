/-! ===== the least set of those by whom alone nothing fits ===== -/
/-- how many of the first n -/
def pcb (b : Nat → Bool) : Nat → Nat
  | 0 => 0
  | n + 1 => pcb b n + (if b n then 1 else 0)
abbrev pc (x : Int32) : Nat := pcb (bt x) 12
theorem pcb_le (b : Nat → Bool) : ∀ n, pcb b n ≤ n
  | 0 => Nat.le_refl 0
  | n + 1 => by
    have := pcb_le b n
    unfold pcb
    split <;> omega
theorem rBits_pc (x : Int32) : ∀ k, k ≤ 12 → rBits x k = nI (pcb (bt x) k)
  | 0, _ => rfl
  | k + 1, h => by
    unfold rBits pcb
    rw [rBits_pc x k (by omega), bt_in x (by omega)]
    cases bt x k with
    | true => rw [if_pos rfl, if_pos rfl, nI_add]
    | false => rw [if_neg (by decide), if_neg (by decide)]; exact Int32.add_zero _
/-- a is ahead of b -/
def ahd (a b : Int32) : Prop := pc a < pc b ∨ (pc a = pc b ∧ ∃ p, p < 12 ∧ bt a p = true ∧ bt b p = false ∧ ∀ q, q < p → bt a q = bt b q)
theorem low_ex {Q : Nat → Prop} : ∀ n, (∃ p, p < n ∧ Q p) → ∃ p, p < n ∧ Q p ∧ ∀ q, q < p → ¬ Q q
  | 0, ⟨p, hp, _⟩ => absurd hp (Nat.not_lt_zero p)
  | n + 1, ⟨p, hp, hq⟩ => by
    by_cases c : ∃ p, p < n ∧ Q p
    · obtain ⟨r, h1, h2, h3⟩ := low_ex n c
      exact ⟨r, by omega, h2, h3⟩
    · have : p = n := Decidable.byContradiction fun z => c ⟨p, by omega, hq⟩
      subst this
      exact ⟨p, by omega, hq, fun q h1 h2 => c ⟨q, h1, h2⟩⟩
theorem ahd_asym {a b : Int32} (h1 : ahd a b) (h2 : ahd b a) : False := by
  rcases h1 with h1 | ⟨h1, p, p1, p2, p3, p4⟩
  · rcases h2 with h2 | ⟨h2, -⟩ <;> omega
  · rcases h2 with h2 | ⟨h2, q, q1, q2, q3, q4⟩
    · omega
    · rcases Nat.lt_trichotomy p q with c | c | c
      · have := q4 p c; rw [p2, p3] at this; cases this
      · subst c; rw [p2] at q3; cases q3
      · have := p4 q c; rw [q2, q3] at this; cases this
theorem ahd_trans {a b c : Int32} (h1 : ahd a b) (h2 : ahd b c) : ahd a c := by
  rcases h1 with h1 | ⟨h1, p, p1, p2, p3, p4⟩
  · rcases h2 with h2 | ⟨h2, -⟩
    · exact Or.inl (by omega)
    · exact Or.inl (by omega)
  · rcases h2 with h2 | ⟨h2, q, q1, q2, q3, q4⟩
    · exact Or.inl (by omega)
    · refine Or.inr ⟨by omega, ?_⟩
      rcases Nat.lt_trichotomy p q with c | c | c
      · exact ⟨p, p1, p2, by rw [← q4 p c]; exact p3, fun r hr => (p4 r hr).trans (q4 r (by omega))⟩
      · subst c; rw [q2] at p3; cases p3
      · exact ⟨q, q1, by rw [p4 q c]; exact q2, q3, fun r hr => (p4 r (by omega)).trans (q4 r hr)⟩
theorem ahd_total {a b : Int32} (ha : sm 12 a) (hb : sm 12 b) (ne : ¬ a = b) : ahd a b ∨ ahd b a := by
  rcases Nat.lt_trichotomy (pc a) (pc b) with c | c | c
  · exact Or.inl (Or.inl c)
  · have : ∃ p, p < 12 ∧ ¬ bt a p = bt b p := Classical.byContradiction fun z => ne (sm_ext ha hb (fun p hp => Classical.byContradiction fun y => z ⟨p, hp, y⟩))
    obtain ⟨p, h1, h2, h3⟩ := low_ex 12 this
    have h3 : ∀ q, q < p → bt a q = bt b q := fun q hq => Classical.byContradiction fun y => h3 q hq y
    cases ea : bt a p with
    | true =>
      cases eb : bt b p with
      | true => exact absurd (ea.trans eb.symm) h2
      | false => exact Or.inl (Or.inr ⟨c, p, h1, ea, eb, h3⟩)
    | false =>
      cases eb : bt b p with
      | true => exact Or.inr (Or.inr ⟨c.symm, p, h1, eb, ea, fun q hq => (h3 q hq).symm⟩)
      | false => exact absurd (ea.trans eb.symm) h2
  · exact Or.inr (Or.inl c)
/-! sets as numbers -/
theorem bt_nI {y p : Nat} (hy : y < 2 ^ 31) : bt (nI y) p = y.testBit p := by
  show (BitVec.ofNat 32 y).getLsbD p = _
  rw [BitVec.getLsbD_ofNat]
  by_cases c : p < 32
  · rw [decide_eq_true c, Bool.true_and]
  · rw [decide_eq_false c, Bool.false_and]
    exact (Nat.testBit_lt_two_pow (Nat.lt_of_lt_of_le hy (Nat.pow_le_pow_right (by decide) (by omega)))).symm
theorem sm_nat {x : Int32} (h : sm 12 x) : ∃ y, y < 4096 ∧ x = nI y := by
  refine ⟨x.toBitVec.toNat, ?_, ?_⟩
  · exact Nat.lt_pow_two_of_testBit (n := 12) _ (fun i hi => h i hi)
  · apply Int32.toBitVec_inj.mp
    show x.toBitVec = BitVec.ofNat 32 x.toBitVec.toNat
    rw [BitVec.ofNat_toNat, BitVec.setWidth_eq]
theorem nat_sm {y : Nat} (h : y < 4096) : sm 12 (nI y) := fun p hp => by
  rw [bt_nI (by omega)]
  exact Nat.testBit_lt_two_pow (Nat.lt_of_lt_of_le h (show 2 ^ 12 ≤ 2 ^ p from Nat.pow_le_pow_right (by decide) hp))
def lbOK (y : Nat) : Bool := y == 0 || (List.range 12).any (fun k => y % 2 ^ (k + 1) == 2 ^ k && (nI y &&& (0 - nI y)) == nI (2 ^ k))
theorem lb_all : (List.range 4096).all lbOK = true := by decide +kernel
/-- the lowest bit -/
theorem lb_at {z : Int32} (h : sm 12 z) (ne : ¬ z = 0) : ∃ k, k < 12 ∧ bt z k = true ∧ (∀ q, q < k → bt z q = false) ∧ ∀ p, bt (z &&& (0 - z)) p = decide (p = k) := by
  obtain ⟨y, hy, rfl⟩ := sm_nat h
  have := List.all_eq_true.mp lb_all y (List.mem_range.mpr hy)
  unfold lbOK at this
  rw [Bool.or_eq_true] at this
  rcases this with e | e
  · have : y = 0 := by simpa using e
    subst this
    exact absurd rfl ne
  · rw [List.any_eq_true] at e
    obtain ⟨k, hk, e⟩ := e
    rw [List.mem_range] at hk
    rw [Bool.and_eq_true] at e
    have e1 : y % 2 ^ (k + 1) = 2 ^ k := by simpa using e.1
    have e2 : nI y &&& (0 - nI y) = nI (2 ^ k) := by simpa using e.2
    have tb : ∀ i, i < k + 1 → y.testBit i = decide (k = i) := fun i hi => by
      have := Nat.testBit_mod_two_pow y (k + 1) i
      rw [e1, decide_eq_true hi, Bool.true_and, Nat.testBit_two_pow] at this
      exact this.symm
    refine ⟨k, hk, ?_, fun q hq => ?_, fun p => ?_⟩
    · rw [bt_nI (by omega), tb k (by omega)]; simp
    · rw [bt_nI (by omega), tb q (by omega)]; simp; omega
    · have hk2 : 2 ^ k < 2 ^ 31 := Nat.pow_lt_pow_right (by decide) (by omega)
      rw [e2, bt_nI hk2, Nat.testBit_two_pow, decide_eq_decide]
      exact ⟨Eq.symm, Eq.symm⟩
theorem c_isAhead {l : Launch} {E : eE} {d bc bs : Nat} {h : aH} {K : Int32 → aH → Prop} {a b : Int32} (S : SH h) (hd : 1 ≤ d) (ha : sm 12 a) (hb : sm 12 b) (k1 : ahd a b → K (nI 1) h) (k0 : ¬ ahd a b → K (nI 0) h) : CI l E d bc bs mX12_isAhead [.inl a, .inl b] h K := by
  obtain ⟨d, rfl⟩ : ∃ d', d = d' + 1 := ⟨d - 1, by omega⟩
  have la := pcb_le (bt a) 12
  have lb := pcb_le (bt b) 12
  refine bX12_isAhead_0 S ?_
  rw [rBits_pc a 12 (Nat.le_refl 12), rBits_pc b 12 (Nat.le_refl 12), nI_eq (by omega) (by omega), nI_leI (by omega) (by omega)]
  have sx : sm 12 (a ^^^ b) := fun p hp => by rw [bt_xor, ha p hp, hb p hp]; rfl
  refine ⟨fun c => ?_, fun c => ⟨fun c1 => k0 (fun q => ?_), fun c1 => k1 (Or.inl (by show pcb (bt a) 12 < pcb (bt b) 12; omega))⟩⟩
  · by_cases z : a ^^^ b = 0
    · have eq : ∀ p, bt a p = bt b p := fun p => by
        have := congrArg (fun x => bt x p) z
        simp only [bt_xor, bt_0] at this
        cases e1 : bt a p <;> cases e2 : bt b p <;> rw [e1, e2] at this <;> simp at this ⊢
      refine ⟨fun _ => k0 (fun q => ?_), fun y => absurd ?_ y⟩
      · rcases q with q | ⟨-, p, -, q2, q3, -⟩
        · have q : pcb (bt a) 12 < pcb (bt b) 12 := q; omega
        · rw [eq p, q3] at q2; cases q2
      · rw [z]
        apply bt_ext; intro p hp
        rw [bt_and, bt_and, bt_0]; simp
    · obtain ⟨k, hk, k1', k2, k3⟩ := lb_at sx z
      have dif : bt a k = !bt b k := by
        rw [bt_xor] at k1'
        cases e1 : bt a k <;> cases e2 : bt b k <;> rw [e1, e2] at k1' <;> simp at k1' ⊢
      have lowe : ∀ q, q < k → bt a q = bt b q := fun q hq => by
        have := k2 q hq
        rw [bt_xor] at this
        cases e1 : bt a q <;> cases e2 : bt b q <;> rw [e1, e2] at this <;> simp at this ⊢
      have key : (a &&& ((a ^^^ b) &&& (0 - (a ^^^ b)))) = 0 ↔ bt a k = false := by
        constructor
        · intro y
          have := congrArg (fun x => bt x k) y
          simp only [bt_0] at this
          rw [bt_and, k3 k] at this
          simpa using this
        · intro y
          apply bt_ext; intro p hp
          rw [bt_and, k3 p, bt_0]
          by_cases e : p = k
          · rw [e, y]; rfl
          · rw [decide_eq_false e, Bool.and_false]
      rw [key]
      refine ⟨fun y => k0 (fun q => ?_), fun y => k1 (Or.inr ⟨c, k, hk, ?_, ?_, lowe⟩)⟩
      · rcases q with q | ⟨-, p, p1, q2, q3, q4⟩
        · have q : pcb (bt a) 12 < pcb (bt b) 12 := q; omega
        · rcases Nat.lt_trichotomy p k with t | t | t
          · rw [lowe p t, q3] at q2; cases q2
          · rw [t, y] at q2; cases q2
          · have := q4 k t
            rw [dif] at this
            cases e : bt b k <;> rw [e] at this <;> cases this
      · simpa using y
      · rw [dif] at y
        simpa using y
  · rcases q with q | ⟨q, -⟩
    · have q : pcb (bt a) 12 < pcb (bt b) 12 := q; omega
    · exact c q
/-! what is asked -/
/-- p is satisfied by the pair i, j -/
def saS (g : aH) (s : Nat) (F : Nat → Nat → Prop) (p : Nat) (i j : Int32) : Prop := (hA g 76 s = nI p ∧ ¬ j = -1 ∧ F p i.toNatClampNeg ∧ F p j.toNatClampNeg) ∨ (¬ (hA g 76 s = nI p ∧ ¬ j = -1) ∧ anF F p i j)
/-- some choice goes for all of the set X -/
def goS (g : aH) (w s : Nat) (F : Nat → Nat → Prop) (X : Int32) : Prop := ∃ c, c ∈ clO g s ∧ sdO g w s (fO (hA g 76 s) (nI c)) (sO (hA g 76 s) (nI c)) ∧ ∀ p : Nat, (p : Int) < (hI g 63 3).toInt → bt X p = true → saS g s F p (fO (hA g 76 s) (nI c)) (sO (hA g 76 s) (nI c))
def muS (g : aH) (s p : Nat) : Prop := (p : Int) < (hI g 63 3).toInt ∧ (roO g s p = 1 ∨ hA g 76 s = nI p)
def subS (X Y : Int32) : Prop := ∀ p, bt X p = true → bt Y p = true
/-- v is the least set -/
def stS (g : aH) (w s : Nat) (F : Nat → Nat → Prop) (v : Int32) : Prop := sm 12 v ∧ ∃ mu : Int32, sm 12 mu ∧ (∀ p, p < 12 → (bt mu p = true ↔ muS g s p)) ∧ (goS g w s F mu → v = 0) ∧ (¬ goS g w s F mu → subS v mu ∧ ¬ goS g w s F v ∧ ∀ X, sm 12 X → subS X mu → ¬ goS g w s F X → X = v ∨ ahd v X)
theorem stS_uniq {g : aH} {w s : Nat} {F : Nat → Nat → Prop} {v v' : Int32} (h : stS g w s F v) (h' : stS g w s F v') : v = v' := by
  obtain ⟨a1, mu, a2, a3, a4, a5⟩ := h
  obtain ⟨b1, mu', b2, b3, b4, b5⟩ := h'
  have e : mu = mu' := sm_ext a2 b2 (fun p hp => by rw [Bool.eq_iff_iff, a3 p hp, b3 p hp])
  subst e
  by_cases c : goS g w s F mu
  · rw [a4 c, b4 c]
  · obtain ⟨c1, c2, c3⟩ := a5 c
    obtain ⟨d1, d2, d3⟩ := b5 c
    rcases c3 v' b1 d1 d2 with e | e
    · exact e.symm
    · rcases d3 v a1 c1 c2 with e2 | e2
      · exact e2
      · exact absurd e2 (fun z => ahd_asym e z)
theorem mem_cl {g : aH} {s c : Nat} : c ∈ clO g s ↔ ∃ q, q < (clO g s).length ∧ (clO g s).getD q 0 = c := by
  rw [List.mem_iff_getElem]
  constructor
  · rintro ⟨q, hq, e⟩
    exact ⟨q, hq, by rw [List.getD_eq_getElem?_getD, List.getElem?_eq_getElem hq]; exact e⟩
  · rintro ⟨q, hq, e⟩
    rw [List.getD_eq_getElem?_getD, List.getElem?_eq_getElem hq] at e
    exact ⟨q, hq, e⟩
