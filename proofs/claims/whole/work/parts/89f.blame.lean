/-! ===== the class: Blame ===== -/
theorem pcb_c {b b' : Nat → Bool} : ∀ n, (∀ i, i < n → b i = b' i) → pcb b n = pcb b' n
  | 0, _ => rfl
  | n + 1, h => by
    unfold pcb
    rw [pcb_c n (fun i hi => h i (by omega)), h n (Nat.lt_succ_self n)]
theorem pcb_add {b b' : Nat → Bool} {p : Nat} (hp : b p = false) (hp' : b' p = true) (ho : ∀ i, i ≠ p → b' i = b i) : ∀ n, p < n → pcb b' n = pcb b n + 1
  | 0, h => absurd h (Nat.not_lt_zero p)
  | n + 1, h => by
    unfold pcb
    by_cases e : p = n
    · subst e
      rw [hp, hp', pcb_c p (fun i hi => ho i (by omega))]
      simp
    · rw [pcb_add hp hp' ho n (by omega), ho n (fun z => e z.symm)]
      omega
theorem pcb_front (b : Nat → Bool) : ∀ n, pcb b (n + 1) = (if b 0 then 1 else 0) + pcb (fun i => b (i + 1)) n
  | 0 => by unfold pcb; unfold pcb; omega
  | n + 1 => by
    rw [pcb, pcb_front b n]
    rw [show pcb (fun i => b (i + 1)) (n + 1) = pcb (fun i => b (i + 1)) n + (if b (n + 1) then 1 else 0) from by rw [pcb]]
    omega
theorem pcb_rev (b : Nat → Bool) : ∀ n, pcb (fun k => b (n - 1 - k)) n = pcb b n
  | 0 => rfl
  | n + 1 => by
    rw [pcb_front]
    show (if b (n - 0) then 1 else 0) + pcb (fun i => b (n + 1 - 1 - (i + 1))) n = _
    rw [pcb_c (b' := fun k => b (n - 1 - k)) n (fun i _ => by show b (n + 1 - 1 - (i + 1)) = b (n - 1 - i); rw [show n + 1 - 1 - (i + 1) = n - 1 - i by omega]), pcb_rev b n, Nat.sub_zero]
    rw [show pcb b (n + 1) = pcb b n + (if b n then 1 else 0) from by rw [pcb]]
    omega
theorem pcb_big {b : Nat → Bool} {z : Nat} (h : ∀ i, z ≤ i → b i = false) : ∀ n, z ≤ n → pcb b n = pcb b z
  | n, hn => by
    by_cases e : n = z
    · rw [e]
    · cases n with
      | zero => omega
      | succ n =>
        unfold pcb
        rw [pcb_big h n (by omega), h n (by omega)]
        cases z <;> simp [pcb]
/-! bitCount -/
def bc1 (x : Int32) : Int32 := x - ((x.toUInt32 >>> ((nI 1).toUInt32 &&& Int32.toUInt32 31)).toInt32 &&& nI 1431655765)
def bc2 (x : Int32) : Int32 := (x &&& nI 858993459) + ((x.toUInt32 >>> ((nI 2).toUInt32 &&& Int32.toUInt32 31)).toInt32 &&& nI 858993459)
def bc3 (x : Int32) : Int32 := (x + (x.toUInt32 >>> ((nI 4).toUInt32 &&& Int32.toUInt32 31)).toInt32) &&& nI 252645135
def bc4 (x : Int32) : Int32 := x + (x.toUInt32 >>> ((nI 8).toUInt32 &&& Int32.toUInt32 31)).toInt32
def bc5 (x : Int32) : Int32 := x + (x.toUInt32 >>> ((nI 16).toUInt32 &&& Int32.toUInt32 31)).toInt32
def bcF (x : Int32) : Int32 := bc5 (bc4 (bc3 (bc2 (bc1 x)))) &&& nI 63
def bcOK (y : Nat) : Bool := bcF (nI y) == nI (pcb (Nat.testBit y) 12)
theorem bc_all : (List.range 4096).all bcOK = true := by decide +kernel
theorem c_bitCount {l : Launch} {E : eE} {d bc bs : Nat} {h : aH} {K : Int32 → aH → Prop} {y : Nat} (S : SH h) (hy : y < 4096) (k : K (nI (pcb (Nat.testBit y) 12)) h) : CI l E d bc bs mJ6_bitCount_0f7a4 [.inl (nI y)] h K := by
  have e : bcF (nI y) = nI (pcb (Nat.testBit y) 12) := by
    have := List.all_eq_true.mp bc_all y (List.mem_range.mpr hy)
    unfold bcOK at this
    simpa using this
  rw [← e] at k
  exact bJ6_bitCount_0f7a4_0 S k
/-- a number with given bits -/
def tnB (b : Nat → Bool) : Nat → Nat
  | 0 => 0
  | n + 1 => tnB b n ||| (if b n then 2 ^ n else 0)
theorem tnB_lt (b : Nat → Bool) : ∀ n, tnB b n < 2 ^ n
  | 0 => by unfold tnB; decide
  | n + 1 => by
    unfold tnB
    have := tnB_lt b n
    refine Nat.or_lt_two_pow (Nat.lt_of_lt_of_le this (Nat.pow_le_pow_right (by decide) (by omega))) ?_
    split
    · exact Nat.pow_lt_pow_right (by decide) (by omega)
    · exact Nat.two_pow_pos _
theorem tnB_bt (b : Nat → Bool) : ∀ n i, i < n → (tnB b n).testBit i = b i
  | 0, i, h => absurd h (Nat.not_lt_zero i)
  | n + 1, i, h => by
    unfold tnB
    rw [Nat.testBit_or]
    by_cases e : i = n
    · subst e
      rw [Nat.testBit_lt_two_pow (tnB_lt b i), Bool.false_or]
      cases b i with
      | true => rw [if_pos rfl, Nat.testBit_two_pow_self]
      | false => rw [if_neg (by decide), Nat.zero_testBit]
    · rw [tnB_bt b n i (by omega)]
      cases eb : b n with
      | true => rw [if_pos rfl, Nat.testBit_two_pow, decide_eq_false (fun z => e z.symm), Bool.or_false]
      | false => rw [if_neg (by decide), Nat.zero_testBit, Bool.or_false]
theorem lt_tb {x y i : Nat} (hx : x.testBit i = false) (hy : y.testBit i = true) (h : ∀ j, i < j → y.testBit j = x.testBit j) : x < y := by
  have q : x / 2 ^ (i + 1) = y / 2 ^ (i + 1) := Nat.eq_of_testBit_eq (fun j => by rw [Nat.testBit_div_two_pow, Nat.testBit_div_two_pow]; exact (h _ (by omega)).symm)
  rw [Nat.testBit_eq_decide_div_mod_eq, decide_eq_false_iff_not] at hx
  rw [Nat.testBit_eq_decide_div_mod_eq, decide_eq_true_iff] at hy
  rw [Nat.pow_succ, ← Nat.div_div_eq_div_mul, ← Nat.div_div_eq_div_mul] at q
  refine Nat.lt_of_not_le (fun c => ?_)
  have := Nat.div_le_div_right (c := 2 ^ i) c
  omega
/-- of two numbers the greater has the highest bit in which they differ -/
theorem hi_bit {x y z : Nat} (hx : x < 2 ^ z) (hy : y < 2 ^ z) (h : x < y) : ∃ i, i < z ∧ y.testBit i = true ∧ x.testBit i = false ∧ ∀ j, i < j → y.testBit j = x.testBit j := by
  have ex : ∃ k, k < z ∧ ¬ y.testBit (z - 1 - k) = x.testBit (z - 1 - k) := Classical.byContradiction fun c => by
    have : x = y := Nat.eq_of_testBit_eq (fun i => by
      by_cases e : i < z
      · refine Classical.byContradiction fun t => c ⟨z - 1 - i, by omega, ?_⟩
        rw [show z - 1 - (z - 1 - i) = i by omega]
        exact fun u => t u.symm
      · rw [Nat.testBit_lt_two_pow (Nat.lt_of_lt_of_le hx (Nat.pow_le_pow_right (by decide) (by omega))), Nat.testBit_lt_two_pow (Nat.lt_of_lt_of_le hy (Nat.pow_le_pow_right (by decide) (by omega)))])
    omega
  obtain ⟨k, k1, k2, k3⟩ := low_ex z ex
  have up : ∀ j, z - 1 - k < j → y.testBit j = x.testBit j := fun j hj => by
    by_cases e : j < z
    · refine Classical.byContradiction fun t => k3 (z - 1 - j) (by omega) ?_
      rw [show z - 1 - (z - 1 - j) = j by omega]
      exact t
    · rw [Nat.testBit_lt_two_pow (Nat.lt_of_lt_of_le hx (Nat.pow_le_pow_right (by decide) (by omega))), Nat.testBit_lt_two_pow (Nat.lt_of_lt_of_le hy (Nat.pow_le_pow_right (by decide) (by omega)))]
  cases e1 : y.testBit (z - 1 - k) with
  | true =>
    cases e2 : x.testBit (z - 1 - k) with
    | true => rw [e1, e2] at k2; exact absurd rfl k2
    | false => exact ⟨z - 1 - k, by omega, e1, e2, up⟩
  | false =>
    cases e2 : x.testBit (z - 1 - k) with
    | true => exact absurd (lt_tb e1 e2 (fun j hj => (up j hj).symm)) (by omega)
    | false => rw [e1, e2] at k2; exact absurd rfl k2
/-! the suspects -/
def SuR (h : aH) (z : Nat) (sp : Nat → Nat) : Prop := z ≤ 12 ∧ hI h 59 3 = nI z ∧ (∀ k, k < z → hA h 61 k = nI (sp k) ∧ sp k < 12) ∧ (∀ i k, i < k → k < z → sp i < sp k)
/-- X is the set of the suspects in t -/
def maS (z : Nat) (sp : Nat → Nat) (t : Nat) (X : Int32) : Prop := sm 12 X ∧ ∀ p, p < 12 → (bt X p = true ↔ ∃ k, k < z ∧ t.testBit (z - 1 - k) = true ∧ sp k = p)
theorem k_personsOf {l : Launch} {E : eE} {d bc bs : Nat} {h : aH} {K : Int32 → aH → Prop} {z t : Nat} {sp : Nat → Nat} (S : SH h) (su : SuR h z sp) (ht : t < 4096) (hd : 1 ≤ d) (k : ∀ X, maS z sp t X → pc X = pcb (fun k => t.testBit (z - 1 - k)) z → K X h) : CI l E d bc bs mX0_personsOf [.inr (some (0, 0, 59)), .inl (nI t)] h K := by
  obtain ⟨d, rfl⟩ : ∃ d', d = d' + 1 := ⟨d - 1, by omega⟩
  obtain ⟨hz, ez, hsp, inc⟩ := su
  have lp : ∀ (b i : Nat) (x : Int32), i + b = z → sm 12 x → (∀ p, p < 12 → (bt x p = true ↔ ∃ k, k < i ∧ t.testBit (z - 1 - k) = true ∧ sp k = p)) → pc x = pcb (fun k => t.testBit (z - 1 - k)) i → LX0_personsOf_4 l E (d + 1) bc bs (nI t) x (nI i) h K := by
    intro b
    induction b with
    | zero =>
      intro i x hi sx hx px
      have hi : i = z := by omega
      subst hi
      exact bX0_personsOf_4 S ⟨fun _ => k x ⟨sx, hx⟩ px, fun c => absurd (by rw [ez]; exact nI_le (Nat.le_refl i) (by omega)) c⟩
    | succ b ih =>
      intro i x hi sx hx px
      have ei : nI z - nI 1 - nI i = nI (z - 1 - i) := by
        obtain ⟨z', rfl⟩ : ∃ z', z = z' + 1 := ⟨z - 1, by omega⟩
        rw [nI_p1]
        have : nI z' = nI (z' + 1 - 1 - i) + nI i := by rw [nI_add, show z' + 1 - 1 - i + i = z' by omega]
        rw [this]
        exact Int32.add_sub_cancel _ _
      refine bX0_personsOf_4 S ⟨fun c => absurd c (by rw [ez]; exact nI_ge (by omega) (by omega)), fun _ => ?_⟩
      rw [ez, ei]
      refine k_isIn S (by omega) ⟨S, ?_⟩
      rw [bt_nI (by omega), nI_clamp (n := i) (by omega), nI_add i 1]
      obtain ⟨p1, p2⟩ := hsp i (by omega)
      cases e : t.testBit (z - 1 - i) with
      | false =>
        refine ⟨fun _ => ih (i + 1) x (by omega) sx (fun p hp => ?_) ?_, fun c => absurd rfl c⟩
        · rw [hx p hp]
          constructor
          · rintro ⟨k, k1, k2⟩; exact ⟨k, by omega, k2⟩
          · rintro ⟨k, k1, k2⟩
            have : k ≠ i := fun y => by rw [y, e] at k2; cases k2.1
            exact ⟨k, by omega, k2⟩
        · rw [px, pcb]
          show _ = _ + (if t.testBit (z - 1 - i) then 1 else 0)
          rw [e]; rfl
      | true =>
        refine ⟨fun c => absurd c (by decide), fun _ => ⟨vp_in_nI (by omega) (by omega), ?_⟩⟩
        rw [p1]
        have bx : ∀ p, p < 12 → (bt (x ||| (nI 1 <<< (nI (sp i) &&& 31))) p = true ↔ (bt x p = true ∨ p = sp i)) := fun p hp => by
          rw [bt_or, Bool.or_eq_true, bt_pow (by omega) (by omega), decide_eq_true_iff]
        refine ih (i + 1) _ (by omega) (sm_or sx (sm_pow p2 (by decide))) (fun p hp => ?_) ?_
        · rw [bx p hp, hx p hp]
          constructor
          · rintro (⟨k, k1, k2⟩ | rfl)
            · exact ⟨k, by omega, k2⟩
            · exact ⟨i, by omega, e, rfl⟩
          · rintro ⟨k, k1, k2, k3⟩
            by_cases y : k = i
            · subst y; exact Or.inr k3.symm
            · exact Or.inl ⟨k, by omega, k2, k3⟩
        · have nb : bt x (sp i) = false := by
            cases eb : bt x (sp i) with
            | false => rfl
            | true =>
              obtain ⟨k, k1, k2, k3⟩ := (hx (sp i) p2).mp eb
              have := inc k i k1 (by omega)
              omega
          rw [pcb]
          show pcb (bt (x ||| _)) 12 = _ + (if t.testBit (z - 1 - i) then 1 else 0)
          rw [e, if_pos rfl, ← px]
          refine pcb_add (p := sp i) nb ((bx (sp i) p2).mpr (Or.inr rfl)) (fun q hq => ?_) 12 p2
          rw [bt_or]
          by_cases g32 : q < 32
          · rw [bt_pow (by omega) g32, decide_eq_false hq, Bool.or_false]
          · rw [bt_ge _ (show 32 ≤ q by omega), bt_ge _ (show 32 ≤ q by omega)]; rfl
  exact bX0_personsOf_0 S (lp z 0 (nI 0) (by omega) (sm_0 12) (fun p hp => ⟨fun c => (by rw [show bt (nI 0) p = false from bt_0 p] at c; cases c), fun ⟨k, hk, _⟩ => absurd hk (Nat.not_lt_zero k)⟩) (by rw [pcb]; show pcb (bt (nI 0)) 12 = 0; decide))
theorem k_hindBy {l : Launch} {E : eE} {d bc bs : Nat} {h : aH} {K : Int32 → aH → Prop} {z t : Nat} {sp : Nat → Nat} (S : SH h) (su : SuR h z sp) (ht : t < 4096) (hd : 1 ≤ d) (k : ∀ v, (∀ c, bt v c = true ↔ ∃ k, k < z ∧ t.testBit (z - 1 - k) = true ∧ bt (hA h 62 k) c = true) → K v h) : CI l E d bc bs mX0_hinderedBy [.inr (some (0, 0, 59)), .inl (nI t)] h K := by
  obtain ⟨d, rfl⟩ : ∃ d', d = d' + 1 := ⟨d - 1, by omega⟩
  obtain ⟨hz, ez, hsp, inc⟩ := su
  have lp : ∀ (b i : Nat) (x : Int32), i + b = z → (∀ c, bt x c = true ↔ ∃ k, k < i ∧ t.testBit (z - 1 - k) = true ∧ bt (hA h 62 k) c = true) → LX0_hinderedBy_4 l E (d + 1) bc bs (nI t) x (nI i) h K := by
    intro b
    induction b with
    | zero =>
      intro i x hi hx
      have hi : i = z := by omega
      subst hi
      exact bX0_hinderedBy_4 S ⟨fun _ => k x hx, fun c => absurd (by rw [ez]; exact nI_le (Nat.le_refl i) (by omega)) c⟩
    | succ b ih =>
      intro i x hi hx
      have ei : nI z - nI 1 - nI i = nI (z - 1 - i) := by
        obtain ⟨z', rfl⟩ : ∃ z', z = z' + 1 := ⟨z - 1, by omega⟩
        rw [nI_p1]
        have : nI z' = nI (z' + 1 - 1 - i) + nI i := by rw [nI_add, show z' + 1 - 1 - i + i = z' by omega]
        rw [this]
        exact Int32.add_sub_cancel _ _
      refine bX0_hinderedBy_4 S ⟨fun c => absurd c (by rw [ez]; exact nI_ge (by omega) (by omega)), fun _ => ?_⟩
      rw [ez, ei]
      refine k_isIn S (by omega) ⟨S, ?_⟩
      rw [bt_nI (by omega), nI_clamp (n := i) (by omega), nI_add i 1]
      cases e : t.testBit (z - 1 - i) with
      | false =>
        refine ⟨fun _ => ih (i + 1) x (by omega) (fun c => ?_), fun c => absurd rfl c⟩
        rw [hx c]
        constructor
        · rintro ⟨k, k1, k2⟩; exact ⟨k, by omega, k2⟩
        · rintro ⟨k, k1, k2⟩
          have : k ≠ i := fun y => by rw [y, e] at k2; cases k2.1
          exact ⟨k, by omega, k2⟩
      | true =>
        refine ⟨fun c => absurd c (by decide), fun _ => ⟨vp_in_nI (by omega) (by omega), ih (i + 1) _ (by omega) (fun c => ?_)⟩⟩
        rw [bt_or, Bool.or_eq_true, hx c]
        constructor
        · rintro (⟨k, k1, k2⟩ | q)
          · exact ⟨k, by omega, k2⟩
          · exact ⟨i, by omega, e, q⟩
        · rintro ⟨k, k1, k2, k3⟩
          by_cases y : k = i
          · subst y; exact Or.inr k3
          · exact Or.inl ⟨k, by omega, k2, k3⟩
  exact bX0_hinderedBy_0 S (lp z 0 (nI 0) (by omega) (fun c => ⟨fun q => (by rw [show bt (nI 0) c = false from bt_0 c] at q; cases q), fun ⟨k, hk, _⟩ => absurd hk (Nat.not_lt_zero k)⟩))
