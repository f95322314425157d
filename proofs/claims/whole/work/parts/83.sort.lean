/-! ===== sums, the greatest first ===== -/
/-- how many are at least x -/
def cg (x : Int) (a : Nat → Int) : Nat → Nat
  | 0 => 0
  | n + 1 => cg x a n + (if x ≤ a n then 1 else 0)
theorem cg_mono {x : Int} {a b : Nat → Int} : ∀ n, (∀ k, k < n → a k ≤ b k) → cg x a n ≤ cg x b n
  | 0, _ => Nat.le_refl 0
  | n + 1, h => by
    have i := cg_mono (x := x) n (fun k hk => h k (by omega))
    have j := h n (Nat.lt_succ_self n)
    unfold cg
    by_cases c : x ≤ a n
    · rw [if_pos c, if_pos (by omega)]; omega
    · rw [if_neg c]; omega
theorem cg_c {x : Int} {a b : Nat → Int} {n : Nat} (h : ∀ k, k < n → a k = b k) : cg x a n = cg x b n := Nat.le_antisymm (cg_mono n (fun k hk => by rw [h k hk]; exact Int.le_refl _)) (cg_mono n (fun k hk => by rw [h k hk]; exact Int.le_refl _))
theorem cg_ge {x : Int} {a : Nat → Int} {j : Nat} (h : ∀ k, k < j → x ≤ a k) : ∀ n, j ≤ n → j ≤ cg x a n
  | 0, hn => by omega
  | n + 1, hn => by
    unfold cg
    by_cases c : j ≤ n
    · have := cg_ge h n c; omega
    · have e : j = n + 1 := by omega
      have : n ≤ cg x a n := cg_ge (j := n) (fun k hk => h k (by omega)) n (Nat.le_refl n)
      rw [if_pos (h n (by omega))]
      omega
theorem cg_lt {x : Int} {a : Nat → Int} {j : Nat} : ∀ n, (∀ k, j ≤ k → k < n → a k < x) → cg x a n ≤ j
  | 0, _ => Nat.zero_le j
  | n + 1, h => by
    unfold cg
    by_cases c : j ≤ n
    · have := h n c (Nat.lt_succ_self n)
      rw [if_neg (by omega)]
      exact cg_lt n (fun k h1 h2 => h k h1 (by omega))
    · have : ∀ m, cg x a m ≤ m := fun m => by
        induction m with
        | zero => exact Nat.le_refl 0
        | succ m ih => unfold cg; split <;> omega
      have := this n
      split <;> omega
/-- t holds the first n of f, and its first k are the greatest ones, in order -/
def PSD (n k : Nat) (f t : Nat → Int) : Prop := (∀ i j, i < j → i < k → j < n → t j ≤ t i) ∧ ∀ x, cg x f n = cg x t n
abbrev SD (n : Nat) (f t : Nat → Int) : Prop := PSD n n f t
theorem PSD.le {n k k' : Nat} {f f' t t' : Nat → Int} (p : PSD n k f t) (p' : PSD n k' f' t') (h : ∀ q, q < n → f q ≤ f' q) {j : Nat} (hj : j < n) (h1 : j < k) (h2 : j < k') : t j ≤ t' j := by
  refine Int.not_lt.mp fun c => ?_
  have a1 : j + 1 ≤ cg (t j) t n := cg_ge (fun i hi => by
    by_cases e : i = j
    · rw [e]; exact Int.le_refl _
    · exact p.1 i j (by omega) (by omega) hj) n (by omega)
  have a2 : cg (t j) t' n ≤ j := cg_lt n (fun i h3 h4 => by
    by_cases e : i = j
    · rw [e]; exact c
    · have := p'.1 j i (by omega) h2 h4; omega)
  have a3 := cg_mono (x := t j) n h
  have a4 := p.2 (t j)
  have a5 := p'.2 (t j)
  omega
theorem PSD.eq {n k k' : Nat} {f t t' : Nat → Int} (p : PSD n k f t) (p' : PSD n k' f t') {j : Nat} (hj : j < n) (h1 : j < k) (h2 : j < k') : t j = t' j := Int.le_antisymm (p.le p' (fun _ _ => Int.le_refl _) hj h1 h2) (p'.le p (fun _ _ => Int.le_refl _) hj h2 h1)
/-- one more put in its place -/
def insA (at_ : Nat) (v : Int) (a : Nat → Int) : Nat → Int := fun k => if k < at_ then a k else if k = at_ then v else a (k - 1)
theorem cg_ins {x v : Int} {a : Nat → Int} {at_ : Nat} : ∀ n, at_ ≤ n → cg x (insA at_ v a) (n + 1) = cg x a n + (if x ≤ v then 1 else 0)
  | n, h => by
    by_cases e : at_ = n
    · subst e
      rw [cg, cg_c (a := insA at_ v a) (b := a) (fun k hk => by unfold insA; exact if_pos hk)]
      have : insA at_ v a at_ = v := by unfold insA; rw [if_neg (Nat.lt_irrefl _), if_pos rfl]
      rw [this]
    · cases n with
      | zero => omega
      | succ n =>
        rw [cg, cg_ins n (by omega), cg]
        have : insA at_ v a (n + 1) = a n := by unfold insA; rw [if_neg (by omega), if_neg (by omega)]; rfl
        rw [this]
        omega
theorem SD.ins {n at_ : Nat} {f a : Nat → Int} {v : Int} (p : SD n f a) (h : at_ ≤ n) (h1 : ∀ k, k < at_ → v ≤ a k) (h2 : ∀ k, at_ ≤ k → k < n → a k ≤ v) (e : f n = v) : SD (n + 1) f (insA at_ v a) := by
  refine ⟨fun i j hij _ hj => ?_, fun x => ?_⟩
  · unfold insA
    by_cases c1 : i < at_
    · rw [if_pos c1]
      by_cases c2 : j < at_
      · rw [if_pos c2]; exact p.1 i j hij (by omega) (by omega)
      · rw [if_neg c2]
        by_cases c3 : j = at_
        · rw [if_pos c3]; exact h1 i c1
        · rw [if_neg c3]; exact p.1 i (j - 1) (by omega) (by omega) (by omega)
    · rw [if_neg c1, if_neg (show ¬ j < at_ by omega), if_neg (show ¬ j = at_ by omega)]
      by_cases c3 : i = at_
      · rw [if_pos c3]; exact h2 (j - 1) (by omega) (by omega)
      · rw [if_neg c3]; exact p.1 (i - 1) (j - 1) (by omega) (by omega) (by omega)
  · rw [cg_ins n h, cg, e, p.2 x]
theorem SD.ex (f : Nat → Int) : ∀ n, ∃ a, SD n f a
  | 0 => ⟨f, fun _ _ _ _ h => absurd h (Nat.not_lt_zero _), fun _ => rfl⟩
  | n + 1 => by
    obtain ⟨a, p⟩ := SD.ex f n
    have sp : ∀ m, m ≤ n → ∃ at_, at_ ≤ m ∧ (∀ k, k < at_ → f n ≤ a k) ∧ ∀ k, at_ ≤ k → k < m → a k ≤ f n := by
      intro m
      induction m with
      | zero => intro _; exact ⟨0, Nat.le_refl 0, fun k hk => absurd hk (Nat.not_lt_zero k), fun k _ hk => absurd hk (Nat.not_lt_zero k)⟩
      | succ m ih =>
        intro hm
        obtain ⟨at_, q1, q2, q3⟩ := ih (by omega)
        by_cases c : at_ = m
        · by_cases c2 : f n ≤ a m
          · refine ⟨m + 1, Nat.le_refl _, fun k hk => ?_, fun k h1 h2 => absurd h2 (by omega)⟩
            by_cases e : k = m
            · rw [e]; exact c2
            · exact q2 k (by omega)
          · refine ⟨m, by omega, fun k hk => q2 k (by omega), fun k h1 h2 => ?_⟩
            rw [show k = m by omega]; omega
        · refine ⟨at_, by omega, q2, fun k h1 h2 => ?_⟩
          by_cases e : k = m
          · have := p.1 at_ m (by omega) (by omega) (by omega)
            have := q3 at_ (Nat.le_refl _) (by omega)
            rw [e]; omega
          · exact q3 k h1 (by omega)
    obtain ⟨at_, q1, q2, q3⟩ := sp n (Nat.le_refl n)
    exact ⟨_, p.ins q1 q2 q3 rfl⟩
def ltL (n : Nat) (a b : Nat → Int) : Prop := ∃ k, k < n ∧ a k < b k ∧ ∀ j, j < k → a j = b j
/-- the sums f are better than f' -/
def bet (n : Nat) (f f' : Nat → Int) : Prop := ∃ a a', SD n f a ∧ SD n f' a' ∧ ltL n a a'
theorem bet_iff {n : Nat} {f f' a a' : Nat → Int} (p : SD n f a) (p' : SD n f' a') : bet n f f' ↔ ltL n a a' := by
  refine ⟨fun ⟨b, b', q, q', k, hk, h1, h2⟩ => ⟨k, hk, ?_, fun j hj => ?_⟩, fun h => ⟨a, a', p, p', h⟩⟩
  · rw [p.eq q hk hk hk, p'.eq q' hk hk hk]; exact h1
  · have hn : j < n := by omega
    rw [p.eq q hn hn hn, p'.eq q' hn hn hn]; exact h2 j hj
/-- found at place k: the first k places are alike -/
theorem bet_at {n k : Nat} {f f' t a' : Nat → Int} (p : PSD n (k + 1) f t) (p' : SD n f' a') (hk : k < n) (h : ∀ j, j < k → t j = a' j) (ne : ¬ t k = a' k) : bet n f f' ↔ t k < a' k := by
  obtain ⟨a, q⟩ := SD.ex f n
  have e : ∀ j, j ≤ k → a j = t j := fun j hj => q.eq p (by omega) (by omega) (by omega)
  rw [bet_iff q p']
  constructor
  · rintro ⟨m, hm, h1, h2⟩
    rcases Nat.lt_trichotomy m k with g | g | g
    · rw [e m (by omega), h m g] at h1; omega
    · rw [g, e k (Nat.le_refl k)] at h1; exact h1
    · exact absurd ((e k (Nat.le_refl k)).symm.trans (h2 k g)) ne
  · intro h1
    exact ⟨k, hk, by rw [e k (Nat.le_refl k)]; exact h1, fun j hj => by rw [e j (by omega)]; exact h j hj⟩
theorem bet_no {n : Nat} {f f' t a' : Nat → Int} (p : SD n f t) (p' : SD n f' a') (h : ∀ j, j < n → t j = a' j) : ¬ bet n f f' := by
  rw [bet_iff p p']
  rintro ⟨k, hk, h1, -⟩
  rw [h k hk] at h1
  omega
/-- what is worse everywhere is no better -/
theorem bet_mono {n : Nat} {r f b : Nat → Int} (h : ∀ q, q < n → r q ≤ f q) (c : bet n f b) : bet n r b := by
  obtain ⟨a, a', q, q', k, hk, h1, h2⟩ := c
  obtain ⟨ra, rq⟩ := SD.ex r n
  have le : ∀ j, j < n → ra j ≤ a j := fun j hj => rq.le q h hj hj hj
  have key : ∀ m, m ≤ k → (∀ j, j < m → ra j = a' j) ∨ ltL n ra a' := by
    intro m
    induction m with
    | zero => intro _; exact Or.inl (fun j hj => absurd hj (Nat.not_lt_zero j))
    | succ m ih =>
      intro hm
      rcases ih (by omega) with i | i
      · have a1 := le m (by omega)
        have a2 := h2 m (by omega)
        by_cases e : ra m = a' m
        · refine Or.inl (fun j hj => ?_)
          by_cases y : j = m
          · rw [y]; exact e
          · exact i j (by omega)
        · exact Or.inr ⟨m, by omega, by omega, i⟩
      · exact Or.inr i
  refine ⟨ra, a', rq, q', ?_⟩
  rcases key k (Nat.le_refl k) with i | i
  · exact ⟨k, hk, by have := le k hk; omega, i⟩
  · exact i
theorem bet_c {n : Nat} {f f' b b' : Nat → Int} (h : ∀ q, q < n → f q = f' q) (h2 : ∀ q, q < n → b q = b' q) : bet n f b ↔ bet n f' b' := by
  have key : ∀ {f f' b b' : Nat → Int}, (∀ q, q < n → f q = f' q) → (∀ q, q < n → b q = b' q) → bet n f b → bet n f' b' := fun {f f' b b'} h h2 ⟨a, a', p, p', q⟩ => ⟨a, a', ⟨p.1, fun x => by rw [← p.2 x]; exact (cg_c h).symm⟩, ⟨p'.1, fun x => by rw [← p'.2 x]; exact (cg_c h2).symm⟩, q⟩
  exact ⟨key h h2, key (fun q hq => (h q hq).symm) (fun q hq => (h2 q hq).symm)⟩
/-! swapping two -/
theorem cg_up {x v : Int} {a : Nat → Int} {i : Nat} : ∀ n, i < n → cg x (fun k => if k = i then v else a k) n + (if x ≤ a i then 1 else 0) = cg x a n + (if x ≤ v then 1 else 0)
  | 0, h => absurd h (Nat.not_lt_zero i)
  | n + 1, h => by
    rw [cg, cg]
    by_cases e : i = n
    · subst e
      rw [if_pos rfl, cg_c (b := a) (fun k hk => if_neg (by omega))]
      omega
    · rw [if_neg (show ¬ n = i from fun z => e z.symm)]
      have := cg_up (x := x) (v := v) (a := a) n (show i < n by omega)
      omega
def swp (a : Nat → Int) (i j : Nat) : Nat → Int := fun k => if k = j then a i else if k = i then a j else a k
theorem cg_swp {x : Int} {a : Nat → Int} {i j n : Nat} (hi : i < n) (hj : j < n) : cg x (swp a i j) n = cg x a n := by
  have h1 := cg_up (x := x) (v := a j) (a := a) n hi
  have h2 := cg_up (x := x) (v := a i) (a := fun k => if k = i then a j else a k) n hj
  have e2 : (if j = i then a j else a j) = a j := by split <;> rfl
  rw [e2] at h2
  show cg x (fun k => if k = j then a i else if k = i then a j else a k) n = _
  omega
theorem PSD.swp {n k m : Nat} {f t : Nat → Int} (p : PSD n k f t) (hm : k ≤ m) (hn : m < n) (hg : ∀ q, k ≤ q → q < n → t q ≤ t m) : PSD n (k + 1) f (swp t m k) := by
  refine ⟨fun i j hij hi hj => ?_, fun x => by rw [cg_swp hn (by omega)]; exact p.2 x⟩
  unfold _root_.Jvm.Pilot.CClockCallLaw_law_r1696_f1be75.swp
  by_cases c : i = k
  · rw [if_neg (show ¬ j = k by omega), if_pos c]
    by_cases c2 : j = m
    · rw [if_pos c2]; exact hg k (Nat.le_refl k) (by omega)
    · rw [if_neg c2]; exact hg j (by omega) hj
  · rw [if_neg c, if_neg (show ¬ i = m by omega)]
    by_cases c1 : j = k
    · rw [if_pos c1]; exact p.1 i m (by omega) (by omega) hn
    · rw [if_neg c1]
      by_cases c2 : j = m
      · rw [if_pos c2]; exact p.1 i k (by omega) (by omega) (by omega)
      · rw [if_neg c2]; exact p.1 i j hij (by omega) hj
