/-! ===== move: the words of both sides ===== -/
section
variable (g : aH) (w n : Nat)
/-- the picks of the way v: v r is the number of series r's choice -/
def mvI (v : Nat → Nat) : Nat → Int32 := fun r => if pI g w r = -1 then -1 else fO (hA g 76 r) (nI (v r))
def mvJ (v : Nat → Nat) : Nat → Int32 := fun r => if pI g w r = -1 then -1 else sO (hA g 76 r) (nI (v r))
abbrev mvF (v : Nat → Nat) (r : Nat) : Nat → Nat → Prop := frP g w n (mvI g w v) (mvJ g w v) r
/-- the choice of series r fits beside those of the lesser ones -/
def mvD (v : Nat → Nat) (r : Nat) : Prop := v r ∈ clO g r ∧ ftO g w (mvI g w v) (mvJ g w v) r (mvF g w n v r) (mvI g w v r) (mvJ g w v r)
noncomputable def mvP (v : Nat → Nat) (r p : Nat) : Int32 := pcO g w n r p (mvI g w v r) (mvJ g w v r) (tbO g w n (mvI g w v) (mvJ g w v) (r + 1) r p 0) (tbO g w n (mvI g w v) (mvJ g w v) (r + 1) r p 1)
noncomputable def mvS (v : Nat → Nat) (p : Nat) : Nat → Int
  | 0 => 0
  | r + 1 => mvS v p r + (mvP g w n v r p).toInt
/-- how many of the first series are changed; how many are planned -/
def mvC (v : Nat → Nat) : Nat → Nat
  | 0 => 0
  | r + 1 => mvC v r + (if pI g w r = -1 ∨ (mvI g w v r = pI g w r ∧ mvJ g w v r = pJ g w r) then 0 else 1)
def mvQ : Nat → Nat
  | 0 => 0
  | r + 1 => mvQ r + (if pI g w r = -1 then 0 else 1)
end
section
variable {g : aH} {w n : Nat}
theorem mv_c {v v' : Nat → Nat} {r : Nat} (e : v r = v' r) : mvI g w v r = mvI g w v' r ∧ mvJ g w v r = mvJ g w v' r := by
  unfold mvI mvJ
  rw [e]
  exact ⟨rfl, rfl⟩
theorem mvF_c {v v' : Nat → Nat} {r : Nat} (e : ∀ x, x < r → v x = v' x) : mvF g w n v r = mvF g w n v' r := frP_c r (fun x hx => mv_c (e x hx))
theorem mvD_c {v v' : Nat → Nat} {r : Nat} (S : RI g) (hr : (r : Int) < (hI g 63 14).toInt) (e : ∀ x, x < r + 1 → v x = v' x) : mvD g w n v r ↔ mvD g w n v' r := by
  unfold mvD
  have er := e r (by omega)
  obtain ⟨e1, e2⟩ := mv_c (g := g) (w := w) er
  have hse := (S.2.2.2.2.2.1 r hr).2.1
  have hb : ∀ i, bhO g w (mvI g w v) (mvJ g w v) r i ↔ bhO g w (mvI g w v') (mvJ g w v') r i := fun i => by
    unfold bhO
    rcases hse with c | c
    · exact ⟨fun _ => Or.inl c, fun _ => Or.inl c⟩
    · have := i32_clamp c.1
      obtain ⟨f1, f2⟩ := mv_c (g := g) (w := w) (e (hA g 75 r).toNatClampNeg (by omega))
      rw [f1, f2]
  rw [mvF_c (fun x hx => e x (by omega)), e1, e2, er]
  unfold ftO
  rw [hb, hb]
theorem mvP_c {v v' : Nat → Nat} {r p : Nat} (e : ∀ x, x < r + 1 → v x = v' x) : mvP g w n v r p = mvP g w n v' r p := by
  unfold mvP
  obtain ⟨e1, e2⟩ := mv_c (g := g) (w := w) (e r (by omega))
  rw [e1, e2, tbO_c (r + 1) (fun x hx => mv_c (e x hx))]
theorem mvS_c {v v' : Nat → Nat} {p : Nat} : ∀ r, (∀ x, x < r → v x = v' x) → mvS g w n v p r = mvS g w n v' p r
  | 0, _ => by unfold mvS; rfl
  | r + 1, e => by
    unfold mvS
    rw [mvS_c r (fun x hx => e x (by omega)), mvP_c e]
theorem mvC_c {v v' : Nat → Nat} : ∀ r, (∀ x, x < r → v x = v' x) → mvC g w v r = mvC g w v' r
  | 0, _ => by unfold mvC; rfl
  | r + 1, e => by
    unfold mvC
    obtain ⟨e1, e2⟩ := mv_c (g := g) (w := w) (e r (by omega))
    rw [mvC_c r (fun x hx => e x (by omega)), e1, e2]
theorem mvP_rng (S : RI g) {v : Nat → Nat} {r p : Nat} (hr : (r : Int) < (hI g 63 14).toInt) (hp : (p : Int) < (hI g 63 3).toInt) : 0 ≤ (mvP g w n v r p).toInt ∧ (mvP g w n v r p).toInt ≤ 1200 := pcO_rng S hr hp
theorem mvS_rng (S : RI g) {v : Nat → Nat} {p : Nat} (hp : (p : Int) < (hI g 63 3).toInt) : ∀ r : Nat, (r : Int) ≤ (hI g 63 14).toInt → 0 ≤ mvS g w n v p r ∧ mvS g w n v p r ≤ 1200 * r
  | 0, _ => by unfold mvS; omega
  | r + 1, h => by
    have i := mvS_rng S (v := v) hp r (by omega)
    have j := mvP_rng S (w := w) (n := n) (v := v) (r := r) (by omega) hp
    unfold mvS
    omega
theorem mvS_mono (S : RI g) {v : Nat → Nat} {p : Nat} (hp : (p : Int) < (hI g 63 3).toInt) {r : Nat} : ∀ j : Nat, ((r + j : Nat) : Int) ≤ (hI g 63 14).toInt → mvS g w n v p r ≤ mvS g w n v p (r + j)
  | 0, _ => Int.le_refl _
  | j + 1, h => by
    have i := mvS_mono S (v := v) hp (r := r) j (by omega)
    have q := mvP_rng S (w := w) (n := n) (v := v) (r := r + j) (by omega) hp
    rw [show r + (j + 1) = (r + j) + 1 by omega, mvS]
    omega
theorem mvC_le {v : Nat → Nat} : ∀ r, mvC g w v r ≤ mvQ g w r
  | 0 => by unfold mvC mvQ; omega
  | r + 1 => by
    have := mvC_le (v := v) r
    unfold mvC mvQ
    by_cases c : pI g w r = -1
    · rw [if_pos (Or.inl c), if_pos c]; omega
    · rw [if_neg c]; split <;> omega
theorem mvC_st {v : Nat → Nat} {r : Nat} : ∀ j, mvC g w v r ≤ mvC g w v (r + j) ∧ mvC g w v (r + j) + mvQ g w r ≤ mvC g w v r + mvQ g w (r + j)
  | 0 => ⟨Nat.le_refl _, Nat.le_refl _⟩
  | j + 1 => by
    have := mvC_st (v := v) (r := r) j
    rw [show r + (j + 1) = (r + j) + 1 by omega, mvC, mvQ]
    by_cases c : pI g w (r + j) = -1
    · rw [if_pos (Or.inl c), if_pos c]; omega
    · rw [if_neg c]; split <;> omega
end
/-- all ways of the series from r on, in order -/
noncomputable def dfB {α : Type} (g : aH) (w n : Nat) (leaf : (Nat → Nat) → α → α) : Nat → Nat → (Nat → Nat) → α → α
  | 0, _, v, B => leaf v B
  | j + 1, r, v, B => if pI g w r = -1 then dfB g w n leaf j (r + 1) v B else (clO g r).foldl (fun B c => if (Classical.propDecidable (mvD g w n (upN v r c) r)).decide then dfB g w n leaf j (r + 1) (upN v r c) B else B) B
section
variable (g : aH) (w n ns np : Nat)
noncomputable abbrev mvU : (Nat → Nat) → Nat → Int := fun v p => mvS g w n v p ns
/-- fewer changes, then better sums -/
def mvL (v u : Nat → Nat) : Prop := mvC g w v ns < mvC g w u ns ∨ (mvC g w v ns = mvC g w u ns ∧ bet np (mvU g w n ns v) (mvU g w n ns u))
noncomputable def lfM (v : Nat → Nat) : Option (Nat → Nat) → Option (Nat → Nat)
  | none => some v
  | some u => if (Classical.propDecidable (mvL g w n ns np v u)).decide then some v else some u
noncomputable def lfT (T : Nat) (v : Nat → Nat) (B : Option (Nat → Nat)) : Option (Nat → Nat) := if mvC g w v ns = T then updB np (mvU g w n ns) v B else B
noncomputable abbrev dfM : Nat → Nat → (Nat → Nat) → Option (Nat → Nat) → Option (Nat → Nat) := dfB g w n (lfM g w n ns np)
noncomputable abbrev dfT (T : Nat) : Nat → Nat → (Nat → Nat) → Option (Nat → Nat) → Option (Nat → Nat) := dfB g w n (lfT g w n ns np T)
/-- the best of all, beside the best of each number of changes -/
def invM (M : Option (Nat → Nat)) (C : Nat → Option (Nat → Nat)) : Prop := (M = none → ∀ T, C T = none) ∧ ∀ u, M = some u → C (mvC g w u ns) = some u ∧ ∀ T, T < mvC g w u ns → C T = none
end
section
variable {g : aH} {w n ns np : Nat}
theorem lf_inv {v : Nat → Nat} {M : Option (Nat → Nat)} {C : Nat → Option (Nat → Nat)} (h : invM g w ns M C) : invM g w ns (lfM g w n ns np v M) (fun T => lfT g w n ns np T v (C T)) := by
  cases M with
  | none =>
    have c := h.1 rfl
    refine ⟨fun e => (by cases e), fun u hu => ?_⟩
    have : u = v := (Option.some.inj hu).symm
    subst this
    refine ⟨?_, fun T hT => ?_⟩
    · show lfT g w n ns np _ u (C _) = some u
      unfold lfT
      rw [if_pos rfl, c]
      rfl
    · show lfT g w n ns np T u (C T) = none
      unfold lfT
      rw [if_neg (by omega), c]
  | some u =>
    obtain ⟨c1, c2⟩ := h.2 u rfl
    have eM : lfM g w n ns np v (some u) = if (Classical.propDecidable (mvL g w n ns np v u)).decide then some v else some u := rfl
    by_cases c : mvL g w n ns np v u
    · rw [eM, if_pos (dec_t c)]
      refine ⟨fun e => (by cases e), fun u' hu' => ?_⟩
      have : u' = v := (Option.some.inj hu').symm
      subst this
      refine ⟨?_, fun T hT => ?_⟩
      · show lfT g w n ns np _ u' (C _) = some u'
        unfold lfT
        rw [if_pos rfl]
        rcases c with c | c
        · rw [c2 _ c]; rfl
        · rw [c.1, c1]
          show (if _ then _ else _) = _
          rw [if_pos (dec_t c.2)]
      · show lfT g w n ns np T u' (C T) = none
        unfold lfT
        rw [if_neg (by omega)]
        refine c2 T ?_
        rcases c with c | c <;> omega
    · rw [eM, if_neg (dec_f c)]
      refine ⟨fun e => (by cases e), fun u' hu' => ?_⟩
      have : u' = u := (Option.some.inj hu').symm
      subst this
      have ge : mvC g w u' ns ≤ mvC g w v ns := Nat.le_of_not_lt (fun t => c (Or.inl t))
      refine ⟨?_, fun T hT => ?_⟩
      · show lfT g w n ns np _ v (C _) = some u'
        unfold lfT
        by_cases e : mvC g w v ns = mvC g w u' ns
        · rw [if_pos e, c1]
          show (if _ then _ else _) = _
          rw [if_neg (dec_f (fun t => c (Or.inr ⟨e, t⟩)))]
        · rw [if_neg e, c1]
      · show lfT g w n ns np T v (C T) = none
        unfold lfT
        rw [if_neg (by omega)]
        exact c2 T hT
theorem fl_inv2 {β : Type} {α : Type} {f : α → Nat → α} {f2 : β → Nat → β} {P : α → β → Prop} : ∀ (L : List Nat) (b : α) (b2 : β), P b b2 → (∀ b b2 c, P b b2 → P (f b c) (f2 b2 c)) → P (L.foldl f b) (L.foldl f2 b2)
  | [], _, _, h, _ => h
  | c :: L, b, b2, h, k => by rw [List.foldl_cons, List.foldl_cons]; exact fl_inv2 L (f b c) (f2 b2 c) (k b b2 c h) k
theorem fl_fun {α : Type} {f : Nat → α → Nat → α} : ∀ (L : List Nat) (b : Nat → α), (L.foldl (fun (b : Nat → α) c => fun T => f T (b T) c) b) = fun T => L.foldl (f T) (b T)
  | [], _ => rfl
  | c :: L, b => by rw [List.foldl_cons, fl_fun L]; rfl
theorem df_inv : ∀ (j r : Nat) (v : Nat → Nat) (M : Option (Nat → Nat)) (C : Nat → Option (Nat → Nat)), invM g w ns M C → invM g w ns (dfM g w n ns np j r v M) (fun T => dfT g w n ns np T j r v (C T))
  | 0, _, v, M, C, h => lf_inv h
  | j + 1, r, v, M, C, h => by
    show invM g w ns (if pI g w r = -1 then _ else _) (fun T => if pI g w r = -1 then _ else _)
    by_cases c : pI g w r = -1
    · rw [if_pos c]
      have : (fun T => if pI g w r = -1 then dfB g w n (lfT g w n ns np T) j (r + 1) v (C T) else (clO g r).foldl (fun B c => if (Classical.propDecidable (mvD g w n (upN v r c) r)).decide then dfB g w n (lfT g w n ns np T) j (r + 1) (upN v r c) B else B) (C T)) = fun T => dfB g w n (lfT g w n ns np T) j (r + 1) v (C T) := by
        funext T
        rw [if_pos c]
      rw [this]
      exact df_inv j (r + 1) v M C h
    · rw [if_neg c]
      have : (fun T => if pI g w r = -1 then dfB g w n (lfT g w n ns np T) j (r + 1) v (C T) else (clO g r).foldl (fun B c => if (Classical.propDecidable (mvD g w n (upN v r c) r)).decide then dfB g w n (lfT g w n ns np T) j (r + 1) (upN v r c) B else B) (C T)) = fun T => (clO g r).foldl (fun B c => if (Classical.propDecidable (mvD g w n (upN v r c) r)).decide then dfB g w n (lfT g w n ns np T) j (r + 1) (upN v r c) B else B) (C T) := by
        funext T
        rw [if_neg c]
      rw [this, ← fl_fun (f := fun T B c => if (Classical.propDecidable (mvD g w n (upN v r c) r)).decide then dfB g w n (lfT g w n ns np T) j (r + 1) (upN v r c) B else B)]
      refine fl_inv2 (P := fun M C => invM g w ns M C) (clO g r) M C h (fun M C c h => ?_)
      by_cases d : mvD g w n (upN v r c) r
      · rw [if_pos (dec_t d)]
        have : (fun T => if (Classical.propDecidable (mvD g w n (upN v r c) r)).decide then dfB g w n (lfT g w n ns np T) j (r + 1) (upN v r c) (C T) else C T) = fun T => dfB g w n (lfT g w n ns np T) j (r + 1) (upN v r c) (C T) := by
          funext T
          rw [if_pos (dec_t d)]
        rw [this]
        exact df_inv j (r + 1) (upN v r c) M C h
      · rw [if_neg (dec_f d)]
        have : (fun T => if (Classical.propDecidable (mvD g w n (upN v r c) r)).decide then dfB g w n (lfT g w n ns np T) j (r + 1) (upN v r c) (C T) else C T) = C := by
          funext T
          rw [if_neg (dec_f d)]
        rw [this]
        exact h
/-- ways that can not be wanted leave the best as it is -/
theorem dfT_cut {T : Nat} : ∀ (j r : Nat) (v : Nat → Nat) (B : Option (Nat → Nat)), r + j = ns → (∀ v', (∀ x, x < r → v' x = v x) → lfT g w n ns np T v' B = B) → dfT g w n ns np T j r v B = B
  | 0, r, v, B, _, h => h v (fun _ _ => rfl)
  | j + 1, r, v, B, hr, h => by
    show (if pI g w r = -1 then _ else _) = B
    split
    · exact dfT_cut j (r + 1) v B (by omega) (fun v' hv => h v' (fun x hx => hv x (by omega)))
    · refine fl_id (clO g r) (fun c _ => ?_)
      split
      · exact dfT_cut j (r + 1) (upN v r c) B (by omega) (fun v' hv => h v' (fun x hx => by rw [hv x (by omega)]; unfold upN; rw [if_neg (by omega)]))
      · rfl
/-- what is found fits everywhere -/
def goodM (g : aH) (w n ns : Nat) (B : Option (Nat → Nat)) : Prop := ∀ u, B = some u → ∀ r, r < ns → ¬ pI g w r = -1 → mvD g w n u r
theorem dfM_good (S : RI g) (hns : (ns : Int) = (hI g 63 14).toInt) : ∀ (j r : Nat) (v : Nat → Nat) (B : Option (Nat → Nat)), r + j = ns → (∀ x, x < r → ¬ pI g w x = -1 → mvD g w n v x) → goodM g w n ns B → goodM g w n ns (dfM g w n ns np j r v B)
  | 0, r, v, B, hr, hv, h => by
    intro u hu
    have hu : lfM g w n ns np v B = some u := hu
    cases B with
    | none =>
      have : v = u := Option.some.inj hu
      subst this
      exact fun x hx => hv x (by omega)
    | some u' =>
      have hu : (if (Classical.propDecidable (mvL g w n ns np v u')).decide then some v else some u') = some u := hu
      split at hu
      · have : v = u := Option.some.inj hu
        subst this
        exact fun x hx => hv x (by omega)
      · exact h u hu
  | j + 1, r, v, B, hr, hv, h => by
    show goodM g w n ns (if pI g w r = -1 then _ else _)
    by_cases c : pI g w r = -1
    · rw [if_pos c]
      refine dfM_good S hns j (r + 1) v B (by omega) (fun x hx hn => ?_) h
      by_cases e : x = r
      · rw [e] at hn; exact absurd c hn
      · exact hv x (by omega) hn
    · rw [if_neg c]
      refine fl_inv (P := goodM g w n ns) (clO g r) B h (fun b c hb => ?_)
      by_cases d : mvD g w n (upN v r c) r
      · rw [if_pos (dec_t d)]
        refine dfM_good S hns j (r + 1) (upN v r c) b (by omega) (fun x hx hn => ?_) hb
        by_cases e : x = r
        · rw [e]; exact d
        · exact (mvD_c S (by omega) (fun y hy => by unfold upN; rw [if_neg (by omega)])).mp (hv x (by omega) hn)
      · rw [if_neg (dec_f d)]; exact hb
end
