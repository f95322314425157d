/-! ===== the reference's plan: all ways in order ===== -/
theorem hA_stn (h : aH) (a k : Nat) (v : Int32) {b : Nat} (hb : b ≠ a) : hA (stA h a k v) b = hA h b := up2_ne hb
section
variable {np m : Nat} {D : Nat → Nat → Prop} {SU : (Nat → Nat) → Nat → Int} {L : List Nat}
theorem updB_some (v : Nat → Nat) (B : Option (Nat → Nat)) : ∃ u, updB np SU v B = some u ∧ (u = v ∨ B = some u) := by
  cases B with
  | none => exact ⟨v, rfl, Or.inl rfl⟩
  | some u =>
    show ∃ u', (if (Classical.propDecidable (bet np (SU v) (SU u))).decide then some v else some u) = some u' ∧ _
    split
    · exact ⟨v, rfl, Or.inl rfl⟩
    · exact ⟨u, rfl, Or.inr rfl⟩
def goodB (m : Nat) (D : Nat → Nat → Prop) (B : Option (Nat → Nat)) : Prop := ∀ u, B = some u → ∀ x, x < m → D x (u x)
theorem lfB_good {v : Nat → Nat} {B : Option (Nat → Nat)} (h : goodB m D B) : goodB m D (lfB np m D SU v B) := by
  unfold lfB
  by_cases c : ∀ k, k < m → D k (v k)
  · rw [if_pos (dec_t c)]
    intro u hu
    obtain ⟨u', e, q⟩ := updB_some (np := np) (SU := SU) v B
    rw [e] at hu
    have : u' = u := Option.some.inj hu
    subst this
    rcases q with rfl | q
    · exact c
    · exact h u' q
  · rw [if_neg (dec_f c)]; exact h
theorem fl_inv {α : Type} {f : α → Nat → α} {P : α → Prop} : ∀ (L : List Nat) (b : α), P b → (∀ b c, P b → P (f b c)) → P (L.foldl f b)
  | [], _, h, _ => h
  | c :: L, b, h, k => by rw [List.foldl_cons]; exact fl_inv L (f b c) (k b c h) k
theorem foB_good : ∀ (j k : Nat) (v : Nat → Nat) (B : Option (Nat → Nat)), goodB m D B → goodB m D (foB np m D SU L j k v B)
  | 0, _, v, B, h => lfB_good h
  | j + 1, k, v, B, h => by
    unfold foB
    exact fl_inv L B h (fun b c hb => foB_good j (k + 1) (upN v k c) b hb)
theorem foB_st : ∀ (j k : Nat) (v : Nat → Nat) (B : Option (Nat → Nat)), B ≠ none → foB np m D SU L j k v B ≠ none
  | 0, _, v, B, h => by
    unfold foB lfB
    split
    · obtain ⟨u', e, q⟩ := updB_some (np := np) (SU := SU) v B
      rw [e]; exact fun z => by cases z
    · exact h
  | j + 1, k, v, B, h => by
    unfold foB
    exact fl_inv (P := fun B => B ≠ none) L B h (fun b c hb => foB_st j (k + 1) (upN v k c) b hb)
theorem foB_some : ∀ (j k : Nat) (v : Nat → Nat) (B : Option (Nat → Nat)), k + j = m → (∀ x, x < k → D x (v x)) → (∀ x, k ≤ x → x < m → ∃ c, c ∈ L ∧ D x c) → foB np m D SU L j k v B ≠ none
  | 0, k, v, B, hk, h, _ => by
    unfold foB lfB
    rw [if_pos (dec_t (fun x hx => h x (by omega)))]
    obtain ⟨u', e, q⟩ := updB_some (np := np) (SU := SU) v B
    rw [e]; exact fun z => by cases z
  | j + 1, k, v, B, hk, h, hL => by
    obtain ⟨c, hc, hD⟩ := hL k (Nat.le_refl k) (by omega)
    obtain ⟨L1, L2, e⟩ := List.append_of_mem hc
    have key : ∀ b, foB np m D SU L j (k + 1) (upN v k c) b ≠ none := fun b => foB_some j (k + 1) (upN v k c) b (by omega) (fun x hx => by
      unfold upN
      by_cases y : x = k
      · rw [if_pos y, y]; exact hD
      · rw [if_neg y]; exact h x (by omega)) (fun x h1 h2 => hL x (by omega) h2)
    unfold foB
    have : ∀ M : List Nat, M = L1 ++ c :: L2 → M.foldl (fun B c => foB np m D SU L j (k + 1) (upN v k c) B) B ≠ none := fun M hM => by
      rw [hM, List.foldl_append, List.foldl_cons]
      exact fl_inv (P := fun B => B ≠ none) L2 _ (key _) (fun b c hb => foB_st j (k + 1) (upN v k c) b hb)
    exact this L e
end
/-- a change of the walk over the ways -/
def OdF (h h' : aH) : Prop := MO h h' ∧ hI h' 63 = hI h 63 ∧ ∀ a, a ≠ 88 → a ≠ 89 → a ≠ 90 → a ≠ 93 → a ≠ 94 → hA h' a = hA h a
theorem OdF.rf (h : aH) : OdF h h := ⟨MO.rf h, rfl, fun _ _ _ _ _ _ => rfl⟩
theorem OdF.aa {h h' : aH} (o : OdF h h') {a : Nat} (f : Nat → Int32) (ha : a = 88 ∨ a = 89 ∨ a = 90 ∨ a = 93 ∨ a = 94) : OdF h (stAA h' a f) := ⟨o.1.tr (mo_AA h' f (by omega)), o.2.1, fun b h1 h2 h3 h4 h5 => (hA_AAn h' f (by omega)).trans (o.2.2 b h1 h2 h3 h4 h5)⟩
theorem OdF.sa {h h' : aH} (o : OdF h h') {a : Nat} (k : Nat) (v : Int32) (ha : a = 88 ∨ a = 89 ∨ a = 90 ∨ a = 93 ∨ a = 94) : OdF h (stA h' a k v) := by
  rw [stA_AA]; exact o.aa _ ha
theorem OdF.p {g h h' : aH} (o : OdF h h') (e : REp g h) : REp g h' := e.tr ⟨⟨by rw [o.2.1], by rw [o.2.1], by rw [o.2.1], by rw [o.2.1], by rw [o.2.1]⟩, fun a h1 h2 => o.2.2 a (by omega) (by omega) (by omega) (by omega) (by omega)⟩
section
variable (g : aH) (s a n m np : Nat)
noncomputable abbrev plU : (Nat → Nat) → Nat → Int := fun v p => plS g s a n v p m
/-- the best way so far: B -/
def BsR (h : aH) (x7 : Int32) (B : Option (Nat → Nat)) : Prop := (B = none → x7 = nI 0) ∧ ∀ u, B = some u → x7 = nI 1 ∧ SD np (plU g s a n m u) (vI (hA h 90)) ∧ ∀ x, x < m → ∃ q, q < (clO g s).length ∧ hA h 94 x = nI q ∧ (clO g s).getD q 0 = u x
/-- the walk stands at the way pi -/
def OdS (h0 h : aH) (pi : Nat → Nat) (x7 : Int32) (B : Option (Nat → Nat)) : Prop := OdF h0 h ∧ (∀ x, x < m → hA h 93 x = nI (pi x)) ∧ BsR g s a n m np h x7 B
noncomputable abbrev plB : Nat → Nat → (Nat → Nat) → Option (Nat → Nat) → Option (Nat → Nat) := foB np m (plD g s a n) (plU g s a n m) (clO g s)
end
theorem plS_c {g : aH} {s a n p : Nat} {v v' : Nat → Nat} : ∀ k, (∀ x, x < k → v x = v' x) → plS g s a n v p k = plS g s a n v' p k
  | 0, _ => by unfold plS; rfl
  | k + 1, h => by
    unfold plS
    rw [plS_c k (fun x hx => h x (by omega)), h k (Nat.lt_succ_self k)]
/-- what is the same for the whole walk -/
def OdC (g h0 : aH) (s a n m np : Nat) : Prop := SH h0 ∧ RI g ∧ REp g h0 ∧ (s : Int) < (hI g 63 14).toInt ∧ (np : Int) = (hI g 63 3).toInt ∧ m ≤ 6 ∧ 1 ≤ (clO g s).length ∧ (clO g s).length ≤ 15 ∧ WkR g h0 s a n m
/-- one way: its sums, whether it is better -/
theorem w_leaf {l : Launch} {E : eE} {d bc bs : Nat} {h : aH} {K : Int32 → aH → Prop} {g h0 : aH} {s a n m np : Nat} {x3 x7 x8 : Int32} {pi v : Nat → Nat} {B : Option (Nat → Nat)} (C : OdC g h0 s a n m np) (hd : 1 ≤ d) (st : OdS g s a n m np h0 h pi x7 B) (hpi : ∀ x, x < m → pi x < (clO g s).length) (hv : ∀ x, x < m → v x = (clO g s).getD (pi x) 0)
    (k : ∀ h' x7' x9', OdS g s a n m np h0 h' pi x7' (lfB np m (plD g s a n) (plU g s a n m) v B) → LX12_plan_538 l E (d + 1) bc bs (nI s) (nI a) x3 (nI n) (nI (clO g s).length) (nI m) x7' x8 x9' (nI m - nI 1) h' K) :
    LX12_plan_352 l E (d + 1) bc bs (nI s) (nI a) x3 (nI n) (nI (clO g s).length) (nI m) x7 x8 (nI 1) (nI 0) h K := by
  obtain ⟨S0, ri, e0, hs, hnp, hm, hL, hL15, wk⟩ := C
  obtain ⟨of, hpk, bs0⟩ := st
  have hN := ri.1
  unfold RIn at hN
  have np12 : np ≤ 12 := by omega
  have S : ∀ {h'}, OdF h0 h' → SH h' := fun o => o.1.sh S0
  have enp : ∀ {h'}, OdF h0 h' → hI h' 63 3 = nI np := fun {h'} o => by
    rw [(o.p e0).1.2.1, i32_nn hN.2.1.1, show (hI g 63 3).toNatClampNeg = np by have := i32_clamp hN.2.1.1; omega]
  have W : ∀ {h'}, OdF h0 h' → WkR g h' s a n m := fun o => wk.ar (o.2.2 91 (by decide) (by decide) (by decide) (by decide) (by decide)) (o.2.2 92 (by decide) (by decide) (by decide) (by decide) (by decide))
  -- behind the sums: sort and compare
  have best : (∀ x, x < m → plD g s a n x (v x)) → ∀ (h1 : aH) (x9 : Int32), OdF h0 h1 → (∀ x, x < m → hA h1 93 x = nI (pi x)) → BsR g s a n m np h1 x7 B → (∀ p, p < np → (hA h1 88 p).toInt = plU g s a n m v p) → LX12_plan_406 l E (d + 1) bc bs (nI s) (nI a) x3 (nI n) (nI (clO g s).length) (nI m) x7 x8 x9 (nI np) h1 K := fun hD h1 x9 o1 p1 b1 s1 => by
    have eB : lfB np m (plD g s a n) (plU g s a n m) v B = updB np (plU g s a n m) v B := by unfold lfB; rw [if_pos (dec_t hD)]
    rw [eB] at k
    refine bX12_plan_406 (S o1) ⟨fun _ => c_sorts (S o1) np12 (enp o1) (fun f sd => ?_), fun c => absurd (by rw [enp o1]; exact nI_le (Nat.le_refl np) (by omega)) c⟩
    have o2 := o1.aa (a := 89) f (by omega)
    have sd2 : SD np (plU g s a n m v) (vI (hA (stAA h1 89 f) 89)) := sd.c (fun q hq => s1 q hq) (fun q _ => by rw [hA_AA])
    -- keep it
    have keep : (lfB np m (plD g s a n) (plU g s a n m) v B = some v) → CV l E d 0 0 mX12_isBest [.inr (some (0, 12, 63))] (stAA h1 89 f) (fun h4 => SH h4 ∧ LX12_plan_505 l E (d + 1) bc bs (nI s) (nI a) x3 (nI n) (nI (clO g s).length) (nI m) (nI 1) x8 x9 (nI 0) h4 K) := fun ek => by
      refine c_isBest (S o2) np12 (enp o2) (fun f2 hf2 => ?_)
      have o3 := o2.aa (a := 90) f2 (by omega)
      refine ⟨S o3, ?_⟩
      have cp : ∀ (b i : Nat) (h5 : aH), i + b = m → OdF h0 h5 → (∀ x, x < m → hA h5 93 x = nI (pi x)) → (∀ j, j < np → hA h5 90 j = f j) → (∀ x, x < i → hA h5 94 x = nI (pi x)) → LX12_plan_505 l E (d + 1) bc bs (nI s) (nI a) x3 (nI n) (nI (clO g s).length) (nI m) (nI 1) x8 x9 (nI i) h5 K := by
        intro b
        induction b with
        | zero =>
          intro i h5 hi o5 p5 q5 t5
          have hi : i = m := by omega
          subst hi
          refine bX12_plan_505 (S o5) ⟨fun _ => k h5 (nI 1) x9 ⟨o5, p5, fun z => ?_, fun u hu => ⟨rfl, ?_, fun x hx => ?_⟩⟩, fun c => absurd (nI_le (Nat.le_refl i) (by omega)) c⟩
          · rw [← eB, ek] at z; cases z
          · rw [← eB, ek] at hu
            rw [← Option.some.inj hu]
            exact sd2.c (fun _ _ => rfl) (fun q hq => by show (hA (stAA h1 89 f) 89 q).toInt = (hA h5 90 q).toInt; rw [hA_AA, q5 q hq])
          · rw [← eB, ek] at hu
            rw [← Option.some.inj hu, hv x hx]
            exact ⟨pi x, hpi x hx, t5 x hx, rfl⟩
        | succ b ih =>
          intro i h5 hi o5 p5 q5 t5
          refine bX12_plan_505 (S o5) ⟨fun c => absurd c (nI_ge (by omega) (by omega)), fun _ => ⟨vp_in_nI (by omega) (by omega), ?_⟩⟩
          rw [nI_clamp (n := i) (by omega), nI_add, p5 i (by omega)]
          refine ih (i + 1) _ (by omega) (o5.sa i _ (by omega)) (fun x hx => ?_) (fun j hj => ?_) (fun x hx => ?_)
          · rw [hA_st, if_neg (by omega)]; exact p5 x hx
          · rw [hA_st, if_neg (by omega)]; exact q5 j hj
          · rw [hA_st]
            by_cases y : x = i
            · rw [if_pos ⟨rfl, y⟩, y]
            · rw [if_neg (fun z => y z.2)]; exact t5 x (by omega)
      refine cp m 0 _ (by omega) o3 (fun x hx => ?_) (fun j hj => ?_) (fun x hx => absurd hx (Nat.not_lt_zero x))
      · rw [hA_AAn _ _ (by decide), hA_AAn _ _ (by decide)]; exact p1 x hx
      · rw [hA_AA, hf2 j hj, hA_AA]
    refine ⟨S o2, fun c => ?_, fun c => ?_⟩
    · cases B with
      | none => exact keep (by rw [eB]; rfl)
      | some u => exact absurd ((b1.2 u rfl).1.symm.trans c) (by decide)
    · cases B with
      | none => exact absurd (b1.1 rfl) c
      | some u =>
        obtain ⟨u1, u2, u3⟩ := b1.2 u rfl
        refine c_isLess (S o2) np12 (enp o2) sd2 (u2.c (fun _ _ => rfl) (fun q _ => by show (hA h1 90 q).toInt = (hA (stAA h1 89 f) 90 q).toInt; rw [hA_AAn _ _ (by decide)])) (fun z => ⟨S o2, fun y => absurd y (by decide), fun _ => keep (by rw [eB]; show (if _ then _ else _) = _; rw [if_pos (dec_t z)])⟩) (fun z => ⟨S o2, fun _ => k _ x7 x9 ⟨o2, fun x hx => by rw [hA_AAn _ _ (by decide)]; exact p1 x hx, ?_⟩, fun y => absurd rfl y⟩)
        have : updB np (plU g s a n m) v (some u) = some u := by show (if _ then _ else _) = _; rw [if_neg (dec_f z)]
        rw [this]
        refine ⟨fun y => (by cases y), fun u' hu' => ?_⟩
        have := Option.some.inj hu'
        subst this
        rw [hA_AAn _ _ (by decide), hA_AAn _ _ (by decide)]
        exact ⟨u1, u2, u3⟩
  -- the sums
  have sums : (∀ x, x < m → plD g s a n x (v x)) → ∀ (b p : Nat) (h1 : aH) (x9 : Int32), p + b = np → OdF h0 h1 → (∀ x, x < m → hA h1 93 x = nI (pi x)) → BsR g s a n m np h1 x7 B → (∀ q, q < p → (hA h1 88 q).toInt = plU g s a n m v q) → LX12_plan_406 l E (d + 1) bc bs (nI s) (nI a) x3 (nI n) (nI (clO g s).length) (nI m) x7 x8 x9 (nI p) h1 K := fun hD => by
    intro b
    induction b with
    | zero =>
      intro p h1 x9 hp o1 p1 b1 s1
      have hp : p = np := by omega
      subst hp
      exact best hD h1 x9 o1 p1 b1 s1
    | succ b ih =>
      intro p h1 x9 hp o1 p1 b1 s1
      refine bX12_plan_406 (S o1) ⟨fun c => absurd c (by rw [enp o1]; exact nI_ge (by omega) (by omega)), fun _ => ⟨vp_in_nI (by omega) (by omega), ?_⟩⟩
      rw [nI_clamp (n := p) (by omega)]
      have bsr : ∀ {hx}, (hA hx 90 = hA h1 90) → (hA hx 94 = hA h1 94) → BsR g s a n m np hx x7 B := fun {hx} q1 q2 => by
        unfold BsR
        rw [q1, q2]; exact b1
      have inn : ∀ (b2 x : Nat) (h2 : aH), x + b2 = m → OdF h0 h2 → (∀ x, x < m → hA h2 93 x = nI (pi x)) → hA h2 90 = hA h1 90 → hA h2 94 = hA h1 94 → (∀ q, q < p → (hA h2 88 q).toInt = plU g s a n m v q) → (hA h2 88 p).toInt = plS g s a n v p x → LX12_plan_426 l E (d + 1) bc bs (nI s) (nI a) x3 (nI n) (nI (clO g s).length) (nI m) x7 x8 x9 (nI p) (nI x) h2 K := by
        intro b2
        induction b2 with
        | zero =>
          intro x h2 hx o2 p2 q1 q2 s2 t2
          have hx : x = m := by omega
          subst hx
          refine bX12_plan_426 (S o2) ⟨fun _ => ?_, fun c => absurd (nI_le (Nat.le_refl x) (by omega)) c⟩
          rw [nI_add]
          refine ih (p + 1) h2 x9 (by omega) o2 p2 (bsr q1 q2) (fun q hq => ?_)
          by_cases y : q = p
          · rw [y]; exact t2
          · exact s2 q (by omega)
        | succ b2 ih2 =>
          intro x h2 hx o2 p2 q1 q2 s2 t2
          have hpx := hpi x (by omega)
          have pr := (W o2 x (pi x) (by omega) hpx).2
          rw [← hv x (by omega)] at pr
          have pr := pr (hD x (by omega)) p (by omega)
          have r1 := plS_rng ri (a := a) (n := n) (v := v) hs (show (p : Int) < (hI g 63 3).toInt by omega) x
          have r2 := plP_rng ri (a := a) (n := n) (k := x) (c := v x) hs (show (p : Int) < (hI g 63 3).toInt by omega)
          refine bX12_plan_426 (S o2) ⟨fun c => absurd c (nI_ge (by omega) (by omega)), fun _ => ?_⟩
          have e12 : nI 12 * (nI 15 * nI x + nI (pi x)) = nI (12 * (15 * x + pi x)) := by rw [nI_mul, nI_add, nI_mul]
          rw [nI_clamp (n := x) (by omega), p2 x (by omega), e12, nI_add (12 * (15 * x + pi x)) p, nI_clamp (n := 12 * (15 * x + pi x) + p) (by omega), nI_clamp (n := p) (by omega), nI_add x 1, pr]
          refine ⟨vp_in_nI (by omega) (by omega), vp_in_nI (by omega) (by omega), vp_in_nI (by omega) (by omega), ih2 (x + 1) _ (by omega) (o2.sa p _ (by omega)) (fun y hy => ?_) ?_ ?_ (fun q hq => ?_) ?_⟩
          · rw [hA_st, if_neg (by omega)]; exact p2 y hy
          · rw [← q1]; exact hA_stn _ _ _ _ (by decide)
          · rw [← q2]; exact hA_stn _ _ _ _ (by decide)
          · rw [hA_st, if_neg (by omega)]; exact s2 q hq
          · rw [hA_st, if_pos ⟨rfl, rfl⟩, i_add (by omega) (by omega), t2]
            rw [plS]
      refine inn m 0 _ (by omega) (o1.sa p _ (by omega)) (fun y hy => ?_) (hA_stn _ _ _ _ (by decide)) (hA_stn _ _ _ _ (by decide)) (fun q hq => ?_) ?_
      · rw [hA_st, if_neg (by omega)]; exact p1 y hy
      · rw [hA_st, if_neg (by omega)]; exact s1 q hq
      · rw [hA_st, if_pos ⟨rfl, rfl⟩, plS]; decide
  -- is it good
  have good : ∀ (b x : Nat) (x9 : Int32), x + b = m → (x9 = 0 → ∃ y, y < m ∧ ¬ plD g s a n y (v y)) → (¬ x9 = 0 → ∀ y, y < x → plD g s a n y (v y)) → LX12_plan_352 l E (d + 1) bc bs (nI s) (nI a) x3 (nI n) (nI (clO g s).length) (nI m) x7 x8 x9 (nI x) h K := by
    intro b
    induction b with
    | zero =>
      intro x x9 hx z0 z1
      have hx : x = m := by omega
      subst hx
      refine bX12_plan_352 (S of) ⟨fun _ => ⟨fun c => ?_, fun c => sums (z1 c) np 0 h x9 (by omega) of hpk bs0 (fun q hq => absurd hq (Nat.not_lt_zero q))⟩, fun c => absurd (nI_le (Nat.le_refl x) (by omega)) c⟩
      have : lfB np x (plD g s a n) (plU g s a n x) v B = B := by
        unfold lfB
        rw [if_neg (dec_f (fun q => by obtain ⟨y, y1, y2⟩ := z0 c; exact y2 (q y y1)))]
      rw [this] at k
      exact k h x7 x9 ⟨of, hpk, bs0⟩
    | succ b ih =>
      intro x x9 hx z0 z1
      have hpx := hpi x (by omega)
      have ma := (W of x (pi x) (by omega) hpx).1
      rw [← hv x (by omega)] at ma
      refine bX12_plan_352 (S of) ⟨fun c => absurd c (nI_ge (by omega) (by omega)), fun _ => ?_⟩
      rw [nI_clamp (n := x) (by omega), hpk x (by omega), ix2 (by omega), ma, fV0, nI_add x 1]
      refine ⟨fun c => ih (x + 1) (nI 0) (by omega) (fun _ => z0 c) (fun z => absurd rfl z), fun c => ⟨vp_in_nI (by omega) (by omega), vp2 (by omega) (by omega), fun c1 => ih (x + 1) (nI 0) (by omega) (fun _ => ⟨x, by omega, c1⟩) (fun z => absurd rfl z), fun c1 => ih (x + 1) (nI 1) (by omega) (fun z => absurd z (by decide)) (fun _ y hy => ?_)⟩⟩
      by_cases e : y = x
      · rw [e]; exact Classical.not_not.mp c1
      · exact z1 c y (by omega)
  exact good m 0 (nI 1) (by omega) (fun z => absurd z (by decide)) (fun _ y hy => absurd hy (Nat.not_lt_zero y))

/-- all ways that begin as v does, in order -/
theorem w_odo {l : Launch} {E : eE} {d bc bs : Nat} {h : aH} {K : Int32 → aH → Prop} {g h0 : aH} {s a n m np : Nat} {x3 : Int32} (C : OdC g h0 s a n m np) (hd : 1 ≤ d) : ∀ (j k : Nat) (h : aH) (x7 : Int32) (pi v : Nat → Nat) (B : Option (Nat → Nat)), k + j = m → OdS g s a n m np h0 h pi x7 B → (∀ x, x < k → pi x < (clO g s).length ∧ v x = (clO g s).getD (pi x) 0) → (∀ x, k ≤ x → pi x = 0) →
    (∀ h' x7' x9', OdS g s a n m np h0 h' pi x7' (plB g s a n m np j k v B) → LX12_plan_538 l E (d + 1) bc bs (nI s) (nI a) x3 (nI n) (nI (clO g s).length) (nI m) x7' (nI 1) x9' (nI k - nI 1) h' K) →
    LX12_plan_341 l E (d + 1) bc bs (nI s) (nI a) x3 (nI n) (nI (clO g s).length) (nI m) x7 (nI 1) h K := by
  have hm6 := C.2.2.2.2.2.1
  have hL := C.2.2.2.2.2.2.1
  have hL15 := C.2.2.2.2.2.2.2.1
  intro j
  induction j with
  | zero =>
    intro k h x7 pi v B hk st h1 h2 kont
    have hk : k = m := by omega
    subst hk
    refine bX12_plan_341 (st.1.1.sh C.1) ⟨fun c => absurd c (by decide), fun _ => w_leaf (v := v) C hd st (fun x hx => (h1 x hx).1) (fun x hx => (h1 x hx).2) (fun h' x7' x9' st' => kont h' x7' x9' st')⟩
  | succ j ih =>
    intro k h x7 pi v B hk st h1 h2 kont
    have e : plB g s a n m np (j + 1) k v B = fN (fun q B => plB g s a n m np j (k + 1) (upN v k ((clO g s).getD q 0)) B) (clO g s).length B := by
      show (clO g s).foldl (fun B c => plB g s a n m np j (k + 1) (upN v k c) B) B = _
      rw [fl_all (f := fun c B => plB g s a n m np j (k + 1) (upN v k c) B)]
    rw [e] at kont
    have lp : ∀ (b q : Nat) (h1' : aH) (x7 : Int32), q + (b + 1) = (clO g s).length → OdS g s a n m np h0 h1' (fun x => if x = k then q else pi x) x7 (fN (fun q B => plB g s a n m np j (k + 1) (upN v k ((clO g s).getD q 0)) B) q B) → LX12_plan_341 l E (d + 1) bc bs (nI s) (nI a) x3 (nI n) (nI (clO g s).length) (nI m) x7 (nI 1) h1' K := by
      intro b
      induction b with
      | zero =>
        intro q h' x7 hq st'
        refine ih (k + 1) h' x7 (fun x => if x = k then q else pi x) (upN v k ((clO g s).getD q 0)) _ (by omega) st' (fun x hx => ?_) (fun x hx => by rw [if_neg (by omega)]; exact h2 x (by omega)) (fun h2' x7' x9' st2 => ?_)
        · show (if x = k then q else pi x) < _ ∧ (if x = k then _ else v x) = (clO g s).getD (if x = k then q else pi x) 0
          by_cases y : x = k
          · rw [if_pos y, if_pos y]; exact ⟨by omega, rfl⟩
          · rw [if_neg y, if_neg y]; exact h1 x (by omega)
        · rw [nI_p1 k]
          obtain ⟨of, pk, bsr⟩ := st2
          have pk : ∀ x, x < m → hA h2' 93 x = nI (if x = k then q else pi x) := pk
          have pkk := pk k (by omega)
          rw [if_pos rfl] at pkk
          refine bX12_plan_538 (of.1.sh C.1) ⟨fun c => absurd c (nI_pos (by omega)), fun _ => ?_⟩
          rw [nI_clamp (n := k) (by omega), pkk]
          refine ⟨vp_in_nI (by omega) (by omega), fun c => absurd ?_ c, fun _ => ?_⟩
          · rw [← hq, nI_p1]
          · have em : nI k + (-1) = nI k - nI 1 := by
              rw [Int32.sub_eq_add_neg]
              rfl
            rw [em]
            have e2 : fN (fun q B => plB g s a n m np j (k + 1) (upN v k ((clO g s).getD q 0)) B) (clO g s).length B = plB g s a n m np j (k + 1) (upN v k ((clO g s).getD q 0)) (fN (fun q B => plB g s a n m np j (k + 1) (upN v k ((clO g s).getD q 0)) B) q B) := by rw [← hq, fN]
            rw [e2] at kont
            refine kont _ x7' x9' ⟨of.sa k _ (by omega), fun x hx => ?_, ?_⟩
            · rw [hA_st]
              by_cases y : x = k
              · rw [if_pos ⟨rfl, y⟩, y, h2 k (Nat.le_refl k)]
              · rw [if_neg (fun z => y z.2)]
                have := pk x hx
                rw [if_neg y] at this
                exact this
            · unfold BsR
              rw [hA_stn _ _ _ _ (by decide), hA_stn _ _ _ _ (by decide)]
              exact bsr
      | succ b ihb =>
        intro q h' x7 hq st'
        refine ih (k + 1) h' x7 (fun x => if x = k then q else pi x) (upN v k ((clO g s).getD q 0)) _ (by omega) st' (fun x hx => ?_) (fun x hx => by rw [if_neg (by omega)]; exact h2 x (by omega)) (fun h2' x7' x9' st2 => ?_)
        · show (if x = k then q else pi x) < _ ∧ (if x = k then _ else v x) = (clO g s).getD (if x = k then q else pi x) 0
          by_cases y : x = k
          · rw [if_pos y, if_pos y]; exact ⟨by omega, rfl⟩
          · rw [if_neg y, if_neg y]; exact h1 x (by omega)
        · rw [nI_p1 k]
          obtain ⟨of, pk, bsr⟩ := st2
          have pk : ∀ x, x < m → hA h2' 93 x = nI (if x = k then q else pi x) := pk
          have pkk := pk k (by omega)
          rw [if_pos rfl] at pkk
          refine bX12_plan_538 (of.1.sh C.1) ⟨fun c => absurd c (nI_pos (by omega)), fun _ => ?_⟩
          rw [nI_clamp (n := k) (by omega), pkk]
          refine ⟨vp_in_nI (by omega) (by omega), fun _ => bX12_plan_571 (of.1.sh C.1) ⟨fun c => absurd c (nI_pos (by omega)), fun _ => ⟨fun c => absurd c (by decide), fun _ => ⟨vp_in_nI (by omega) (by omega), ?_⟩⟩⟩, fun c => ?_⟩
          · rw [nI_clamp (n := k) (by omega), pkk, nI_add]
            refine ihb (q + 1) _ x7' (by omega) ⟨of.sa k _ (by omega), fun x hx => ?_, ?_⟩
            · show _ = nI (if x = k then q + 1 else pi x)
              rw [hA_st]
              by_cases y : x = k
              · rw [if_pos ⟨rfl, y⟩, if_pos y]
              · rw [if_neg (fun z => y z.2), if_neg y]
                have := pk x hx
                rw [if_neg y] at this
                exact this
            · unfold BsR
              rw [hA_stn _ _ _ _ (by decide), hA_stn _ _ _ _ (by decide)]
              exact bsr
          · exfalso
            have : nI (clO g s).length - nI 1 = nI (q + b + 1) := by rw [← hq, show q + (b + 1 + 1) = (q + b + 1) + 1 by omega, nI_p1]
            rw [this] at c
            have := nI_inj (by omega) (by omega) c
            omega
    have e0 : (fun x => if x = k then 0 else pi x) = pi := by
      funext x
      by_cases y : x = k
      · rw [if_pos y, y, h2 k (Nat.le_refl k)]
      · rw [if_neg y]
    exact lp ((clO g s).length - 1) 0 h x7 (by omega) (by rw [e0]; exact st)
