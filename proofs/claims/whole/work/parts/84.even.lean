/-! ===== Evener, sorts, isLess, isBest ===== -/
abbrev vI (f : Nat → Int32) : Nat → Int := fun k => (f k).toInt
theorem PSD.c {n k : Nat} {f f' t t' : Nat → Int} (p : PSD n k f t) (h : ∀ q, q < n → f q = f' q) (h2 : ∀ q, q < n → t q = t' q) : PSD n k f' t' := ⟨fun i j hij hi hj => by rw [← h2 i (by omega), ← h2 j hj]; exact p.1 i j hij hi hj, fun x => by rw [← cg_c h, ← cg_c h2]; exact p.2 x⟩
theorem isEv.rng {o : Nat} (q : isEv o) : o = 28 ∨ o = 40 := q
abbrev isA (a : Nat) : Nat → Prop := fun q => q = a
theorem k_bring {l : Launch} {E : eE} {d bc bs : Nat} {h : aH} {K : aH → Prop} {o a np to : Nat} {f : Nat → Int} (S : SH h) (ho : isEv o) (hn : np ≤ 12) (en : hI h o 2 = nI np) (hto : to < np) (p : PSD np to f (vI (hA h a))) (k : ∀ h1, Ch (isA a) noO h h1 → PSD np (to + 1) f (vI (hA h1 a)) → (∀ j, j < to → hA h1 a j = hA h a j) → K h1) : CV l E d bc bs mX2_bringGreatest [.inr (some (0, 2, o)), .inr (some (1, 12, a)), .inl (nI to)] h K := by
  have lp : ∀ (b i m : Nat), i + b = np → to ≤ m → m < i → (∀ q, to ≤ q → q < i → (hA h a q).toInt ≤ (hA h a m).toInt) → LX2_bringGreatest_7 l E d bc bs o a (nI to) (nI m) (nI i) h K := by
    intro b
    induction b with
    | zero =>
      intro i m hi h1 h2 hm
      have hi : i = np := by omega
      subst hi
      refine bX2_bringGreatest_7 S ho ⟨fun _ => ⟨vp_in_nI (by omega) (by omega), vp_in_nI (by omega) (by omega), ?_⟩, fun c => absurd (by rw [en]; exact nI_le (Nat.le_refl i) (by omega)) c⟩
      rw [nI_clamp (n := m) (by omega), nI_clamp (n := to) (by omega)]
      have e : ∀ j, hA (stA (stA h a m (hA h a to)) a to (hA h a m)) a j = if j = to then hA h a m else if j = m then hA h a to else hA h a j := fun j => by simp [hA_st]
      refine k _ ((ch_A (A := isA a) (O := noO) h m _ rfl).tr (ch_A _ to _ rfl)) ((p.swp (m := m) h1 h2 (fun q => hm q)).c (fun _ _ => rfl) (fun q _ => ?_)) (fun j hj => ?_)
      · show (if q = to then (hA h a m).toInt else if q = m then (hA h a to).toInt else (hA h a q).toInt) = (hA (stA (stA h a m (hA h a to)) a to (hA h a m)) a q).toInt
        rw [e q]
        by_cases c1 : q = to
        · rw [if_pos c1, if_pos c1]
        · rw [if_neg c1, if_neg c1]
          by_cases c2 : q = m
          · rw [if_pos c2, if_pos c2]
          · rw [if_neg c2, if_neg c2]
      · rw [e j, if_neg (by omega), if_neg (by omega)]
    | succ b ih =>
      intro i m hi h1 h2 hm
      refine bX2_bringGreatest_7 S ho ⟨fun c => absurd c (by rw [en]; exact nI_ge (by omega) (by omega)), fun _ => ⟨vp_in_nI (by omega) (by omega), vp_in_nI (by omega) (by omega), ?_⟩⟩
      rw [nI_clamp (n := m) (by omega), nI_clamp (n := i) (by omega), nI_add, Int32.le_iff_toInt_le]
      refine ⟨fun c => ih (i + 1) m (by omega) h1 (by omega) (fun q q1 q2 => ?_), fun c => ih (i + 1) i (by omega) (by omega) (by omega) (fun q q1 q2 => ?_)⟩
      · by_cases e : q = i
        · rw [e]; exact c
        · exact hm q q1 (by omega)
      · by_cases e : q = i
        · rw [e]; exact Int.le_refl _
        · have := hm q q1 (by omega); omega
  refine bX2_bringGreatest_0 S ho ?_
  rw [nI_add]
  exact lp (np - (to + 1)) (to + 1) to (by omega) (Nat.le_refl to) (by omega) (fun q q1 q2 => by rw [show q = to by omega]; exact Int.le_refl _)
/-- the evener holds the best sums B -/
def EvR (h : aH) (o np : Nat) (B : Option (Nat → Int)) : Prop := np ≤ 12 ∧ hI h o 2 = nI np ∧ (B = none → hI h o 3 = nI 0) ∧ (∀ b, B = some b → hI h o 3 = nI 1 ∧ SD np b (vI (hA h (o + 1))))
def betO (np : Nat) (f : Nat → Int) (B : Option (Nat → Int)) : Prop := ∀ b, B = some b → bet np f b
theorem PSD.z {n : Nat} {f : Nat → Int} : PSD n 0 f f := ⟨fun _ _ _ h _ => absurd h (Nat.not_lt_zero _), fun _ => rfl⟩
theorem cpy_at {f g : Nat → Int32} {n j : Nat} (hj : j < n) : va_cpy f g (nI 0).toNatClampNeg (nI 0).toNatClampNeg n j = f j := by
  show (if 0 ≤ j ∧ j < 0 + n then f (0 + (j - 0)) else g j) = f j
  rw [if_pos ⟨Nat.zero_le j, by omega⟩]
  simp
theorem cpy_no {f g : Nat → Int32} {n j : Nat} (hj : n ≤ j) : va_cpy f g (nI 0).toNatClampNeg (nI 0).toNatClampNeg n j = g j := by
  show (if 0 ≤ j ∧ j < 0 + n then f (0 + (j - 0)) else g j) = g j
  rw [if_neg (by omega)]
theorem k_isBetter {l : Launch} {E : eE} {d bc bs : Nat} {h : aH} {K : Int32 → aH → Prop} {o a1 np : Nat} {B : Option (Nat → Int)} (S : SH h) (ho : isEv o) (hd : 1 ≤ d) (ev : EvR h o np B) (ha : a1 ≠ o + 2) (k : ∀ h1, Ch (isA (o + 2)) noO h h1 → (betO np (vI (hA h a1)) B → K (nI 1) h1) ∧ (¬ betO np (vI (hA h a1)) B → K (nI 0) h1)) : CI l E d bc bs mX2_isBetter [.inr (some (0, 2, o)), .inr (some (1, 12, a1))] h K := by
  obtain ⟨d, rfl⟩ : ∃ d', d = d' + 1 := ⟨d - 1, by omega⟩
  obtain ⟨hn, en, e0, e1⟩ := ev
  refine bX2_isBetter_0 S ho ⟨fun c => ?_, fun c => ?_⟩
  · cases B with
    | none => exact absurd (e0 rfl) c
    | some b =>
      obtain ⟨-, sb⟩ := e1 b rfl
      rw [en, nI_clamp (n := np) (by omega)]
      refine ⟨by decide, by decide, nI_pos (by omega), by rw [nI_clamp (by omega)]; omega, by rw [nI_clamp (by omega)]; omega, ?_⟩
      generalize hh : stAA h (o + 2) (va_cpy (hA h a1) (hA h (o + 2)) (nI 0).toNatClampNeg (nI 0).toNatClampNeg np) = h0
      have c0 : Ch (isA (o + 2)) noO h h0 := by rw [← hh]; exact ch_AA h _ rfl
      have p0 : PSD np 0 (vI (hA h a1)) (vI (hA h0 (o + 2))) := PSD.z.c (fun _ _ => rfl) (fun q hq => by
        show (hA h a1 q).toInt = (hA h0 (o + 2) q).toInt
        rw [← hh, hA_AA, cpy_at hq])
      have lp : ∀ (b' i : Nat) (h1 : aH), i + b' = np → Ch (isA (o + 2)) noO h h1 → PSD np i (vI (hA h a1)) (vI (hA h1 (o + 2))) → (∀ j, j < i → hA h1 (o + 2) j = hA h (o + 1) j) → LX2_isBetter_25 l E (d + 1) bc bs o a1 (nI i) h1 K := by
        intro b'
        induction b' with
        | zero =>
          intro i h1 hi c1 p1 q1
          have hi : i = np := by omega
          subst hi
          refine bX2_isBetter_25 (c1.sh S) ho ⟨fun _ => (k h1 c1).2 (fun z => bet_no p1 sb (fun j hj => by show (hA h1 (o + 2) j).toInt = _; rw [q1 j hj]) (z b rfl)), fun z => absurd ?_ z⟩
          rw [c1.2.2.2.2.1 o (fun z => z), en]; exact nI_le (Nat.le_refl i) (by omega)
        | succ b' ih =>
          intro i h1 hi c1 p1 q1
          have en1 : hI h1 o 2 = nI np := by rw [c1.2.2.2.2.1 o (fun z => z), en]
          refine bX2_isBetter_25 (c1.sh S) ho ⟨fun z => absurd z (by rw [en1]; exact nI_ge (by omega) (by omega)), fun _ => k_bring (c1.sh S) ho hn en1 (by omega) p1 (fun h2 c2 p2 q2 => ⟨c2.sh (c1.sh S), vp_in_nI (by omega) (by omega), ?_⟩)⟩
          have c12 : Ch (isA (o + 2)) noO h h2 := c1.tr c2
          have eb : hA h2 (o + 1) = hA h (o + 1) := c12.2.2.2.2.2 _ (by show ¬ o + 1 = o + 2; omega)
          have qq : ∀ j, j < i → hA h2 (o + 2) j = hA h (o + 1) j := fun j hj => by rw [q2 j hj]; exact q1 j hj
          rw [eb, nI_clamp (n := i) (by omega), nI_add]
          refine ⟨fun z => ih (i + 1) h2 (by omega) c12 p2 (fun j hj => (show j < i ∨ j = i by omega).elim (qq j) (fun y => by rw [y]; exact z)), fun z => ?_⟩
          have ba := bet_at (k := i) p2 sb (by omega) (fun j hj => by show (hA h2 (o + 2) j).toInt = _; rw [qq j hj]) (fun y => z (Int32.toInt_inj.mp y))
          rw [Int32.le_iff_toInt_le]
          refine ⟨fun y => (k h2 c12).2 (fun x => ?_), fun y => (k h2 c12).1 (fun b0 hb0 => ?_)⟩
          · have : (hA h2 (o + 2) i).toInt < (hA h (o + 1) i).toInt := ba.mp (x b rfl)
            omega
          · have : b0 = b := (Option.some.inj hb0).symm
            rw [this]
            exact ba.mpr (show (hA h2 (o + 2) i).toInt < (hA h (o + 1) i).toInt by omega)
      exact lp np 0 h0 (by omega) c0 p0 (fun j hj => absurd hj (Nat.not_lt_zero j))
  · refine (k h (Ch.rf h)).1 (fun b hb => ?_)
    rw [(e1 b hb).1] at c
    exact absurd c (by decide)
theorem k_keep {l : Launch} {E : eE} {d bc bs : Nat} {h : aH} {K : aH → Prop} {o a1 np : Nat} {B : Option (Nat → Int)} (S : SH h) (ho : isEv o) (hd : 1 ≤ d) (ev : EvR h o np B) (k : ∀ h1, Ch (isA (o + 1)) (isQ o) h h1 → EvR h1 o np (some (vI (hA h a1))) → K h1) : CV l E d bc bs mX2_keep [.inr (some (0, 2, o)), .inr (some (1, 12, a1))] h K := by
  obtain ⟨d, rfl⟩ : ∃ d', d = d' + 1 := ⟨d - 1, by omega⟩
  obtain ⟨hn, en, e0, e1⟩ := ev
  have en' : hI (stI h o 3 (nI 1)) o 2 = nI np := by simp [hI_st]; exact en
  refine bX2_keep_0 S ho ?_
  rw [en', nI_clamp (n := np) (by omega), hA_sI]
  refine ⟨by decide, by decide, nI_pos (by omega), by rw [nI_clamp (by omega)]; omega, by rw [nI_clamp (by omega)]; omega, ?_⟩
  generalize hh : stAA (stI h o 3 (nI 1)) (o + 1) (va_cpy (hA h a1) (hA h (o + 1)) (nI 0).toNatClampNeg (nI 0).toNatClampNeg np) = h0
  have c0 : Ch (isA (o + 1)) (isQ o) h h0 := by rw [← hh]; exact (ch_I (A := isA (o + 1)) (O := isQ o) h 3 _ rfl).tr (ch_AA _ _ rfl)
  have p0 : PSD np 0 (vI (hA h a1)) (vI (hA h0 (o + 1))) := PSD.z.c (fun _ _ => rfl) (fun q hq => by
    show (hA h a1 q).toInt = (hA h0 (o + 1) q).toInt
    rw [← hh, hA_AA, cpy_at hq])
  have n0 : hI h0 o 2 = nI np ∧ hI h0 o 3 = nI 1 := by
    rw [← hh]
    exact ⟨en', by show hI (stI h o 3 (nI 1)) o 3 = nI 1; simp [hI_st]⟩
  have lp : ∀ (b' i : Nat) (h1 : aH), i + b' = np → Ch (isA (o + 1)) (isQ o) h h1 → hI h1 o 2 = nI np ∧ hI h1 o 3 = nI 1 → PSD np i (vI (hA h a1)) (vI (hA h1 (o + 1))) → LX2_keep_21 l E (d + 1) bc bs o a1 (nI i) h1 K := by
    intro b'
    induction b' with
    | zero =>
      intro i h1 hi c1 n1 p1
      have hi : i = np := by omega
      subst hi
      refine bX2_keep_21 (c1.sh S) ho ⟨fun _ => k h1 c1 ⟨hn, n1.1, fun z => (by cases z), fun b hb => ⟨n1.2, by rw [← Option.some.inj hb]; exact p1⟩⟩, fun z => absurd ?_ z⟩
      rw [n1.1]; exact nI_le (Nat.le_refl i) (by omega)
    | succ b' ih =>
      intro i h1 hi c1 n1 p1
      refine bX2_keep_21 (c1.sh S) ho ⟨fun z => absurd z (by rw [n1.1]; exact nI_ge (by omega) (by omega)), fun _ => k_bring (c1.sh S) ho hn n1.1 (by omega) p1 (fun h2 c2 p2 q2 => ⟨c2.sh (c1.sh S), ?_⟩)⟩
      rw [nI_add]
      exact ih (i + 1) h2 (by omega) (c1.tr (c2.mono (fun _ z => z) (fun _ z => z.elim))) (by rw [c2.2.2.2.2.1 o (fun z => z)]; exact n1) p2
  exact lp np 0 h0 (by omega) c0 n0 p0
/-! the reference -/
theorem nI_p1 (m : Nat) : nI (m + 1) - nI 1 = nI m := by
  rw [← nI_add m 1]
  exact add_sub1 (nI m)
theorem nI_pm (m : Nat) : nI (m + 1) + (-1) = nI m := by
  rw [← nI_add m 1, Int32.add_assoc, show nI 1 + (-1 : Int32) = 0 from by decide, Int32.add_zero]
theorem w_sorts12 {l : Launch} {E : eE} {d bc bs : Nat} {h : aH} {K : aH → Prop} {np : Nat} (S : SH h) (hn : np ≤ 12) : ∀ (p : Nat) (a : Nat → Int32), p < np → SD p (vI (hA h 88)) (vI a) → (∀ f, SD (p + 1) (vI (hA h 88)) (vI f) → LX12_sorts_2 l E d bc bs (nI (p + 1)) (stAA h 89 f) K) → ∀ (at_ : Nat) (t : Nat → Int32), at_ ≤ p → (∀ j, j < at_ → t j = a j) → (∀ j, at_ < j → j ≤ p → t j = a (j - 1)) → (∀ j, at_ ≤ j → j < p → (a j).toInt ≤ (hA h 88 p).toInt) → LX12_sorts_12 l E d bc bs (nI p) (nI at_) (stAA h 89 t) K := by
  have S' : ∀ f, SH (stAA h 89 f) := fun f => (mo_AA h f (by decide)).sh S
  intro p a hp sd kk at_
  induction at_ with
  | zero =>
    intro t h0 t1 t2 t3
    refine bX12_sorts_12 (S' t) ⟨fun _ => ⟨vp_in_nI (by omega) (by omega), vp_in_nI (by omega) (by omega), ?_⟩, fun c => absurd (by decide) c⟩
    rw [hA_AAn _ _ (by decide), nI_clamp (n := p) (by omega), nI_clamp (n := 0) (by omega), stA_stAA, nI_add]
    refine kk _ ((sd.ins (at_ := 0) (Nat.zero_le p) (fun k hk => absurd hk (Nat.not_lt_zero k)) (fun k h1 h2 => t3 k h1 h2) rfl).c (fun _ _ => rfl) (fun q hq => ?_))
    show (if q < 0 then (a q).toInt else if q = 0 then (hA h 88 p).toInt else (a (q - 1)).toInt) = (if q = 0 then hA h 88 p else t q).toInt
    rw [if_neg (Nat.not_lt_zero q)]
    by_cases c : q = 0
    · rw [if_pos c, if_pos c]
    · rw [if_neg c, if_neg c, t2 q (by omega) (by omega)]
  | succ m ih =>
    intro t h0 t1 t2 t3
    have fin : (∀ k, k < m + 1 → (hA h 88 p).toInt ≤ (a k).toInt) → LX12_sorts_2 l E d bc bs (nI p + nI 1) (stA (stAA h 89 t) 89 (nI (m + 1)).toNatClampNeg (hA (stAA h 89 t) 88 (nI p).toNatClampNeg)) K := fun q1 => by
      rw [hA_AAn _ _ (by decide), nI_clamp (n := p) (by omega), nI_clamp (n := m + 1) (by omega), stA_stAA, nI_add]
      refine kk _ ((sd.ins (at_ := m + 1) h0 q1 (fun k h1 h2 => t3 k h1 h2) rfl).c (fun _ _ => rfl) (fun q hq => ?_))
      show (if q < m + 1 then (a q).toInt else if q = m + 1 then (hA h 88 p).toInt else (a (q - 1)).toInt) = (if q = m + 1 then hA h 88 p else t q).toInt
      by_cases c0 : q < m + 1
      · rw [if_pos c0, if_neg (by omega), t1 q c0]
      · rw [if_neg c0]
        by_cases c : q = m + 1
        · rw [if_pos c, if_pos c]
        · rw [if_neg c, if_neg c, t2 q (by omega) (by omega)]
    have e1 : nI (m + 1) - nI 1 = nI m := nI_p1 m
    refine bX12_sorts_12 (S' t) ⟨fun c => absurd c (nI_nle (by omega) (by omega)), fun _ => ?_⟩
    rw [e1]
    refine ⟨vp_in_nI (by omega) (by omega), vp_in_nI (by omega) (by omega), fun c => ⟨vp_in_nI (by omega) (by omega), fin (fun k hk => ?_)⟩, fun c => ⟨vp_in_nI (by omega) (by omega), ?_⟩⟩
    · rw [hA_AAn _ _ (by decide), hA_AA, nI_clamp (n := p) (by omega), nI_clamp (n := m) (by omega), t1 m (by omega), Int32.le_iff_toInt_le] at c
      by_cases e : k = m
      · rw [e]; exact c
      · have := sd.1 k m (by omega) (by omega) (by omega)
        have : (a m).toInt ≤ (a k).toInt := this
        omega
    · rw [hA_AAn _ _ (by decide), hA_AA, nI_clamp (n := p) (by omega), nI_clamp (n := m) (by omega), t1 m (by omega), Int32.le_iff_toInt_le] at c
      rw [hA_AA, nI_clamp (n := m) (by omega), nI_clamp (n := m + 1) (by omega), stA_stAA, nI_pm m]
      refine ih _ (by omega) (fun j hj => ?_) (fun j h1 h2 => ?_) (fun j h1 h2 => ?_)
      · rw [if_neg (by omega)]; exact t1 j (by omega)
      · by_cases e : j = m + 1
        · rw [if_pos e, t1 m (by omega), e]; rfl
        · rw [if_neg e]; exact t2 j (by omega) h2
      · by_cases e : j = m
        · rw [e]; omega
        · exact t3 j (by omega) h2
theorem c_sorts {l : Launch} {E : eE} {d bc bs : Nat} {h : aH} {K : aH → Prop} {np : Nat} (S : SH h) (hn : np ≤ 12) (en : hI h 63 3 = nI np) (k : ∀ f, SD np (vI (hA h 88)) (vI f) → K (stAA h 89 f)) : CV l E d bc bs mX12_sorts [.inr (some (0, 12, 63))] h K := by
  have S' : ∀ f, SH (stAA h 89 f) := fun f => (mo_AA h f (by decide)).sh S
  have out : ∀ (b p : Nat) (f : Nat → Int32), p + b = np → SD p (vI (hA h 88)) (vI f) → LX12_sorts_2 l E d bc bs (nI p) (stAA h 89 f) K := by
    intro b
    induction b with
    | zero =>
      intro p f hp sd
      have hp : p = np := by omega
      subst hp
      refine bX12_sorts_2 (S' f) ⟨fun _ => k f sd, fun c => absurd ?_ c⟩
      show hI h 63 3 ≤ _
      rw [en]; exact nI_le (Nat.le_refl p) (by omega)
    | succ b ih =>
      intro p f hp sd
      refine bX12_sorts_2 (S' f) ⟨fun c => absurd c ?_, fun _ => w_sorts12 S hn p f (by omega) sd (fun f2 sd2 => ih (p + 1) f2 (by omega) sd2) p f (Nat.le_refl p) (fun _ _ => rfl) (fun j h1 h2 => absurd h2 (by omega)) (fun j h1 h2 => absurd h2 (by omega))⟩
      show ¬ hI h 63 3 ≤ _
      rw [en]; exact nI_ge (by omega) (by omega)
  have w := out np 0 (hA h 89) (by omega) ⟨fun _ _ _ z _ => absurd z (Nat.not_lt_zero _), fun x => by rw [cg, cg]⟩
  rw [stAA_id] at w
  exact bX12_sorts_0 S w
theorem c_isLess {l : Launch} {E : eE} {d bc bs : Nat} {h : aH} {K : Int32 → aH → Prop} {np : Nat} {f b : Nat → Int} (S : SH h) (hn : np ≤ 12) (en : hI h 63 3 = nI np) (sf : SD np f (vI (hA h 89))) (sb : SD np b (vI (hA h 90))) (k1 : bet np f b → K (nI 1) h) (k0 : ¬ bet np f b → K (nI 0) h) : CI l E d bc bs mX12_isLess [.inr (some (0, 12, 63))] h K := by
  have lp : ∀ (c p : Nat), p + c = np → (∀ j, j < p → hA h 89 j = hA h 90 j) → LX12_isLess_2 l E d bc bs (nI p) h K := by
    intro c
    induction c with
    | zero =>
      intro p hp q
      have hp : p = np := by omega
      subst hp
      refine bX12_isLess_2 S ⟨fun _ => k0 (bet_no sf sb (fun j hj => by show (hA h 89 j).toInt = _; rw [q j hj])), fun c => absurd ?_ c⟩
      rw [en]; exact nI_le (Nat.le_refl p) (by omega)
    | succ c ih =>
      intro p hp q
      refine bX12_isLess_2 S ⟨fun c => absurd c (by rw [en]; exact nI_ge (by omega) (by omega)), fun _ => ⟨vp_in_nI (by omega) (by omega), ?_⟩⟩
      rw [nI_clamp (n := p) (by omega), nI_add, Int32.le_iff_toInt_le]
      refine ⟨fun z => ih (p + 1) (by omega) (fun j hj => (show j < p ∨ j = p by omega).elim (q j) (fun y => by rw [y]; exact z)), fun z => ?_⟩
      have ba := bet_at (k := p) (n := np) (f := f) (t := vI (hA h 89)) ⟨fun i j h1 h2 h3 => sf.1 i j h1 (by omega) h3, sf.2⟩ sb (by omega) (fun j hj => by show (hA h 89 j).toInt = _; rw [q j hj]) (fun y => z (Int32.toInt_inj.mp y))
      refine ⟨fun y => k0 (fun x => ?_), fun y => k1 (ba.mpr (show (hA h 89 p).toInt < (hA h 90 p).toInt by omega))⟩
      have : (hA h 89 p).toInt < (hA h 90 p).toInt := ba.mp x
      omega
  exact bX12_isLess_0 S (lp np 0 (by omega) (fun j hj => absurd hj (Nat.not_lt_zero j)))
theorem c_isBest {l : Launch} {E : eE} {d bc bs : Nat} {h : aH} {K : aH → Prop} {np : Nat} (S : SH h) (hn : np ≤ 12) (en : hI h 63 3 = nI np) (k : ∀ f, (∀ j, j < np → f j = hA h 89 j) → K (stAA h 90 f)) : CV l E d bc bs mX12_isBest [.inr (some (0, 12, 63))] h K := by
  have S' : ∀ f, SH (stAA h 90 f) := fun f => (mo_AA h f (by decide)).sh S
  have lp : ∀ (c p : Nat) (f : Nat → Int32), p + c = np → (∀ j, j < p → f j = hA h 89 j) → LX12_isBest_2 l E d bc bs (nI p) (stAA h 90 f) K := by
    intro c
    induction c with
    | zero =>
      intro p f hp q
      have hp : p = np := by omega
      subst hp
      refine bX12_isBest_2 (S' f) ⟨fun _ => k f q, fun c => absurd ?_ c⟩
      show hI h 63 3 ≤ _
      rw [en]; exact nI_le (Nat.le_refl p) (by omega)
    | succ c ih =>
      intro p f hp q
      refine bX12_isBest_2 (S' f) ⟨fun c => absurd c ?_, fun _ => ⟨vp_in_nI (by omega) (by omega), ?_⟩⟩
      · show ¬ hI h 63 3 ≤ _
        rw [en]; exact nI_ge (by omega) (by omega)
      · rw [nI_clamp (n := p) (by omega), nI_add, stA_stAA, hA_AAn _ _ (by decide)]
        refine ih (p + 1) _ (by omega) (fun j hj => ?_)
        by_cases e : j = p
        · rw [if_pos e, e]
        · rw [if_neg e]; exact q j (by omega)
  have w := lp np 0 (hA h 90) (by omega) (fun j hj => absurd hj (Nat.not_lt_zero j))
  rw [stAA_id] at w
  exact bX12_isBest_0 S w
