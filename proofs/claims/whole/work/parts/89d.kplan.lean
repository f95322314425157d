/-! ===== the class: Planner ===== -/
/-- of the first x weeks the class has noted what fits, and what it costs -/
def PlR (g h : aH) (s a n np x : Nat) : Prop := ∀ y, y < x → sm 15 (hA h 34 y) ∧ ∀ c, c < 15 → (bt (hA h 34 y) c = true ↔ plD g s a n y c) ∧ (plD g s a n y c → ∀ p, p < np → hA h 35 ((15 * y + c) * 12 + p) = plP g s a n y c p)
/-- what the weeks from k on cost at least -/
def LfR (g h : aH) (s a n m np k0 : Nat) : Prop := (∀ p, p < np → hA h 36 (12 * m + p) = nI 0) ∧ ∀ k p, k0 ≤ k → k ≤ m → p < np → ((k : Int) - m ≤ (hA h 36 (12 * k + p)).toInt ∧ (hA h 36 (12 * k + p)).toInt ≤ 1200 * ((m : Int) - k)) ∧ ∀ v : Nat → Nat, (∀ x, k ≤ x → x < m → v x < 15 ∧ plD g s a n x (v x)) → (hA h 36 (12 * k + p)).toInt ≤ plS g s a n v p m - plS g s a n v p k
theorem PlR.ar {g h h' : aH} {s a n np x : Nat} (q : PlR g h s a n np x) (h1 : hA h' 34 = hA h 34) (h2 : hA h' 35 = hA h 35) : PlR g h' s a n np x := by
  unfold PlR
  rw [h1, h2]
  exact q
theorem LfR.ar {g h h' : aH} {s a n m np k0 : Nat} (q : LfR g h s a n m np k0) (h1 : hA h' 36 = hA h 36) : LfR g h' s a n m np k0 := by
  unfold LfR
  rw [h1]
  exact q
def PlC (g h : aH) (s a n m np : Nat) : Prop := KS g h ∧ hI h 27 9 = nI m ∧ hI h 27 10 = nI np ∧ PlR g h s a n np m ∧ LfR g h s a n m np 0
def PlT (g h : aH) (s a n m np : Nat) (v : Nat → Nat) (k : Nat) (B : Option (Nat → Nat)) : Prop := (∀ x, x < k → hA h 33 x = nI (v x)) ∧ (∀ p, p < np → (hA h 37 p).toInt = plS g s a n v p k) ∧ EvR h 28 np (B.map (plU g s a n m)) ∧ ∀ u, B = some u → ∀ x, x < m → hA h 32 x = nI (u x)
abbrev scA : Nat → Prop := fun q => q = 29 ∨ q = 30 ∨ q = 32 ∨ q = 33 ∨ q = 37 ∨ q = 38
abbrev scO : Nat → Prop := fun q => q = 28
theorem scA.ks {h h' : aH} (c : Ch scA scO h h') : KS h h' := c.ks (fun a ha => by unfold scA at ha; omega) (fun a z => by have : a = 28 := z; omega)
theorem PlC.ch {g h h' : aH} {s a n m np : Nat} (q : PlC g h s a n m np) (c : Ch scA scO h h') : PlC g h' s a n m np := by
  obtain ⟨q1, q2, q3, q4, q5⟩ := q
  have a34 := c.2.2.2.2.2 34 (by unfold scA; omega)
  have a35 := c.2.2.2.2.2 35 (by unfold scA; omega)
  have a36 := c.2.2.2.2.2 36 (by unfold scA; omega)
  have i27 := c.2.2.2.2.1 27 (by unfold scO; omega)
  exact ⟨q1.tr (scA.ks c), by rw [i27]; exact q2, by rw [i27]; exact q3, q4.ar a34 a35, q5.ar a36⟩
theorem k_priceAt {l : Launch} {E : eE} {d bc bs : Nat} {h : aH} {K : Int32 → aH → Prop} {k c : Nat} (S : SH h) (hk : k < 6) (hc : c < 15) (kk : K (nI ((15 * k + c) * 12)) h) : CI l E d bc bs mX7_priceAt [.inl (nI k), .inl (nI c)] h K := by
  refine bX7_priceAt_0 S ?_
  rw [nI_mul, nI_add, nI_mul, show k * 15 + c = 15 * k + c by omega]
  exact kk
/-- charge: the price of choice c of week k is put to the sums, or taken away -/
theorem k_charge {l : Launch} {E : eE} {d bc bs : Nat} {h : aH} {K : aH → Prop} {np at_ : Nat} {sg : Int32} (S : SH h) (hn : np ≤ 12) (ha : at_ + 12 ≤ 1080) (en : hI h 27 10 = nI np) (k : ∀ h1, Ch (isA 37) noO h h1 → (∀ p, p < np → hA h1 37 p = hA h 37 p + sg * hA h 35 (at_ + p)) → K h1) : CV l E d bc bs mX7_charge [.inr (some (0, 7, 27)), .inl (nI at_), .inl sg] h K := by
  have lp : ∀ (b p : Nat) (h1 : aH), p + b = np → Ch (isA 37) noO h h1 → (∀ q, q < 12 → hA h1 37 q = if q < p then hA h 37 q + sg * hA h 35 (at_ + q) else hA h 37 q) → LX7_charge_2 l E d bc bs (nI at_) sg (nI p) h1 K := by
    intro b
    induction b with
    | zero =>
      intro p h1 hp c q1
      have hp : p = np := by omega
      subst hp
      refine bX7_charge_2 (c.sh S) ⟨fun _ => k h1 c (fun q hq => by rw [q1 q (by omega), if_pos hq]), fun z => absurd ?_ z⟩
      rw [c.2.2.2.2.1 27 (fun z => z), en]; exact nI_le (Nat.le_refl p) (by omega)
    | succ b ih =>
      intro p h1 hp c q1
      refine bX7_charge_2 (c.sh S) ⟨fun z => absurd z ?_, fun _ => ?_⟩
      · rw [c.2.2.2.2.1 27 (fun z => z), en]; exact nI_ge (by omega) (by omega)
      · rw [nI_clamp (n := p) (by omega), nI_add at_ p, nI_clamp (n := at_ + p) (by omega), nI_add p 1, q1 p (by omega), if_neg (Nat.lt_irrefl p), c.2.2.2.2.2 35 (by show ¬ 35 = 37; decide)]
        refine ⟨vp_in_nI (by omega) (by omega), vp_in_nI (by omega) (by omega), ih (p + 1) _ (by omega) (c.tr (ch_A (A := isA 37) (O := noO) h1 p _ rfl)) (fun q hq => ?_)⟩
        rw [hA_st]
        by_cases y : q = p
        · subst y; rw [if_pos ⟨rfl, rfl⟩, if_pos (Nat.lt_succ_self q)]
        · rw [if_neg (fun z => y z.2), q1 q hq]
          by_cases y2 : q < p
          · rw [if_pos y2, if_pos (by omega)]
          · rw [if_neg y2, if_neg (by omega)]
  exact bX7_charge_0 S (lp np 0 h (by omega) (Ch.rf h) (fun q _ => by rw [if_neg (Nat.not_lt_zero q)]))
theorem m1_mul (y : Int32) : (-1 : Int32) * y = -y := by rw [Int32.neg_mul, Int32.one_mul]
/-- the search behind week k -/
theorem k_search {l : Launch} {E : eE} {g : aH} {s a n m np : Nat} (V : LW g) (hs : (s : Int) < (hI g 63 14).toInt) (hnp : (np : Int) = (hI g 63 3).toInt) (hm : m ≤ 6) : ∀ (j k d bc bs : Nat) (h : aH) (v : Nat → Nat) (B : Option (Nat → Nat)) (K : aH → Prop), k + j = m → 2 * j + 3 ≤ d → PlC g h s a n m np → PlT g h s a n m np v k B → (∀ x, x < k → v x < 15 ∧ plD g s a n x (v x)) →
    (∀ h1, Ch scA scO h h1 → PlT g h1 s a n m np v k (plB g s a n m np j k v B) → K h1) → CV l E d bc bs mX7_search [.inr (some (0, 7, 27)), .inl (nI k)] h K := by
  have hN := V.1.2.1
  unfold RIn at hN
  have np12 : np ≤ 12 := by omega
  intro j
  induction j with
  | zero =>
    intro k d bc bs h v B K hk hd C T hv kk
    have hk : k = m := by omega
    subst hk
    obtain ⟨d, rfl⟩ : ∃ d', d = d' + 1 := ⟨d - 1, by omega⟩
    have S := (C.1.lv V).1.1
    obtain ⟨ks, e9, e10, pr, lf⟩ := id C
    obtain ⟨w1, w2, w3, w4⟩ := T
    have lp : ∀ (b p : Nat) (h1 : aH), p + b = np → Ch scA scO h h1 → (∀ a, a ≠ 38 → hA h1 a = hA h a) → hI h1 28 = hI h 28 → (∀ q, q < p → (hA h1 38 q).toInt = plU g s a n k v q) → LX7_search_2 l E (d + 1) bc bs (nI k) (nI p) h1 K := by
      intro b
      induction b with
      | zero =>
        intro p h1 hp c q1 q2 q3
        have hp : p = np := by omega
        subst hp
        have S1 := c.sh S
        have i27 : hI h1 27 = hI h 27 := c.2.2.2.2.1 27 (by unfold scO; omega)
        have ev1 : EvR h1 28 p (B.map (plU g s a n k)) := by
          unfold EvR
          rw [q2, q1 29 (by decide)]
          exact w3
        refine bX7_search_2 S1 ⟨fun _ => k_isBetter S1 (Or.inl rfl) (by omega) ev1 (by decide) (fun h2 c2 => ?_), fun z => absurd ?_ z⟩
        · have cc : Ch scA scO h h2 := c.tr (c2.mono (fun a ha => by have : a = 30 := ha; unfold scA; omega) (fun _ z => z.elim))
          have S2 := c2.sh S1
          have i27' : hI h2 27 = hI h 27 := by rw [c2.2.2.2.2.1 27 (fun z => z)]; exact i27
          have beq : betO p (vI (hA h1 38)) (B.map (plU g s a n k)) ↔ ∀ u, B = some u → bet p (plU g s a n k v) (plU g s a n k u) := by
            unfold betO
            constructor
            · intro z u hu
              exact (bet_c q3 (fun _ _ => rfl)).mp (z _ (by rw [hu]; rfl))
            · intro z b hb
              cases B with
              | none => cases hb
              | some u =>
                have : plU g s a n k u = b := Option.some.inj hb
                subst this
                exact (bet_c q3 (fun _ _ => rfl)).mpr (z u rfl)
          have elf : plB g s a n k p 0 k v B = updB p (plU g s a n k) v B := by
            show lfB _ _ _ _ _ _ = _
            unfold lfB
            rw [if_pos (dec_t (fun x hx => (hv x hx).2))]
          refine ⟨fun be => ⟨S2, fun _ => ⟨fun z => absurd z ?_, fun _ => ?_⟩, fun z => absurd z (by decide)⟩, fun be => ⟨S2, fun z => absurd rfl z, fun _ => kk h2 cc ?_⟩⟩
          · rw [i27', e9]; exact nI_nlt (Nat.le_refl k) (by omega)
          · have ev2 : EvR h2 28 p (B.map (plU g s a n k)) := by
              unfold EvR
              rw [c2.2.2.2.2.1 28 (fun z => z), c2.2.2.2.2.2 29 (by show ¬ 29 = 30; decide)]
              exact ev1
            refine k_keep S2 (Or.inl rfl) (by omega) ev2 (fun h5 c5 ev5 => ?_)
            have i27'' : hI h5 27 9 = nI k := by rw [c5.2.2.2.2.1 27 (by show ¬ 27 = 28; decide), i27']; exact e9
            rw [i27'', nI_clamp (n := k) (by omega)]
            refine ⟨c5.sh S2, by decide, by decide, nI_pos (by omega), by rw [nI_clamp (by omega)]; omega, by rw [nI_clamp (by omega)]; omega, kk _ ((cc.tr (c5.mono (fun a ha => by have : a = 29 := ha; unfold scA; omega) (fun a ha => ha))).tr (ch_AA _ _ (by unfold scA; omega))) ?_⟩
            have ub : updB p (plU g s a n k) v B = some v := by
              cases B with
              | none => rfl
              | some u =>
                show (if _ then _ else _) = _
                rw [if_pos (dec_t (beq.mp be u rfl))]
            rw [elf, ub]
            have a33 : hA h5 33 = hA h 33 := by rw [c5.2.2.2.2.2 33 (by show ¬ 33 = 29; decide), c2.2.2.2.2.2 33 (by show ¬ 33 = 30; decide), q1 33 (by decide)]
            have a37 : hA h5 37 = hA h 37 := by rw [c5.2.2.2.2.2 37 (by show ¬ 37 = 29; decide), c2.2.2.2.2.2 37 (by show ¬ 37 = 30; decide), q1 37 (by decide)]
            have a37' : hA h2 37 = hA h 37 := by rw [c2.2.2.2.2.2 37 (by show ¬ 37 = 30; decide), q1 37 (by decide)]
            refine ⟨fun x hx => ?_, fun q hq => ?_, ?_, fun u hu x hx => ?_⟩
            · rw [hA_AAn _ _ (by decide), a33]; exact w1 x hx
            · rw [hA_AAn _ _ (by decide), a37]; exact w2 q hq
            · obtain ⟨r1, r2, r3, r4⟩ := ev5
              refine ⟨r1, r2, fun z => (by cases z), fun b hb => ?_⟩
              have hb : b = plU g s a n k v := (Option.some.inj hb).symm
              subst hb
              obtain ⟨t1, t2⟩ := r4 _ rfl
              refine ⟨t1, ?_⟩
              rw [hA_AAn _ _ (by decide)]
              exact t2.c (fun q hq => by show (hA h2 37 q).toInt = _; rw [a37']; exact w2 q hq) (fun _ _ => rfl)
            · have : u = v := (Option.some.inj hu).symm
              subst this
              rw [hA_AA, cpy_at hx, a33]
              exact w1 x hx
          · have ub : updB p (plU g s a n k) v B = B := by
              cases B with
              | none => exact absurd (beq.mpr (fun u hu => by cases hu)) be
              | some u =>
                show (if _ then _ else _) = _
                rw [if_neg (dec_f (fun z => be (beq.mpr (fun u' hu' => by rw [← Option.some.inj hu']; exact z))))]
            rw [elf, ub]
            refine ⟨fun x hx => ?_, fun q hq => ?_, ?_, fun u hu x hx => ?_⟩
            · rw [c2.2.2.2.2.2 33 (by show ¬ 33 = 30; decide), q1 33 (by decide)]; exact w1 x hx
            · rw [c2.2.2.2.2.2 37 (by show ¬ 37 = 30; decide), q1 37 (by decide)]; exact w2 q hq
            · unfold EvR
              rw [c2.2.2.2.2.1 28 (fun z => z), c2.2.2.2.2.2 29 (by show ¬ 29 = 30; decide)]
              exact ev1
            · rw [c2.2.2.2.2.2 32 (by show ¬ 32 = 30; decide), q1 32 (by decide)]; exact w4 u hu x hx
        · rw [i27, e10]; exact nI_le (Nat.le_refl p) (by omega)
      | succ b ih =>
        intro p h1 hp c q1 q2 q3
        have i27 : hI h1 27 = hI h 27 := c.2.2.2.2.1 27 (by unfold scO; omega)
        have r1 := plS_rng V.1.2 (a := a) (n := n) (v := v) hs (show (p : Int) < (hI g 63 3).toInt by omega) k
        refine bX7_search_2 (c.sh S) ⟨fun z => absurd z (by rw [i27, e10]; exact nI_ge (by omega) (by omega)), fun _ => ?_⟩
        rw [nI_clamp (n := p) (by omega), ix2 (by omega), show k * 12 + p = 12 * k + p by omega, q1 36 (by decide), q1 37 (by decide), lf.1 p (by omega), z_add0, nI_add p 1]
        refine ⟨vp_in_nI (by omega) (by omega), vp2 (by omega) (by omega), ih (p + 1) _ (by omega) (c.tr (ch_A _ p _ (by unfold scA; omega))) (fun a ha => (hA_stn _ _ _ _ ha).trans (q1 a ha)) q2 (fun q hq => ?_)⟩
        rw [hA_st]
        by_cases y : q = p
        · subst y; rw [if_pos ⟨rfl, rfl⟩]; exact w2 q (by omega)
        · rw [if_neg (fun z => y z.2)]; exact q3 q (by omega)
    exact bX7_search_0 S (lp np 0 h (by omega) (Ch.rf h) (fun _ _ => rfl) rfl (fun q hq => absurd hq (Nat.not_lt_zero q)))
  | succ j ihj =>
    intro k d bc bs h v B K hk hd C T hv kk
    obtain ⟨d, rfl⟩ : ∃ d', d = d' + 1 := ⟨d - 1, by omega⟩
    have S := (C.1.lv V).1.1
    obtain ⟨ks, e9, e10, pr, lf⟩ := id C
    obtain ⟨w1, w2, w3, w4⟩ := id T
    -- all choices of week k
    have ch : ∀ (b c : Nat) (h1 : aH), c + b = 15 → Ch scA scO h h1 → PlT g h1 s a n m np v k (fN (fun c B => if clsP (hA g 76 s) (hA g 77 s).toNatClampNeg c then plB g s a n m np j (k + 1) (upN v k c) B else B) c B) → LX7_search_94 l E (d + 1) bc bs (nI k) (nI c) h1 K := by
      intro b
      induction b with
      | zero =>
        intro c h1 hc c1 T1
        have hc : c = 15 := by omega
        subst hc
        refine bX7_search_94 (c1.sh S) ⟨fun _ => kk h1 c1 ?_, fun z => absurd (nI_le (Nat.le_refl 15) (by omega)) z⟩
        have : plB g s a n m np (j + 1) k v B = fN (fun c B => if clsP (hA g 76 s) (hA g 77 s).toNatClampNeg c then plB g s a n m np j (k + 1) (upN v k c) B else B) 15 B := by
          show (clO g s).foldl (fun B c => plB g s a n m np j (k + 1) (upN v k c) B) B = _
          exact fl_fN (f := fun c B => plB g s a n m np j (k + 1) (upN v k c) B) (P := clsP (hA g 76 s) (hA g 77 s).toNatClampNeg) 15
        rw [this]
        exact T1
      | succ b ih =>
        intro c h1 hc c1 T1
        have C1 := C.ch c1
        have S1 := c1.sh S
        obtain ⟨-, f9, f10, pr1, lf1⟩ := id C1
        obtain ⟨pb, pc⟩ := pr1 k (by omega)
        obtain ⟨pc1, pc2⟩ := pc c (by omega)
        have ih := ih (c + 1)
        refine bX7_search_94 S1 ⟨fun z => absurd z (nI_ge (by omega) (by omega)), fun _ => ⟨vp_in_nI (by omega) (by omega), k_isIn S1 (by omega) ?_⟩⟩
        rw [nI_clamp (n := k) (by omega)]
        cases eb : bt (hA h1 34 k) c with
        | false =>
          have nD : ¬ plD g s a n k c := fun z => by rw [pc1.mpr z] at eb; cases eb
          refine ⟨S1, fun _ => ?_, fun z => absurd rfl z⟩
          rw [nI_add]
          refine ih h1 (by omega) c1 ?_
          rw [fN]
          have : (if clsP (hA g 76 s) (hA g 77 s).toNatClampNeg c then plB g s a n m np j (k + 1) (upN v k c) (fN (fun c B => if clsP (hA g 76 s) (hA g 77 s).toNatClampNeg c then plB g s a n m np j (k + 1) (upN v k c) B else B) c B) else fN (fun c B => if clsP (hA g 76 s) (hA g 77 s).toNatClampNeg c then plB g s a n m np j (k + 1) (upN v k c) B else B) c B) = fN (fun c B => if clsP (hA g 76 s) (hA g 77 s).toNatClampNeg c then plB g s a n m np j (k + 1) (upN v k c) B else B) c B := by
            split
            · exact foB_bad j (k + 1) (upN v k c) _ ⟨k, by omega, by omega, by unfold upN; rw [if_pos rfl]; exact nD⟩
            · rfl
          rw [this]
          exact T1
        | true =>
          have hD : plD g s a n k c := pc1.mp eb
          have pc2 := pc2 hD
          obtain ⟨t1, t2, t3, t4⟩ := T1
          refine ⟨S1, fun z => absurd z (by decide), fun _ => ?_⟩
          have c2 : Ch scA scO h1 (stA h1 33 k (nI c)) := ch_A _ k _ (by unfold scA; omega)
          refine k_priceAt (c2.sh S1) (by omega) (by omega) ⟨c2.sh S1, ?_⟩
          obtain ⟨d, rfl⟩ : ∃ d', d = d' + 1 := ⟨d - 1, by omega⟩
          refine bX7_searchBehind_0 (c2.sh S1) (k_charge (sg := nI 1) (c2.sh S1) np12 (by omega) f10 (fun h3 c3 q3 => ?_))
          have c13 : Ch scA scO h h3 := (c1.tr c2).tr (c3.mono (fun a ha => by have : a = 37 := ha; unfold scA; omega) (fun _ z => z.elim))
          have C3 := C.ch c13
          rw [nI_add]
          have rp : ∀ p, p < np → 0 ≤ (plP g s a n k c p).toInt ∧ (plP g s a n k c p).toInt ≤ 1200 := fun p hp => plP_rng V.1.2 hs (by omega)
          have rs : ∀ p, p < np → 0 ≤ plS g s a n v p k ∧ plS g s a n v p k ≤ 1200 * k := fun p hp => plS_rng V.1.2 hs (by omega) k
          have eup : ∀ p, plS g s a n (upN v k c) p (k + 1) = plS g s a n v p k + (plP g s a n k c p).toInt := fun p => by
            rw [plS, plS_c (v' := v) k (fun x hx => by unfold upN; rw [if_neg (by omega)])]
            unfold upN
            rw [if_pos rfl]
          have T3 : PlT g h3 s a n m np (upN v k c) (k + 1) (fN (fun c B => if clsP (hA g 76 s) (hA g 77 s).toNatClampNeg c then plB g s a n m np j (k + 1) (upN v k c) B else B) c B) := by
            refine ⟨fun x hx => ?_, fun p hp => ?_, ?_, fun u hu x hx => ?_⟩
            · rw [c3.2.2.2.2.2 33 (by show ¬ 33 = 37; decide), hA_st]
              unfold upN
              by_cases y : x = k
              · rw [if_pos ⟨rfl, y⟩, if_pos y]
              · rw [if_neg (fun z => y z.2), if_neg y]; exact t1 x (by omega)
            · rw [q3 p hp, hA_stn _ _ _ _ (by decide), hA_stn _ _ _ _ (by decide), pc2 p hp, eup, show nI 1 * plP g s a n k c p = plP g s a n k c p from Int32.one_mul _]
              have := rp p hp
              have := rs p hp
              rw [i_add (by rw [t2 p hp]; omega) (by rw [t2 p hp]; omega), t2 p hp]
            · unfold EvR
              rw [c3.2.2.2.2.1 28 (fun z => z), c3.2.2.2.2.2 29 (by show ¬ 29 = 37; decide)]
              exact t3
            · rw [c3.2.2.2.2.2 32 (by show ¬ 32 = 37; decide), hA_stn _ _ _ _ (by decide)]
              exact t4 u hu x hx
          refine ⟨c13.sh S, ihj (k + 1) d 0 0 h3 (upN v k c) _ _ (by omega) (by omega) C3 T3 (fun x hx => ?_) (fun h4 c4 T4 => ⟨c4.sh (c13.sh S), ?_⟩)⟩
          · unfold upN
            by_cases y : x = k
            · rw [if_pos y, y]; exact ⟨by omega, hD⟩
            · rw [if_neg y]; exact hv x (by omega)
          · have c14 := c13.tr c4
            have C4 := C.ch c14
            obtain ⟨u1, u2, u3, u4⟩ := T4
            refine k_charge (sg := -1) (c14.sh S) np12 (by omega) C4.2.2.1 (fun h5 c5 q5 => ⟨c5.sh (c14.sh S), c5.sh (c14.sh S), ?_⟩)
            have c15 : Ch scA scO h h5 := c14.tr (c5.mono (fun a ha => by have : a = 37 := ha; unfold scA; omega) (fun _ z => z.elim))
            rw [nI_add]
            refine ih h5 (by omega) c15 ?_
            rw [fN, if_pos hD.1]
            refine ⟨fun x hx => ?_, fun p hp => ?_, ?_, fun u hu x hx => ?_⟩
            · rw [c5.2.2.2.2.2 33 (by show ¬ 33 = 37; decide), u1 x (by omega)]
              unfold upN
              rw [if_neg (by omega)]
            · have a35 : hA h4 35 = hA h1 35 := by rw [c4.2.2.2.2.2 35 (by unfold scA; omega), c3.2.2.2.2.2 35 (by show ¬ 35 = 37; decide), hA_stn _ _ _ _ (by decide)]
              have := rp p hp
              have := rs p hp
              have e4 := u2 p hp
              rw [eup] at e4
              rw [q5 p hp, a35, pc2 p hp, m1_mul, ← Int32.sub_eq_add_neg, i_sub (by rw [e4]; omega) (by rw [e4]; omega), e4]
              omega
            · unfold EvR
              rw [c5.2.2.2.2.1 28 (fun z => z), c5.2.2.2.2.2 29 (by show ¬ 29 = 37; decide)]
              exact u3
            · rw [c5.2.2.2.2.2 32 (by show ¬ 32 = 37; decide)]
              exact u4 u hu x hx
    -- what is reached at least
    have lp : ∀ (b p : Nat) (h1 : aH), p + b = np → Ch scA scO h h1 → (∀ a, a ≠ 38 → hA h1 a = hA h a) → hI h1 28 = hI h 28 → (∀ q, q < p → (hA h1 38 q).toInt = plS g s a n v q k + (hA h 36 (12 * k + q)).toInt) → LX7_search_2 l E (d + 1) bc bs (nI k) (nI p) h1 K := by
      intro b
      induction b with
      | zero =>
        intro p h1 hp c q1 q2 q3
        have hp : p = np := by omega
        subst hp
        have S1 := c.sh S
        have i27 : hI h1 27 = hI h 27 := c.2.2.2.2.1 27 (by unfold scO; omega)
        have ev1 : EvR h1 28 p (B.map (plU g s a n m)) := by
          unfold EvR
          rw [q2, q1 29 (by decide)]
          exact w3
        refine bX7_search_2 S1 ⟨fun _ => k_isBetter S1 (Or.inl rfl) (by omega) ev1 (by decide) (fun h2 c2 => ?_), fun z => absurd ?_ z⟩
        · have cc : Ch scA scO h h2 := c.tr (c2.mono (fun a ha => by have : a = 30 := ha; unfold scA; omega) (fun _ z => z.elim))
          have S2 := c2.sh S1
          have i27' : hI h2 27 = hI h 27 := by rw [c2.2.2.2.2.1 27 (fun z => z)]; exact i27
          have T2 : PlT g h2 s a n m p v k B := by
            refine ⟨fun x hx => ?_, fun q hq => ?_, ?_, fun u hu x hx => ?_⟩
            · rw [c2.2.2.2.2.2 33 (by show ¬ 33 = 30; decide), q1 33 (by decide)]; exact w1 x hx
            · rw [c2.2.2.2.2.2 37 (by show ¬ 37 = 30; decide), q1 37 (by decide)]; exact w2 q hq
            · unfold EvR
              rw [c2.2.2.2.2.1 28 (fun z => z), c2.2.2.2.2.2 29 (by show ¬ 29 = 30; decide)]
              exact ev1
            · rw [c2.2.2.2.2.2 32 (by show ¬ 32 = 30; decide), q1 32 (by decide)]; exact w4 u hu x hx
          refine ⟨fun be => ⟨S2, fun _ => ⟨fun _ => ch 15 0 h2 (by omega) cc T2, fun z => absurd ?_ z⟩, fun z => absurd z (by decide)⟩, fun be => ⟨S2, fun z => absurd rfl z, fun _ => kk h2 cc ?_⟩⟩
          · rw [i27', e9]; exact nI_lt (by omega) (by omega)
          · have : plB g s a n m p (j + 1) k v B = B := by
              cases B with
              | none => exact absurd (fun b hb => by cases hb) be
              | some u =>
                refine foB_cut (j + 1) k v u hk (fun v' a1 a3 a2 => fun z => be (fun b hb => ?_))
                have hb : plU g s a n m u = b := Option.some.inj hb
                subst hb
                refine bet_mono (fun q hq => ?_) z
                show (hA h1 38 q).toInt ≤ plS g s a n v' q m
                rw [q3 q hq]
                have lo := (lf.2 k q (Nat.zero_le k) (by omega) hq).2 v' (fun x x1 x2 => ⟨by
                  have := a3 x x1 x2
                  unfold clO cls at this
                  rw [List.mem_filter, List.mem_range] at this
                  exact this.1, a2 x x2⟩)
                rw [plS_c (v := v') (v' := v) k (fun x hx => a1 x hx)] at lo
                omega
            rw [this]
            exact T2
        · rw [i27, e10]; exact nI_le (Nat.le_refl p) (by omega)
      | succ b ih =>
        intro p h1 hp c q1 q2 q3
        have i27 : hI h1 27 = hI h 27 := c.2.2.2.2.1 27 (by unfold scO; omega)
        have r1 := plS_rng V.1.2 (a := a) (n := n) (v := v) hs (show (p : Int) < (hI g 63 3).toInt by omega) k
        have r2 := (lf.2 k p (Nat.zero_le k) (by omega) (by omega)).1
        refine bX7_search_2 (c.sh S) ⟨fun z => absurd z (by rw [i27, e10]; exact nI_ge (by omega) (by omega)), fun _ => ?_⟩
        rw [nI_clamp (n := p) (by omega), ix2 (by omega), show k * 12 + p = 12 * k + p by omega, q1 36 (by decide), q1 37 (by decide), nI_add p 1]
        refine ⟨vp_in_nI (by omega) (by omega), vp2 (by omega) (by omega), ih (p + 1) _ (by omega) (c.tr (ch_A _ p _ (by unfold scA; omega))) (fun a ha => (hA_stn _ _ _ _ ha).trans (q1 a ha)) q2 (fun q hq => ?_)⟩
        rw [hA_st]
        by_cases y : q = p
        · subst y; rw [if_pos ⟨rfl, rfl⟩, i_add (by rw [w2 q (by omega)]; omega) (by rw [w2 q (by omega)]; omega), w2 q (by omega)]
        · rw [if_neg (fun z => y z.2)]; exact q3 q (by omega)
    exact bX7_search_0 S (lp np 0 h (by omega) (Ch.rf h) (fun _ _ => rfl) rfl (fun q hq => absurd hq (Nat.not_lt_zero q)))
