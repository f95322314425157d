/-! ===== the class: Seating ===== -/
theorem bt_cm (x y : Int32) {p : Nat} (hp : p < 32) : bt (x &&& (y ^^^ -1)) p = (bt x p && !bt y p) := by
  rw [bt_and, bt_xor, bt_m1 hp]
  cases bt y p <;> simp
/-- what a seating says: who is free, who comes -/
def StO (g h : aH) (w n s st : Nat) (W : Nat → Prop) (F : Nat → Nat → Prop) (i j : Int32) : Prop :=
  (hI h st 0 = i ∧ hI h st 1 = j) ∧ (sm 12 (hI h st 2) ∧ ∀ p, p < 12 → (bt (hI h st 2) p = true ↔ (W p ∧ F p i.toNatClampNeg))) ∧ (sm 12 (hI h st 3) ∧ ∀ p, p < 12 → (bt (hI h st 3) p = true ↔ (¬ j = -1 ∧ W p ∧ F p j.toNatClampNeg))) ∧
  (sm 12 (hI h st 4) ∧ ∀ p, p < 12 → (bt (hI h st 4) p = true ↔ (W p ∧ coF g w n s F p i j 0))) ∧ (sm 12 (hI h st 5) ∧ ∀ p, p < 12 → (bt (hI h st 5) p = true ↔ (W p ∧ coF g w n s F p i j 1)))
abbrev noA : Nat → Prop := fun _ => False
/-- an object of the class's scratch -/
abbrev scr (st : Nat) : Prop := 22 ≤ st ∧ st ≤ 62 ∧ st ≠ 43
theorem noA.ks {st : Nat} {h h' : aH} (q : scr st) (c : Ch noA (isQ st) h h') : KS h h' := c.ks (fun _ z => z.elim) (fun a z => by have : a = st := z; omega)
section
variable {g : aH} {w n s : Nat} {pi pj : Nat → Int32}
theorem okP.c {i j : Int32} (S : RI g) (hs : (s : Int) < (hI g 63 14).toInt) (ok : okP g s i j) : ∃ i' : Nat, i = nI i' ∧ i.toNatClampNeg = i' ∧ i' < 6 ∧ (i' : Int) < (hA g 77 s).toInt ∧ ((hA g 76 s = -1 ∧ j = -1) ∨ (¬ hA g 76 s = -1 ∧ ¬ j = -1 ∧ ∃ j' : Nat, j = nI j' ∧ j.toNatClampNeg = j' ∧ j' < 6 ∧ i' < j' ∧ (j' : Int) < (hA g 77 s).toInt)) := by
  have h6 := op6 S hs
  obtain ⟨i', rfl, hi, q⟩ := ok
  refine ⟨i', rfl, nI_clamp (by omega), by omega, hi, ?_⟩
  rcases q with q | ⟨q, j', h1, h2, rfl⟩
  · exact Or.inl q
  · exact Or.inr ⟨q, nI_m1 (by omega), j', rfl, nI_clamp (by omega), by omega, h1, h2⟩
end
theorem k_freeAt {l : Launch} {E : eE} {d bc bs : Nat} {h : aH} {K : Int32 → aH → Prop} {g : aH} {w n s o sh b i : Nat} {W Wb : Nat → Prop} {pi pj : Nat → Int32} {T : Tab} {m : Nat} (V : LW g) (ks : KS g h) (hsh : isSh sh) (hb : isBd b) (hd : 1 ≤ d) (hs : (s : Int) < (hI g 63 14).toInt) (hl : SeAt g s o) (hw : w < 52) (hi : (i : Int) < (hA g 77 s).toInt) (so : ShO g h w n s sh W i) (bd : BdO h b Wb (enO g w pi pj T s) m) (hm : m ≤ 8) (hWb : ∀ p, W p → Wb p) (k : ∀ v, sm 12 v → (∀ p, p < 12 → (bt v p = true ↔ (W p ∧ frO g w n pi pj T s p i))) → K v h) : CI l E d bc bs mX8_freeAt [.inr (some (0, 9, o)), .inr (some (0, 10, sh)), .inr (some (0, 1, b)), .inl (nI i)] h K := by
  obtain ⟨d, rfl⟩ : ∃ d', d = d' + 1 := ⟨d - 1, by omega⟩
  have S := (ks.lv V).1.1
  have h6 := op6 V.1.2 hs
  have ho := hl.o
  obtain ⟨z, hz, ez, hu⟩ := bd
  obtain ⟨s1, s2, s3, -⟩ := so
  refine bX8_freeAt_0 S hsh hb ?_
  rw [nI_clamp (n := i) (by omega), ks.2.2.2.2.1 o (by omega), hl.1.1.2.2.1]
  refine ⟨vp_in_nI (by omega) (by omega), k_engaged S hb (by omega) ez (fun v hv => ⟨S, k _ (sm_and s2) (fun p hp => ?_)⟩)⟩
  rw [bt_cm _ _ (by omega), Bool.and_eq_true, s3 p hp]
  by_cases c : W p ∧ ablO g w n s p i
  · have hin : inO g w s i := c.2.1
    rw [if_pos hin] at s1
    have e2 := hv p
    rw [s1, enO_int V.1.2 hs hi hw, (stO_int V.1.2 hs hi hw).1, hu p hp (hWb p c.1)] at e2
    unfold frO
    rw [← e2]
    constructor
    · rintro ⟨q1, q2⟩
      refine ⟨q1.1, q1.2, ?_⟩
      rw [Bool.not_eq_true'] at q2
      rw [q2]; exact fun y => by cases y
    · rintro ⟨q1, q2, q3⟩
      refine ⟨⟨q1, q2⟩, ?_⟩
      rw [Bool.not_eq_true']
      exact Bool.eq_false_iff.mpr q3
  · exact ⟨fun q => absurd q.1 c, fun q => absurd ⟨q.1, q.2.1⟩ c⟩
theorem shr0 {x : Int32} {a p : Nat} (hx : sm 12 x) (ha : a ≤ p) (hp : p < 12) (e : x >>> (nI a &&& 31) = 0) : bt x p = false := by
  have := bt_shr x (p := a) (by omega) (p - a)
  rw [e, bt_0, BitVec.getLsbD_sshiftRight] at this
  have h2 : a + (p - a) = p := by omega
  simp [show p - a < 32 by omega, h2, show p < 32 by omega] at this
  unfold bt
  exact this.symm ▸ rfl
theorem k_prefer {l : Launch} {E : eE} {d bc bs : Nat} {h : aH} {K : Int32 → aH → Prop} {g : aH} {w n s st sh : Nat} {x2 : Int32} {i j : Nat} (S : SH h) (hsh : isSh sh) (hd : 1 ≤ d) (e0 : hI h st 0 = nI i) (e1 : hI h st 1 = nI j) (hij : i < 6 ∧ j < 6) (hx : sm 12 x2) (f1 : ∀ p, p < 12 → bt x2 p = true → hA h (sh + 3) (12 * i + p) = prO g w n s p i ∧ hA h (sh + 3) (12 * j + p) = prO g w n s p j) (k : ∀ v, sm 12 v → (∀ p, p < 12 → (bt v p = true ↔ (bt x2 p = true ∧ prO g w n s p j < prO g w n s p i))) → K v h) : CI l E d bc bs mX8_preferSecond [.inr (some (0, 8, st)), .inr (some (0, 10, sh)), .inl x2] h K := by
  obtain ⟨d, rfl⟩ : ∃ d', d = d' + 1 := ⟨d - 1, by omega⟩
  have w5 : ∀ (a p : Nat) (v : Int32), p + a = 12 → sm 12 v → (∀ q, q < 12 → (bt v q = true ↔ (q < p ∧ bt x2 q = true ∧ prO g w n s q j < prO g w n s q i))) → LX8_preferSecond_5 l E (d + 1) bc bs st sh x2 v (nI p) h K := by
    intro a
    induction a with
    | zero =>
      intro p v hp sv hv
      have hp : p = 12 := by omega
      subst hp
      refine bX8_preferSecond_5 S hsh ⟨fun _ => k v sv (fun q hq => ?_), fun c => absurd (nI_le (Nat.le_refl 12) (by omega)) c⟩
      rw [hv q hq]
      exact ⟨fun z => z.2, fun z => ⟨hq, z⟩⟩
    | succ a ih =>
      intro p v hp sv hv
      refine bX8_preferSecond_5 S hsh ⟨fun c => absurd c (nI_ge (by omega) (by omega)), fun _ => ⟨fun c => k v sv (fun q hq => ?_), fun c => k_isIn S (by omega) ?_⟩⟩
      · rw [hv q hq]
        refine ⟨fun z => z.2, fun z => ⟨?_, z⟩⟩
        refine Decidable.byContradiction fun y => ?_
        rw [shr0 hx (by omega) hq c] at z
        exact absurd z.1 (by decide)
      · cases eb : bt x2 p with
        | false =>
          refine ⟨S, fun _ => ?_, fun z => absurd rfl z⟩
          rw [nI_add]
          refine ih (p + 1) v (by omega) sv (fun q hq => ?_)
          rw [hv q hq]
          refine ⟨fun z => ⟨by omega, z.2⟩, fun z => ⟨?_, z.2⟩⟩
          have : q ≠ p := fun y => by rw [y, eb] at z; exact absurd z.2.1 (by decide)
          omega
        | true =>
          obtain ⟨u1, u2⟩ := f1 p (by omega) eb
          refine ⟨S, fun z => absurd z (by decide), fun _ => ?_⟩
          rw [e0, e1, ix2 (by omega), ix2 (by omega), show i * 12 + p = 12 * i + p by omega, show j * 12 + p = 12 * j + p by omega, u1, u2, nI_add]
          refine ⟨vp2 (by omega) (by omega), vp2 (by omega) (by omega), fun c1 => ih (p + 1) v (by omega) sv (fun q hq => ?_), fun c1 => ih (p + 1) _ (by omega) (sm_or sv (sm_pow (by omega) (by decide))) (fun q hq => ?_)⟩
          · rw [hv q hq]
            refine ⟨fun z => ⟨by omega, z.2⟩, fun z => ⟨?_, z.2⟩⟩
            have : q ≠ p := fun y => by rw [y] at z; exact i_lt_n z.2.2 c1
            omega
          · rw [bt_or, Bool.or_eq_true, hv q hq, bt_pow (by omega) (by omega), decide_eq_true_iff]
            constructor
            · rintro (z | rfl)
              · exact ⟨by omega, z.2⟩
              · exact ⟨by omega, eb, i_nle c1⟩
            · rintro ⟨z1, z2⟩
              by_cases y : q = p
              · exact Or.inr y
              · exact Or.inl ⟨by omega, z2⟩
  exact bX8_preferSecond_0 S hsh (w5 12 0 (nI 0) (by omega) (sm_0 12) (fun q hq => ⟨fun z => (by rw [show bt (nI 0) q = false from bt_0 q] at z; cases z), fun z => absurd z.1 (Nat.not_lt_zero q)⟩))
theorem k_preferNo {l : Launch} {E : eE} {d bc bs : Nat} {h : aH} {K : Int32 → aH → Prop} {st sh : Nat} {x2 : Int32} (S : SH h) (hsh : isSh sh) (hd : 1 ≤ d) (hx : x2 = 0) (k : K (nI 0) h) : CI l E d bc bs mX8_preferSecond [.inr (some (0, 8, st)), .inr (some (0, 10, sh)), .inl x2] h K := by
  obtain ⟨d, rfl⟩ : ∃ d', d = d' + 1 := ⟨d - 1, by omega⟩
  exact bX8_preferSecond_0 S hsh (bX8_preferSecond_5 S hsh ⟨fun c => absurd c (by decide), fun _ => ⟨fun _ => k, fun c => absurd (by rw [hx]; decide) c⟩⟩)
/-- Seating.seat -/
theorem k_seat {l : Launch} {E : eE} {d bc bs : Nat} {h : aH} {K : aH → Prop} {g : aH} {w n s o sh b st : Nat} {c i j : Int32} {W Wb : Nat → Prop} {pi pj : Nat → Int32} {T : Tab} {m : Nat} (V : LW g) (ks : KS g h) (hsh : isSh sh) (hb : isBd b) (hst : scr st) (hd : 3 ≤ d) (hs : (s : Int) < (hI g 63 14).toInt) (hl : SeAt g s o) (hw : w < 52) (hc : okC (hA g 76 s) c) (ei : fO (hA g 76 s) c = i) (ej : sO (hA g 76 s) c = j) (ok : okP g s i j) (so : ShO g h w n s sh W i.toNatClampNeg) (so2 : ¬ j = -1 → ShO g h w n s sh W j.toNatClampNeg) (bd : BdO h b Wb (enO g w pi pj T s) m) (hm : m ≤ 8) (hWb : ∀ p, W p → Wb p) (hW : ∀ p, p < 12 → W p → (1 ≤ roO g s p ∨ hA g 76 s = nI p))
    (k : ∀ h1, Ch noA (isQ st) h h1 → StO g h1 w n s st W (frO g w n pi pj T s) i j → K h1) : CV l E d bc bs mX8_seat [.inr (some (0, 8, st)), .inr (some (0, 9, o)), .inr (some (0, 10, sh)), .inr (some (0, 1, b)), .inl c] h K := by
  obtain ⟨d, rfl⟩ : ∃ d', d = d' + 1 := ⟨d - 1, by omega⟩
  have hN := V.1.2.1
  unfold RIn at hN
  have h6 := op6 V.1.2 hs
  have ho := hl.o
  have S := (ks.lv V).1.1
  have f5 : ∀ h1, Ch noA (isQ st) h h1 → hI h1 o 3 = hA g 76 s := fun h1 c1 => by
    rw [(ks.tr (noA.ks hst c1)).2.2.2.2.1 o (by omega)]
    exact hl.1.1.2.2.2.2.1
  obtain ⟨i', rfl, ci, hi6, hi, okj⟩ := ok.c V.1.2 hs
  rw [ci] at so
  -- frames
  have bd' : ∀ h1, Ch noA (isQ st) h h1 → BdO h1 b Wb (enO g w pi pj T s) m := fun h1 c1 => by
    obtain ⟨z, hz, ez, hu⟩ := bd
    have : b ≠ st := by rcases hb with rfl | rfl <;> omega
    refine ⟨z, hz, by rw [c1.2.2.2.2.1 b this]; exact ez, ?_⟩
    unfold onB
    rw [c1.2.2.2.2.2 _ (fun z => z), c1.2.2.2.2.2 _ (fun z => z), c1.2.2.2.2.2 _ (fun z => z)]
    exact hu
  have so' : ∀ h1 i, Ch noA (isQ st) h h1 → ShO g h w n s sh W i → ShO g h1 w n s sh W i := fun h1 i c1 q => by
    unfold ShO
    rw [c1.2.2.2.2.2 _ (fun z => z), c1.2.2.2.2.2 _ (fun z => z), c1.2.2.2.2.2 _ (fun z => z)]
    exact q
  have c1 : Ch noA (isQ st) h (stI h st 0 (nI i')) := ch_I h 0 _ rfl
  have c2 : Ch noA (isQ st) h (stI (stI h st 0 (nI i')) st 1 j) := c1.tr (ch_I _ 1 _ rfl)
  refine bX8_seat_0 S hsh hb (k_firstOf S (by omega) (by rw [f5 h (Ch.rf h)]; exact hc) ⟨S, ?_⟩)
  rw [f5 h (Ch.rf h), ei]
  refine k_secondOf (c1.sh S) (by omega) (by rw [f5 _ c1]; exact hc) ⟨c1.sh S, ?_⟩
  rw [f5 _ c1, ej]
  rw [show hI (stI (stI h st 0 (nI i')) st 1 j) st 0 = nI i' by simp [hI_st]]
  refine k_freeAt V (ks.tr (noA.ks hst c2)) hsh hb (by omega) hs hl hw hi (so' _ _ c2 so) (bd' _ c2) hm hWb (fun v3 sv3 hv3 => ⟨c2.sh S, ?_⟩)
  rw [show hI (stI (stI (stI h st 0 (nI i')) st 1 j) st 2 v3) st 1 = j by simp [hI_st]]
  have c3 : Ch noA (isQ st) h (stI (stI (stI h st 0 (nI i')) st 1 j) st 2 v3) := c2.tr (ch_I _ 2 _ rfl)
  refine ⟨fun nj => ?_, fun nj => ?_⟩
  · rcases okj with okj | ⟨hch, -, j', rfl, cj, hj6, hij, hj⟩
    · exact absurd okj.2 nj
    have so2 := so2 nj
    rw [cj] at so2
    refine k_freeAt V (ks.tr (noA.ks hst c3)) hsh hb (by omega) hs hl hw hj (so' _ _ c3 so2) (bd' _ c3) hm hWb (fun v5 sv5 hv5 => ⟨c3.sh S, ?_⟩)
    have c5 : Ch noA (isQ st) h (stI (stI (stI (stI h st 0 (nI i')) st 1 (nI j')) st 2 v3) st 3 v5) := c3.tr (ch_I _ 3 _ rfl)
    rw [show hI (stI (stI (stI (stI h st 0 (nI i')) st 1 (nI j')) st 2 v3) st 3 v5) st 2 = v3 by simp [hI_st], show hI (stI (stI (stI (stI h st 0 (nI i')) st 1 (nI j')) st 2 v3) st 3 v5) st 3 = v5 by simp [hI_st]]
    have ks5 := ks.tr (noA.ks hst c5)
    have re5 := ks5.re
    refine k_chairAlone (ks5.lv V).1 (by omega) (by rw [re5.1]; exact hs) (ks5.se V hs hl) (fun v6 sv6 hv6 => ⟨c5.sh S, ?_⟩)
    have bew : ∀ p, p < 12 → (bt (v3 &&& v5 &&& (v6 ^^^ -1)) p = true ↔ (W p ∧ frO g w n pi pj T s p i' ∧ frO g w n pi pj T s p j' ∧ ¬ hA g 76 s = nI p)) := fun p hp => by
      have q6 := hv6 p hp
      rw [re5.2 76 (by decide) (by decide)] at q6
      rw [bt_cm _ _ (by omega), Bool.and_eq_true, bt_and, Bool.and_eq_true, hv3 p hp, hv5 p hp, Bool.not_eq_true', Bool.eq_false_iff, ne_eq, q6]
      constructor
      · rintro ⟨⟨a1, a2⟩, a3⟩; exact ⟨a1.1, a1.2, a2.2, a3⟩
      · rintro ⟨a1, a2, a3, a4⟩; exact ⟨⟨⟨a1, a2⟩, a1, a3⟩, a4⟩
    have sew : sm 12 (v3 &&& v5 &&& (v6 ^^^ -1)) := sm_and (sm_and sv3)
    refine k_prefer (g := g) (w := w) (n := n) (s := s) (i := i') (j := j') (c5.sh S) hsh (by omega) (by simp [hI_st]) (by simp [hI_st]) ⟨hi6, hj6⟩ sew (fun p hp q => ?_) (fun v7 sv7 hv7 => ⟨c5.sh S, ?_⟩)
    · have q := (bew p hp).mp q
      have a1 := (so' _ _ c5 so)
      have a2 := (so' _ _ c5 so2)
      exact ⟨a1.2.2.2 p hp ((a1.2.2.1 p hp).mpr ⟨q.1, q.2.1.1⟩), a2.2.2.2 p hp ((a2.2.2.1 p hp).mpr ⟨q.1, q.2.2.1.1⟩)⟩
    · rw [show hI (stI (stI (stI (stI h st 0 (nI i')) st 1 (nI j')) st 2 v3) st 3 v5) st 2 = v3 by simp [hI_st]]
      rw [show ∀ x, hI (stI (stI (stI (stI (stI h st 0 (nI i')) st 1 (nI j')) st 2 v3) st 3 v5) st 4 x) st 3 = v5 by intro x; simp [hI_st]]
      generalize v3 &&& v5 &&& (v6 ^^^ -1) = ew at *
      refine k _ ((c5.tr (ch_I _ 4 _ rfl)).tr (ch_I _ 5 _ rfl)) ⟨⟨by simp [hI_st], by simp [hI_st]⟩, ⟨by simpa [hI_st] using sv3, fun p hp => ?_⟩, ⟨by simpa [hI_st] using sv5, fun p hp => ?_⟩, ⟨by simpa [hI_st] using sm_and sv3, fun p hp => ?_⟩, ⟨by simpa [hI_st] using sm_and sv5, fun p hp => ?_⟩⟩
      · rw [show ∀ x y, hI (stI (stI (stI (stI (stI (stI h st 0 (nI i')) st 1 (nI j')) st 2 v3) st 3 v5) st 4 x) st 5 y) st 2 = v3 by intro x y; simp [hI_st], hv3 p hp, ci]
      · rw [show ∀ x y, hI (stI (stI (stI (stI (stI (stI h st 0 (nI i')) st 1 (nI j')) st 2 v3) st 3 v5) st 4 x) st 5 y) st 3 = v5 by intro x y; simp [hI_st], hv5 p hp, cj]
        exact ⟨fun z => ⟨nj, z⟩, fun z => z.2⟩
      · rw [show ∀ x y, hI (stI (stI (stI (stI (stI (stI h st 0 (nI i')) st 1 (nI j')) st 2 v3) st 3 v5) st 4 x) st 5 y) st 4 = x by intro x y; simp [hI_st], bt_cm _ _ (by omega), Bool.and_eq_true, hv3 p hp, Bool.not_eq_true', Bool.eq_false_iff, ne_eq, hv7 p hp, bew p hp]
        show _ ↔ (W p ∧ (1 ≤ roO g s p ∨ (¬ nI j' = -1 ∧ hA g 76 s = nI p)) ∧ frO g w n pi pj T s p (nI i').toNatClampNeg ∧ ¬ (¬ nI j' = -1 ∧ ¬ hA g 76 s = nI p ∧ frO g w n pi pj T s p (nI j').toNatClampNeg ∧ prO g w n s p (nI j').toNatClampNeg < prO g w n s p (nI i').toNatClampNeg))
        rw [ci, cj]
        constructor
        · rintro ⟨⟨a1, a2⟩, a3⟩
          exact ⟨a1, (hW p hp a1).imp id (fun z => ⟨nj, z⟩), a2, fun z => a3 ⟨⟨a1, a2, z.2.2.1, z.2.1⟩, z.2.2.2⟩⟩
        · rintro ⟨a1, a2, a3, a4⟩
          exact ⟨⟨a1, a3⟩, fun z => a4 ⟨nj, z.1.2.2.2, z.1.2.2.1, z.2⟩⟩
      · rw [show ∀ x y, hI (stI (stI (stI (stI (stI (stI h st 0 (nI i')) st 1 (nI j')) st 2 v3) st 3 v5) st 4 x) st 5 y) st 5 = y by intro x y; simp [hI_st], bt_cm _ _ (by omega), Bool.and_eq_true, hv5 p hp, Bool.not_eq_true', Bool.eq_false_iff, ne_eq, bt_cm _ _ (by omega), Bool.and_eq_true, Bool.not_eq_true', Bool.eq_false_iff, ne_eq, hv7 p hp, bew p hp]
        show _ ↔ (W p ∧ ¬ nI j' = -1 ∧ (1 ≤ roO g s p ∨ hA g 76 s = nI p) ∧ frO g w n pi pj T s p (nI j').toNatClampNeg ∧ ¬ (¬ hA g 76 s = nI p ∧ frO g w n pi pj T s p (nI i').toNatClampNeg ∧ ¬ prO g w n s p (nI j').toNatClampNeg < prO g w n s p (nI i').toNatClampNeg))
        rw [ci, cj]
        constructor
        · rintro ⟨⟨a1, a2⟩, a3⟩
          exact ⟨a1, nj, hW p hp a1, a2, fun z => a3 ⟨⟨a1, z.2.1, a2, z.1⟩, fun y => z.2.2 y.2⟩⟩
        · rintro ⟨a1, -, a2, a3, a4⟩
          exact ⟨⟨a1, a3⟩, fun z => a4 ⟨z.1.2.2.2, z.1.2.1, fun y => z.2 ⟨z.1, y⟩⟩⟩
  · have hch : hA g 76 s = -1 := okj.elim (fun z => z.1) (fun z => absurd nj z.2.1)
    subst nj
    have c5 : Ch noA (isQ st) h (stI (stI (stI (stI h st 0 (nI i')) st 1 (-1)) st 2 v3) st 3 (nI 0)) := c3.tr (ch_I _ 3 _ rfl)
    rw [show hI (stI (stI (stI (stI h st 0 (nI i')) st 1 (-1)) st 2 v3) st 3 (nI 0)) st 2 = v3 by simp [hI_st], show hI (stI (stI (stI (stI h st 0 (nI i')) st 1 (-1)) st 2 v3) st 3 (nI 0)) st 3 = nI 0 by simp [hI_st]]
    have ks5 := ks.tr (noA.ks hst c5)
    have re5 := ks5.re
    refine k_chairAlone (ks5.lv V).1 (by omega) (by rw [re5.1]; exact hs) (ks5.se V hs hl) (fun v6 sv6 hv6 => ⟨c5.sh S, ?_⟩)
    have ez : v3 &&& nI 0 &&& (v6 ^^^ -1) = 0 := by
      apply bt_ext
      intro p hp
      rw [bt_and, bt_and, show bt (nI 0) p = false from bt_0 p, bt_0]
      simp
    rw [ez]
    refine k_preferNo (c5.sh S) hsh (by omega) rfl ⟨c5.sh S, ?_⟩
    rw [show hI (stI (stI (stI (stI h st 0 (nI i')) st 1 (-1)) st 2 v3) st 3 (nI 0)) st 2 = v3 by simp [hI_st]]
    rw [show ∀ x, hI (stI (stI (stI (stI (stI h st 0 (nI i')) st 1 (-1)) st 2 v3) st 3 (nI 0)) st 4 x) st 3 = nI 0 by intro x; simp [hI_st]]
    refine k _ ((c5.tr (ch_I _ 4 _ rfl)).tr (ch_I _ 5 _ rfl)) ⟨⟨by simp [hI_st], by simp [hI_st]⟩, ⟨by simpa [hI_st] using sv3, fun p hp => ?_⟩, ⟨by simpa [hI_st] using (show sm 12 (nI 0) from sm_0 12), fun p hp => ?_⟩, ⟨by simpa [hI_st] using sm_and sv3, fun p hp => ?_⟩, ⟨by simpa [hI_st] using (show sm 12 (nI 0) from sm_0 12), fun p hp => ?_⟩⟩
    · rw [show ∀ x y, hI (stI (stI (stI (stI (stI (stI h st 0 (nI i')) st 1 (-1)) st 2 v3) st 3 (nI 0)) st 4 x) st 5 y) st 2 = v3 by intro x y; simp [hI_st], hv3 p hp, ci]
    · rw [show ∀ x y, hI (stI (stI (stI (stI (stI (stI h st 0 (nI i')) st 1 (-1)) st 2 v3) st 3 (nI 0)) st 4 x) st 5 y) st 3 = nI 0 by intro x y; simp [hI_st], show bt (nI 0) p = false from bt_0 p]
      exact ⟨fun z => (by cases z), fun z => absurd rfl z.1⟩
    · rw [show ∀ x y, hI (stI (stI (stI (stI (stI (stI h st 0 (nI i')) st 1 (-1)) st 2 v3) st 3 (nI 0)) st 4 x) st 5 y) st 4 = x by intro x y; simp [hI_st], bt_cm _ _ (by omega), show bt (nI 0) p = false from bt_0 p, Bool.not_false, Bool.and_true, hv3 p hp]
      show _ ↔ (W p ∧ (1 ≤ roO g s p ∨ _) ∧ frO g w n pi pj T s p (nI i').toNatClampNeg ∧ ¬ (¬ (-1 : Int32) = -1 ∧ _))
      rw [ci]
      refine ⟨fun z => ⟨z.1, Or.inl ((hW p hp z.1).resolve_right (fun y => ?_)), z.2, fun y => y.1 rfl⟩, fun z => ⟨z.1, z.2.2.1⟩⟩
      rw [hch] at y
      exact nI_m1 (by omega) y.symm
    · rw [show ∀ x y, hI (stI (stI (stI (stI (stI (stI h st 0 (nI i')) st 1 (-1)) st 2 v3) st 3 (nI 0)) st 4 x) st 5 y) st 5 = y by intro x y; simp [hI_st], bt_and, show bt (nI 0) p = false from bt_0 p, Bool.false_and]
      exact ⟨fun z => (by cases z), fun z => absurd rfl z.2.1⟩
