/-! ===== the class: Mover.search ===== -/
theorem ShF.w {g : aH} {w n s i : Nat} {W W' : Nat → Prop} {f1 f2 f3 : Nat → Int32} (q : ShF g w n s W i f1 f2 f3) (e : ∀ p, p < 12 → (W p ↔ W' p)) : ShF g w n s W' i f1 f2 f3 := ⟨q.1, q.2.1, fun p hp => by rw [q.2.2.1 p hp, e p hp], q.2.2.2⟩
section
variable (g h : aH) (w n ns np : Nat)
def MkC : Prop := KS g h ∧ hI h 39 9 = nI (mvQ g w ns) ∧ hI h 39 10 = nI np ∧ ∀ r, r < ns → ¬ pI g w r = -1 → hQ h 48 (mvQ g w r) = hQ g 3 r ∧ hQ h 49 (mvQ g w r) = some (0, 10, 5 + 4 * r) ∧ (∀ o, SeAt g r o → hA h 51 (mvQ g w r) = hA g (o + 3) w) ∧ ∀ i : Nat, (i : Int) < (hA g 77 r).toInt → ShO g h w n r (5 + 4 * r) (evO g r) i
def MkT (v : Nat → Nat) (r : Nat) (B : Option (Nat → Nat)) : Prop := BdO h 43 (fun _ => True) (enO g w (mvI g w v) (mvJ g w v) (tbO g w n (mvI g w v) (mvJ g w v) r) r) (2 * r) ∧ EdO g h w 43 (mvI g w v) (mvJ g w v) r ∧ (∀ c, c < 4 → pI g w c = -1 → (hA h 47 c).toInt = 0) ∧ (∀ p, p < np → (hA h 54 p).toInt = mvS g w n v p r) ∧ (∀ x, x < r → ¬ pI g w x = -1 → hA h 52 (mvQ g w x) = nI (v x)) ∧ EvR h 40 np (B.map (mvU g w n ns)) ∧ ∀ u, B = some u → ∀ x, x < ns → ¬ pI g w x = -1 → hA h 53 (mvQ g w x) = nI (u x)
end
abbrev msA : Nat → Prop := fun a => a = 41 ∨ a = 42 ∨ a = 44 ∨ a = 45 ∨ a = 46 ∨ a = 47 ∨ a = 52 ∨ a = 53 ∨ a = 54
abbrev msO (k : Nat) : Nat → Prop := fun q => q = 40 ∨ q = 43 ∨ (55 + k ≤ q ∧ q ≤ 58)
/-- what a search leaves: the board as it was -/
def MkF (k : Nat) (h h1 : aH) : Prop := Ch msA (msO k) h h1 ∧ hI h1 43 4 = hI h 43 4 ∧ BdP h h1 43
theorem MkF.rf (k : Nat) (h : aH) : MkF k h h := ⟨Ch.rf h, rfl, fun _ _ _ _ _ => ⟨rfl, rfl, rfl⟩⟩
theorem MkF.tr {k : Nat} {a b c : aH} (h1 : MkF k a b) (h2 : MkF k b c) : MkF k a c := ⟨h1.1.tr h2.1, h2.2.1.trans h1.2.1, fun z y hz e hy => by
  obtain ⟨u1, u2, u3⟩ := h1.2.2 z y hz e hy
  obtain ⟨t1, t2, t3⟩ := h2.2.2 z y hz (h1.2.1.trans e) hy
  exact ⟨t1.trans u1, t2.trans u2, t3.trans u3⟩⟩
/-- a change that leaves the board alone -/
theorem MkF.of {k : Nat} {A O : Nat → Prop} {h h1 : aH} (c : Ch A O h h1) (hA' : ∀ a, A a → a = 41 ∨ a = 42 ∨ a = 52 ∨ a = 53 ∨ a = 54) (hO' : ∀ q, O q → q = 40 ∨ (55 + k ≤ q ∧ q ≤ 58)) : MkF k h h1 := by
  have na : ∀ a, a = 44 ∨ a = 45 ∨ a = 46 → hA h1 a = hA h a := fun a ha => c.2.2.2.2.2 a (fun z => by have := hA' a z; omega)
  refine ⟨c.mono (fun a ha => by have := hA' a ha; unfold msA; omega) (fun q hq => by have := hO' q hq; unfold msO; omega), ?_, fun z y _ _ _ => ?_⟩
  · rw [c.2.2.2.2.1 43 (fun z => by have := hO' 43 z; omega)]
  · rw [na (43 + 1) (by omega), na (43 + 2) (by omega), na (43 + 3) (by omega)]; exact ⟨rfl, rfl, rfl⟩
theorem MkF.ks {k : Nat} {h h1 : aH} (f : MkF k h h1) : KS h h1 := f.1.ks (fun a ha => by unfold msA at ha; omega) (fun q hq => by unfold msO at hq; omega)
theorem MkC.fr {g h h1 : aH} {w n ns np k : Nat} (c : MkC g h w n ns np) (f : MkF k h h1) (hns : ns ≤ 4) : MkC g h1 w n ns np := by
  obtain ⟨c1, c2, c3, c4⟩ := c
  refine ⟨c1.tr f.ks, by rw [f.1.2.2.2.2.1 39 (by unfold msO; omega)]; exact c2, by rw [f.1.2.2.2.2.1 39 (by unfold msO; omega)]; exact c3, fun r hr hp => ?_⟩
  obtain ⟨d1, d2, d3, d4⟩ := c4 r hr hp
  rw [f.1.2.1, f.1.2.2.2.2.2 51 (by unfold msA; omega)]
  exact ⟨d1, d2, d3, fun i hi => ShF.ch f.1 (by unfold msA; omega) (by unfold msA; omega) (by unfold msA; omega) (d4 i hi)⟩
/-- dynamic state, when board and rest are as they were -/
theorem MkT.rest {g h h1 : aH} {w n ns np r : Nat} {v : Nat → Nat} {B : Option (Nat → Nat)} (t : MkT g h w n ns np v r B) (i43 : hI h1 43 = hI h 43) (i40 : hI h1 40 = hI h 40) (ha : ∀ a, a = 41 ∨ a = 44 ∨ a = 45 ∨ a = 46 ∨ a = 47 ∨ a = 52 ∨ a = 53 ∨ a = 54 → hA h1 a = hA h a) : MkT g h1 w n ns np v r B := by
  obtain ⟨t1, t2, t3, t4, t5, t6, t7⟩ := t
  have e44 := ha 44 (by omega); have e45 := ha 45 (by omega); have e46 := ha 46 (by omega); have e47 := ha 47 (by omega); have e52 := ha 52 (by omega); have e53 := ha 53 (by omega); have e54 := ha 54 (by omega); have e41 := ha 41 (by omega)
  refine ⟨?_, ?_, by rw [e47]; exact t3, by rw [e54]; exact t4, by rw [e52]; exact t5, ?_, by rw [e53]; exact t7⟩
  · unfold BdO onB
    rw [i43, show hA h1 (43 + 1) = hA h (43 + 1) from e44, show hA h1 (43 + 2) = hA h (43 + 2) from e45, show hA h1 (43 + 3) = hA h (43 + 3) from e46]
    exact t1
  · unfold EdO
    rw [show hA h1 (43 + 4) = hA h (43 + 4) from e47]; exact t2
  · unfold EvR
    rw [i40, show hA h1 (40 + 1) = hA h (40 + 1) from e41]; exact t6
theorem mvP0 {g : aH} {w n r p : Nat} {v : Nat → Nat} (c : pI g w r = -1) : mvP g w n v r p = nI 0 := by
  have : mvI g w v r = -1 := by unfold mvI; rw [if_pos c]
  unfold mvP
  rw [pc00 (fun t => tbI t this) (fun t => tbI t this)]
  decide
theorem en_skip {g : aH} {w n r p : Nat} {v : Nat → Nat} {a b : Int} (c : pI g w r = -1) : enO g w (mvI g w v) (mvJ g w v) (tbO g w n (mvI g w v) (mvJ g w v) (r + 1)) (r + 1) p a b ↔ enO g w (mvI g w v) (mvJ g w v) (tbO g w n (mvI g w v) (mvJ g w v) r) r p a b := by
  have m1 : mvI g w v r = -1 := by unfold mvI; rw [if_pos c]
  constructor
  · rintro ⟨x, hx, q⟩
    by_cases e : x = r
    · subst e
      rcases q with q | q
      · exact absurd m1 (tbI q.1)
      · exact absurd m1 (tbI q.1)
    · refine ⟨x, by omega, ?_⟩
      rw [tbO_st (r + 1) (by omega), ← tbO_st r (by omega)] at q
      exact q
  · rintro ⟨x, hx, q⟩
    refine ⟨x, by omega, ?_⟩
    rw [tbO_st (r + 1) (by omega), ← tbO_st r hx]
    exact q
/-- charge: the prices of series r are put to the sums, or taken away -/
theorem k_mcharge {l : Launch} {E : eE} {d bc bs : Nat} {h : aH} {K : aH → Prop} {g : aH} {w n ns np r : Nat} {v : Nat → Nat} {sg : Int32} (V : LW g) (C : MkC g h w n ns np) (hns : (ns : Int) = (hI g 63 14).toInt) (hnp : (np : Int) = (hI g 63 3).toInt) (hr : r < ns) (pl : ¬ pI g w r = -1) (hq : mvQ g w r < 4) (ok : okP g r (mvI g w v r) (mvJ g w v r)) (st : StO g h w n r (55 + mvQ g w r) (evO g r) (mvF g w n v r) (mvI g w v r) (mvJ g w v r)) (hd : 2 ≤ d) (k : ∀ h1, Ch (isA 54) noO h h1 → (∀ p, p < np → hA h1 54 p = hA h 54 p + sg * mvP g w n v r p) → K h1) : CV l E d bc bs mX5_charge [.inr (some (0, 5, 39)), .inl (nI (mvQ g w r)), .inl sg] h K := by
  obtain ⟨d, rfl⟩ : ∃ d', d = d' + 1 := ⟨d - 1, by omega⟩
  have hN := V.1.2.1
  unfold RIn at hN
  obtain ⟨ks, e9, e10, cc⟩ := C
  obtain ⟨-, q49, -, so⟩ := cc r hr pl
  have S := (ks.lv V).1.1
  have hsh := isSh_at (s := r) (by omega)
  have hrn : (r : Int) < (hI g 63 14).toInt := by omega
  obtain ⟨i', a1, a2, a3, a4, a5⟩ := ok.c V.1.2 hrn
  have lp : ∀ (b p : Nat) (h1 : aH), p + b = np → Ch (isA 54) noO h h1 → (∀ q, q < 12 → hA h1 54 q = if q < p then hA h 54 q + sg * mvP g w n v r q else hA h 54 q) → LX5_charge_2 l E (d + 1) bc bs (nI (mvQ g w r)) sg (nI p) h1 K := by
    intro b
    induction b with
    | zero =>
      intro p h1 hp c q1
      have hp : p = np := by omega
      subst hp
      refine bX5_charge_2 (c.sh S) ⟨fun _ => k h1 c (fun q hq => by rw [q1 q (by omega), if_pos hq]), fun z => absurd ?_ z⟩
      rw [c.2.2.2.2.1 39 (fun z => z), e10]; exact nI_le (Nat.le_refl p) (by omega)
    | succ b ih =>
      intro p h1 hp c q1
      have S1 := c.sh S
      have so1 : ∀ i : Nat, (i : Int) < (hA g 77 r).toInt → ShO g h1 w n r (5 + 4 * r) (evO g r) i := fun i hi => ShF.ch c (by show ¬ 5 + 4 * r + 1 = 54; omega) (by show ¬ 5 + 4 * r + 2 = 54; omega) (by show ¬ 5 + 4 * r + 3 = 54; omega) (so i hi)
      have st1 := StO.ch c (fun z => z) st
      refine bX5_charge_2 S1 ⟨fun z => absurd z ?_, fun _ => ⟨vp_in_nI (by omega) (by omega), vp_in_nI (by omega) (by omega), 55 + mvQ g w r, ?_, 5 + 4 * r, ?_, hsh, ?_⟩⟩
      · rw [c.2.2.2.2.1 39 (fun z => z), e10]; exact nI_ge (by omega) (by omega)
      · rw [nI_clamp (n := mvQ g w r) (by omega)]; exact S1.2.2 _ hq
      · rw [nI_clamp (n := mvQ g w r) (by omega), c.2.1]; exact q49
      · refine k_priceFor S1 V.1.2 hrn hsh (by omega) (by omega) ok (fun q x y => y.1) (by rw [a2]; exact so1 i' a4) (fun nj => ?_) st1 ⟨S1, ?_⟩
        · rcases a5 with a5 | ⟨-, -, j', b1, b2, b3, b4, b5⟩
          · exact absurd a5.2 nj
          · rw [b2]; exact so1 j' b5
        · have ni : ¬ mvI g w v r = -1 := by rw [a1]; exact nI_m1 (by omega)
          have eq : ∀ b, b < 2 → (evO g r p ∧ coF g w n r (mvF g w n v r) p (mvI g w v r) (mvJ g w v r) b) = tbO g w n (mvI g w v) (mvJ g w v) (r + 1) r p b := fun b hb => propext (by
            rw [tbO_in (Nat.lt_succ_self r)]
            exact ⟨fun z => ⟨ni, by omega, hb, z.2⟩, fun z => ⟨co_ev z.2.2.2, z.2.2.2⟩⟩)
          rw [eq 0 (by decide), eq 1 (by decide), nI_clamp (n := p) (by omega), nI_add p 1, q1 p (by omega), if_neg (Nat.lt_irrefl p)]
          refine ih (p + 1) _ (by omega) (c.tr (ch_A (A := isA 54) (O := noO) h1 p _ rfl)) (fun q hq => ?_)
          rw [hA_st]
          by_cases y : q = p
          · subst y; rw [if_pos ⟨rfl, rfl⟩, if_pos (Nat.lt_succ_self q)]; rfl
          · rw [if_neg (fun z => y z.2), q1 q hq]
            by_cases y2 : q < p
            · rw [if_pos y2, if_pos (by omega)]
            · rw [if_neg y2, if_neg (by omega)]
  exact bX5_charge_0 S (lp np 0 h (by omega) (Ch.rf h) (fun q _ => by rw [if_neg (Nat.not_lt_zero q)]))
/-- the choice is the one that was planned -/
theorem same_c {g : aH} (S : RI g) {r c : Nat} {w : Nat} {c0 : Int32} (hr : (r : Int) < (hI g 63 14).toInt) (hc : c < 15) (co : okC (hA g 76 r) (nI c)) (ok0 : okC (hA g 76 r) c0) (e1 : fO (hA g 76 r) c0 = pI g w r) (e2 : sO (hA g 76 r) c0 = pJ g w r) : (fO (hA g 76 r) (nI c) = pI g w r ∧ sO (hA g 76 r) (nI c) = pJ g w r) ↔ nI c = c0 := by
  rw [← e1, ← e2]
  constructor
  · intro q
    unfold okC at ok0
    unfold fO sO at q
    by_cases ch : hA g 76 r = -1
    · rw [if_pos ch, if_pos ch] at q; exact q.1
    · rw [if_neg ch] at ok0
      rw [if_neg ch, if_neg ch, if_neg ch, if_neg ch, nI_clamp (by omega)] at q
      have c0n := i32_nn ok0.1
      have c0c := i32_clamp ok0.1
      have tt : ∀ a, a < 15 → ∀ b, b < 15 → tb1.getD a 0 = tb1.getD b 0 → tb2.getD a 0 = tb2.getD b 0 → a = b := by decide
      have := tt c hc c0.toNatClampNeg (by omega) q.1 q.2
      rw [c0n, ← this]
  · intro q
    rw [q]; exact ⟨rfl, rfl⟩
