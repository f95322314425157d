/-! ===== the class: fits, comes, sum ===== -/
section
variable {A O : Nat → Prop} {g h h1 : aH} {w n s b sh st : Nat} {pi pj : Nat → Int32} {W Wb : Nat → Prop} {U : Nat → Int → Int → Prop} {m : Nat}
theorem BdO.ch (c : Ch A O h h1) (a1 : ¬ A (b + 1)) (a2 : ¬ A (b + 2)) (a3 : ¬ A (b + 3)) (o1 : ¬ O b) (q : BdO h b Wb U m) : BdO h1 b Wb U m := by
  obtain ⟨z, hz, ez, hu⟩ := q
  refine ⟨z, hz, by rw [c.2.2.2.2.1 b o1]; exact ez, ?_⟩
  unfold onB
  rw [c.2.2.2.2.2 _ a1, c.2.2.2.2.2 _ a2, c.2.2.2.2.2 _ a3]
  exact hu
theorem EdO.ch (c : Ch A O h h1) (a1 : ¬ A (b + 4)) (q : EdO g h w b pi pj s) : EdO g h1 w b pi pj s := by
  unfold EdO
  rw [c.2.2.2.2.2 _ a1]
  exact q
theorem EdZ.ch (c : Ch A O h h1) (a1 : ¬ A (b + 4)) (q : EdZ h b s) : EdZ h1 b s := by
  unfold EdZ
  rw [c.2.2.2.2.2 _ a1]
  exact q
theorem ShF.ch {i : Nat} (c : Ch A O h h1) (a1 : ¬ A (sh + 1)) (a2 : ¬ A (sh + 2)) (a3 : ¬ A (sh + 3)) (q : ShO g h w n s sh W i) : ShO g h1 w n s sh W i := by
  unfold ShO
  rw [c.2.2.2.2.2 _ a1, c.2.2.2.2.2 _ a2, c.2.2.2.2.2 _ a3]
  exact q
theorem StO.ch {F : Nat → Nat → Prop} {i j : Int32} (c : Ch A O h h1) (o1 : ¬ O st) (q : StO g h w n s st W F i j) : StO g h1 w n s st W F i j := by
  unfold StO
  rw [c.2.2.2.2.1 st o1]
  exact q
end
theorem k_optionsOf {l : Launch} {E : eE} {d bc bs : Nat} {h : aH} {K : Int32 → aH → Prop} {o : Nat} {c i j : Int32} (S : SH h) (hd : 2 ≤ d) (hc : okC (hI h o 3) c) (ei : fO (hI h o 3) c = i) (ej : sO (hI h o 3) c = j) (hi : ∃ i' : Nat, i = nI i' ∧ i' < 6) (hj : j = -1 ∨ ∃ j' : Nat, j = nI j' ∧ j' < 6) (k : ∀ v, bt v i.toNatClampNeg = true → (¬ j = -1 → bt v j.toNatClampNeg = true) → K v h) : CI l E d bc bs mX9_optionsOf [.inr (some (0, 9, o)), .inl c] h K := by
  obtain ⟨d, rfl⟩ : ∃ d', d = d' + 1 := ⟨d - 1, by omega⟩
  obtain ⟨i', e1, h1⟩ := hi
  refine bX9_optionsOf_0 S (k_isSplit S ⟨S, fun z => ?_, fun z => ?_⟩)
  · have e : hI h o 3 = -1 := Decidable.byContradiction fun q => by rw [if_neg q] at z; exact absurd z (by decide)
    unfold fO at ei
    unfold sO at ej
    rw [if_pos e] at ei ej
    rw [ei, e1]
    rw [e1] at k
    refine k _ ?_ (fun q => absurd ej.symm q)
    rw [nI_clamp (by omega), bt_pow (by omega) (by omega)]
    simp
  · have e : ¬ hI h o 3 = -1 := fun q => by rw [if_pos q] at z; exact z rfl
    have nj : ¬ j = -1 := by
      rw [← ej]
      unfold sO
      unfold okC at hc
      rw [if_neg e] at hc ⊢
      have tt : ∀ n, n < 15 → ¬ tb2.getD n 0 = -1 := by decide
      exact tt _ (by have := i32_clamp hc.1; omega)
    obtain ⟨j', e2, h2⟩ := hj.resolve_left nj
    refine k_firstOf S (by omega) hc ⟨S, k_secondOf S (by omega) hc ⟨S, ?_⟩⟩
    rw [ei, ej]
    rw [e1, e2] at k ⊢
    refine k _ ?_ (fun _ => ?_)
    · rw [nI_clamp (by omega), bt_or, bt_pow (by omega) (by omega)]
      simp
    · rw [nI_clamp (by omega), bt_or, bt_pow (q := j') (by omega) (by omega)]
      simp
theorem shId {h : aH} (S : SH h) {s : Nat} (hs : s < 4) : hQ h 4 s = some (0, 10, 5 + 4 * s) := S.2.1 s hs
theorem isSh_at {s : Nat} (hs : s < 4) : isSh (5 + 4 * s) := by unfold isSh; omega
theorem scr26 : scr 26 := by decide
theorem bd21 : isBd 21 := Or.inl rfl
theorem RPl.in {g : aH} (S : RI g) {s w : Nat} (hs : s < 4) (hw : w < 52) (c : ¬ pI g w s = -1) : okP g s (pI g w s) (pJ g w s) ∧ inO g w s (pI g w s).toNatClampNeg ∧ (¬ pJ g w s = -1 → inO g w s (pJ g w s).toNatClampNeg) := by
  refine ⟨(okN_pl S hs hw).resolve_left (fun z => c z.1), ?_⟩
  rcases RPl.at S hs hw with p | ⟨p0, i, p1, p2, p3, p4⟩
  · exact absurd p.1 c
  · have h6 := op6 S p0
    refine ⟨?_, fun nj => ?_⟩
    · show inO g w s (plI g s w).toNatClampNeg
      rw [p1, nI_clamp (by omega)]
      unfold inO stO lnO; omega
    · rcases p4 with p4 | ⟨p5, j, p6, p7, p8, p9⟩
      · exact absurd p4.2 nj
      · show inO g w s (plJ g s w).toNatClampNeg
        rw [p8, nI_clamp (by omega)]
        unfold inO stO lnO; omega
/-- how the board stands before series s -/
def BdS (g h : aH) (w n : Nat) (Wb : Nat → Prop) (s : Nat) : Prop := KS g h ∧ BdO h 21 Wb (enO g w (pI g w) (pJ g w) (tbO g w n (pI g w) (pJ g w) s) s) (2 * s) ∧ EdO g h w 21 (pI g w) (pJ g w) s ∧ EdZ h 21 s
/-- what seat leaves of series s -/
def SeL (g h : aH) (w n s : Nat) (who : Int32) : Prop := ∃ W : Nat → Prop, (∀ p, p < 12 → (W p ↔ (bt who p = true ∧ evO g s p))) ∧ ShO g h w n s (5 + 4 * s) W (pI g w s).toNatClampNeg ∧ (¬ pJ g w s = -1 → ShO g h w n s (5 + 4 * s) W (pJ g w s).toNatClampNeg) ∧ StO g h w n s 26 W (frP g w n (pI g w) (pJ g w) s) (pI g w s) (pJ g w s)
/-- what planner and mover have is left alone -/
def SfF (h h1 : aH) : Prop := hI h1 27 = hI h 27 ∧ hI h1 28 = hI h 28 ∧ (∀ q, 27 ≤ q → hA h1 q = hA h q) ∧ (∀ q, 27 ≤ q → hI h1 q = hI h q) ∧ hQ h1 = hQ h
theorem SfF.rf (h : aH) : SfF h h := ⟨rfl, rfl, fun _ _ => rfl, fun _ _ => rfl, rfl⟩
theorem SfF.tr {a b c : aH} (h1 : SfF a b) (h2 : SfF b c) : SfF a c := ⟨h2.1.trans h1.1, h2.2.1.trans h1.2.1, fun q hq => (h2.2.2.1 q hq).trans (h1.2.2.1 q hq), fun q hq => (h2.2.2.2.1 q hq).trans (h1.2.2.2.1 q hq), h2.2.2.2.2.trans h1.2.2.2.2⟩
theorem Ch.sf {A O : Nat → Prop} {h h1 : aH} (c : Ch A O h h1) (hA' : ∀ a, A a → a < 27) (hO' : ∀ q, O q → q < 27) : SfF h h1 := ⟨c.2.2.2.2.1 27 (fun z => by have := hO' _ z; omega), c.2.2.2.2.1 28 (fun z => by have := hO' _ z; omega), fun q hq => c.2.2.2.2.2 q (fun z => by have := hA' _ z; omega), fun q hq => c.2.2.2.2.1 q (fun z => by have := hO' _ z; omega), c.2.1⟩
theorem k_seatF {l : Launch} {E : eE} {d bc bs : Nat} {h : aH} {K : Int32 → aH → Prop} {g : aH} {w n s : Nat} {who : Int32} {Wb : Nat → Prop} (V : LW g) (hd : 6 ≤ d) (hs : (s : Int) < (hI g 63 14).toInt) (hw : w < 52) (hn : (n : Int) ≤ (hI g 63 8).toInt) (B : BdS g h w n Wb s) (hWb : ∀ p, p < 12 → (Wb p ↔ bt who p = true)) (k0 : pI g w s = -1 → ∀ h1, SfF h h1 → BdS g h1 w n Wb (s + 1) → K (nI 0) h1) (k1 : ¬ pI g w s = -1 → ∀ h1, SfF h h1 → BdS g h1 w n Wb (s + 1) → SeL g h1 w n s who → K (nI 1) h1) : CI l E d bc bs mX11_seat [.inr (some (0, 11, 0)), .inl (nI s), .inl (nI w), .inl (nI n), .inl who] h K := by
  obtain ⟨d, rfl⟩ : ∃ d', d = d' + 1 := ⟨d - 1, by omega⟩
  have hN := V.1.2.1
  unfold RIn at hN
  obtain ⟨ks, bd, ed, ez⟩ := B
  have V1 := ks.lv V
  have S := V1.1.1
  obtain ⟨o, hl⟩ := V.2.1.2.1 s hs
  have ho := SeAt.o hl
  have f5 : hI h o 3 = hA g 76 s := by rw [ks.2.2.2.2.1 o (by omega)]; exact hl.1.1.2.2.2.2.1
  obtain ⟨g1, g2, g3⟩ := (hl.1.2.2.2.1 w hw).ok
  refine bX11_seat_0 S ⟨vp_in_nI (by omega) (by omega), o, ?_, o + 3, ?_, vp_in_nI (by omega) (by omega), ?_⟩
  · rw [nI_clamp (by omega), ks.2.1 3 (by decide) (by decide)]; exact hl.1.1.1
  · rw [ks.1]; exact hl.1.1.2.2.2.2.2.2.2.2
  rw [nI_clamp (n := w) (by omega), nI_clamp (n := s) (by omega), ks.2.2.2.2.2 (o + 3) (by omega)]
  refine ⟨fun c => ?_, fun c => ?_⟩
  · obtain ⟨o1, o2, o3⟩ := g3 c
    have ni : ¬ pI g w s = -1 := fun z => c (g1.mpr z)
    obtain ⟨ok, ini, inj⟩ := RPl.in V.1.2 (s := s) (by omega) hw ni
    have okk := ok.c V.1.2 hs
    have hsh := isSh_at (s := s) (by omega)
    refine ⟨5 + 4 * s, shId S (by omega), hsh, k_optionsOf (i := pI g w s) (j := pJ g w s) S (by omega) (by rw [f5]; exact o1) (by rw [f5]; exact o2) (by rw [f5]; exact o3) ?_ ?_ (fun v8 b1 b2 => ⟨S, k_everyone V1.1 (by omega) (by rw [ks.re.1]; exact hs) (ks.se V hs hl) (fun v9 sv9 hv9 => ⟨S, ?_⟩)⟩)⟩
    · obtain ⟨i', a1, -, a3, -⟩ := okk; exact ⟨i', a1, a3⟩
    · obtain ⟨i', -, -, -, -, a⟩ := okk
      exact a.imp (fun z => z.2) (fun z => ⟨z.2.2.choose, z.2.2.choose_spec.1, z.2.2.choose_spec.2.2.1⟩)
    rw [ks.re.2 79 (by decide) (by decide), ks.re.2 76 (by decide) (by decide)] at hv9
    have hWw : ∀ p, p < 12 → (bt (who &&& v9) p = true ↔ (bt who p = true ∧ evO g s p)) := fun p hp => by
      rw [bt_and, Bool.and_eq_true, hv9 p hp]
    have hlt : ∀ p, bt (who &&& v9) p = true → (p : Int) < (hI g 63 3).toInt := fun p q => by
      have hp : p < 12 := Decidable.byContradiction fun y => by
        rw [bt_and, sv9 p (by omega), Bool.and_false] at q; cases q
      exact ev_lt V.1.2 hs hp ((hWw p hp).mp q).2
    refine k_fill V ks hsh hs hl hw hn hlt (by omega) (fun h10 c10 so10 => ⟨c10.sh S, 5 + 4 * s, shId (c10.sh S) (by omega), hsh, ?_⟩)
    have ks10 := ks.tr (shA.ks hsh c10)
    have hr := hsh.rng
    have soI : ShO g h10 w n s (5 + 4 * s) (fun p => bt (who &&& v9) p = true) (pI g w s).toNatClampNeg := by
      obtain ⟨i', a1, a2, a3, a4, -⟩ := okk
      exact so10 _ (by rw [a2]; exact a4) b1
    have soJ : ¬ pJ g w s = -1 → ShO g h10 w n s (5 + 4 * s) (fun p => bt (who &&& v9) p = true) (pJ g w s).toNatClampNeg := fun nj => by
      obtain ⟨i', -, -, -, -, a⟩ := okk
      rcases a with a | ⟨-, -, j', a1, a2, a3, a4, a5⟩
      · exact absurd a.2 nj
      · exact so10 _ (by rw [a2]; exact a5) (b2 nj)
    have bd10 := bd.ch c10 (by unfold shA; omega) (by unfold shA; omega) (by unfold shA; omega) (fun z => z)
    have ed10 := EdO.ch c10 (show ¬ shA (5 + 4 * s) (21 + 4) by unfold shA; omega) ed
    have ez10 := EdZ.ch c10 (show ¬ shA (5 + 4 * s) (21 + 4) by unfold shA; omega) ez
    have sub : ∀ p, bt (who &&& v9) p = true → Wb p := fun p q => by
      have hp : p < 12 := by have := hlt p q; omega
      exact (hWb p hp).mpr ((hWw p hp).mp q).1
    refine k_seat V ks10 hsh bd21 scr26 (by omega) hs hl hw o1 o2 o3 ok soI soJ bd10 (by omega) sub (fun p hp q => ((hWw p hp).mp q).2) (fun h13 c13 st13 => ⟨(c10.sh S |> c13.sh), 5 + 4 * s, shId (c13.sh (c10.sh S)) (by omega), hsh, ?_⟩)
    have ks13 := ks10.tr (noA.ks scr26 c13)
    have soI3 := ShF.ch c13 (fun z => z) (fun z => z) (fun z => z) soI
    have soJ3 := fun nj => ShF.ch c13 (fun z => z) (fun z => z) (fun z => z) (soJ nj)
    have bd13 := bd10.ch c13 (fun z => z) (fun z => z) (fun z => z) (by decide)
    have ed13 := EdO.ch c13 (fun z => z) ed10
    have ez13 := EdZ.ch c13 (fun z => z) ez10
    refine k_put V ks13 hsh bd21 scr26 (by omega) hs hl hw rfl rfl ok ini inj soI3 soJ3 bd13 ed13 (fun p hp q1 q2 => (hWw p hp).mpr ⟨(hWb p hp).mp q2, q1⟩) st13 (fun h16 c16 b16 e16 f16 _ => ⟨c16.sh (c13.sh (c10.sh S)), k1 ni h16 (((c10.sf (fun a ha => by unfold shA at ha; omega) (fun _ z => z.elim)).tr (c13.sf (fun _ z => z.elim) (fun q z => by have : q = 26 := z; omega))).tr (c16.sf (fun a ha => by unfold bdA at ha; omega) (fun q z => by have : q = 21 := z; omega))) ⟨ks13.tr (bdA.ks bd21 c16), b16, e16, fun c h1 h2 => by rw [f16 c (by omega)]; exact ez13 c (by omega) h2⟩ ⟨_, hWw, ?_, fun nj => ?_, ?_⟩⟩)
    · exact ShF.ch c16 (by unfold bdA; omega) (by unfold bdA; omega) (by unfold bdA; omega) soI3
    · exact ShF.ch c16 (by unfold bdA; omega) (by unfold bdA; omega) (by unfold bdA; omega) (soJ3 nj)
    · exact StO.ch c16 (by decide) st13
  · have ni : pI g w s = -1 := g1.mp c
    refine k0 ni h (SfF.rf h) ⟨ks, ?_, fun c hc => ?_, fun c h1 h2 => ez c (by omega) h2⟩
    · obtain ⟨z, hz, e, hu⟩ := bd
      refine ⟨z, by omega, e, fun p hp hWp a c => ?_⟩
      rw [hu p hp hWp a c]
      constructor
      · rintro ⟨r, hr, q⟩
        refine ⟨r, by omega, ?_⟩
        rw [tbO_st (s + 1) (by omega), ← tbO_st s hr]
        exact q
      · rintro ⟨r, hr, q⟩
        by_cases e : r = s
        · subst e
          rcases q with q | q
          · exact absurd ni (tbI q.1)
          · exact absurd ni (tbI q.1)
        · refine ⟨r, by omega, ?_⟩
          rw [tbO_st (s + 1) (by omega), ← tbO_st s (by omega)] at q
          exact q
    · by_cases e : c = s
      · subst e
        rw [ez c (Nat.le_refl c) (by omega)]
        unfold edO
        rw [if_pos ni]
      · exact ed c (by omega)
theorem k_seatP {l : Launch} {E : eE} {d bc bs : Nat} {h : aH} {K : Int32 → aH → Prop} {g : aH} {w n s : Nat} {who : Int32} {Wb : Nat → Prop} (V : LW g) (hd : 6 ≤ d) (hs : (s : Int) < (hI g 63 14).toInt) (hw : w < 52) (hn : (n : Int) ≤ (hI g 63 8).toInt) (B : BdS g h w n Wb s) (hWb : ∀ p, p < 12 → (Wb p ↔ bt who p = true)) (k0 : pI g w s = -1 → ∀ h1, BdS g h1 w n Wb (s + 1) → K (nI 0) h1) (k1 : ¬ pI g w s = -1 → ∀ h1, BdS g h1 w n Wb (s + 1) → SeL g h1 w n s who → K (nI 1) h1) : CI l E d bc bs mX11_seat [.inr (some (0, 11, 0)), .inl (nI s), .inl (nI w), .inl (nI n), .inl who] h K :=
  k_seatF V hd hs hw hn B hWb (fun c h1 _ B1 => k0 c h1 B1) (fun c h1 _ B1 L => k1 c h1 B1 L)
/-- all before series s are seated -/
theorem k_lesserF {l : Launch} {E : eE} {d bc bs : Nat} {h : aH} {K : aH → Prop} {g : aH} {w n s o : Nat} (V : LW g) (ks : KS g h) (hd : 7 ≤ d) (hs : (s : Int) < (hI g 63 14).toInt) (hl : SeAt g s o) (hw : w < 52) (hn : (n : Int) ≤ (hI g 63 8).toInt) (k : ∀ h1, SfF h h1 → BdS g h1 w n (evO g s) s → K h1) : CV l E d bc bs mX11_seatLesser [.inr (some (0, 11, 0)), .inr (some (0, 9, o)), .inl (nI w), .inl (nI n)] h K := by
  obtain ⟨d, rfl⟩ : ∃ d', d = d' + 1 := ⟨d - 1, by omega⟩
  have hN := V.1.2.1
  unfold RIn at hN
  have ho := hl.o
  have S := (ks.lv V).1.1
  have lp : ∀ (j r : Nat) (h1 : aH), r + j = s → SfF h h1 → BdS g h1 w n (evO g s) r → LX11_seatLesser_10 l E (d + 1) bc bs o (nI w) (nI n) (nI r) h1 K := by
    intro j
    induction j with
    | zero =>
      intro r h1 hr F B
      have hr : r = s := by omega
      subst hr
      have V1 := B.1.lv V
      refine bX11_seatLesser_10 V1.1.1 ⟨fun _ => k h1 F B, fun c => absurd ?_ c⟩
      rw [B.1.2.2.2.2.1 o (by omega), hl.1.1.2.1]
      exact nI_le (Nat.le_refl r) (by omega)
    | succ j ih =>
      intro r h1 hr F B
      have V1 := B.1.lv V
      refine bX11_seatLesser_10 V1.1.1 ⟨fun c => absurd c ?_, fun _ => k_everyone V1.1 (by omega) (by rw [B.1.re.1]; exact hs) (B.1.se V hs hl) (fun v sv hv => ⟨V1.1.1, k_seatF V (by omega) (by omega) hw hn B (fun p hp => ?_) (fun _ h3 F3 B3 => ⟨(B3.1.lv V).1.1, ?_⟩) (fun _ h3 F3 B3 _ => ⟨(B3.1.lv V).1.1, ?_⟩)⟩)⟩
      · rw [B.1.2.2.2.2.1 o (by omega), hl.1.1.2.1]
        exact nI_ge (by omega) (by omega)
      · rw [hv p hp, B.1.re.2 79 (by decide) (by decide), B.1.re.2 76 (by decide) (by decide)]
      · rw [nI_add]; exact ih (r + 1) h3 (by omega) (F.tr F3) B3
      · rw [nI_add]; exact ih (r + 1) h3 (by omega) (F.tr F3) B3
  exact bX11_seatLesser_0 S (k_clear (g := g) (w := w) (pi := pI g w) (pj := pJ g w) S bd21 (by omega) (fun h1 c1 b1 e1 z1 => ⟨c1.sh S, lp s 0 h1 (by omega) (c1.sf (fun a ha => by unfold bdA at ha; omega) (fun q z => by have : q = 21 := z; omega)) ⟨ks.tr (bdA.ks bd21 c1), b1 _ _, e1, z1⟩⟩))
theorem k_lesser {l : Launch} {E : eE} {d bc bs : Nat} {h : aH} {K : aH → Prop} {g : aH} {w n s o : Nat} (V : LW g) (ks : KS g h) (hd : 7 ≤ d) (hs : (s : Int) < (hI g 63 14).toInt) (hl : SeAt g s o) (hw : w < 52) (hn : (n : Int) ≤ (hI g 63 8).toInt) (k : ∀ h1, BdS g h1 w n (evO g s) s → K h1) : CV l E d bc bs mX11_seatLesser [.inr (some (0, 11, 0)), .inr (some (0, 9, o)), .inl (nI w), .inl (nI n)] h K :=
  k_lesserF V ks hd hs hl hw hn (fun h1 _ B => k h1 B)
theorem k_choiceOf {l : Launch} {E : eE} {d bc bs : Nat} {h : aH} {K : Int32 → aH → Prop} {g : aH} {s o : Nat} {i j : Int32} (V : LW g) (ks : KS g h) (hd : 3 ≤ d) (hs : (s : Int) < (hI g 63 14).toInt) (hl : SeAt g s o) (k1 : ∀ c, okC (hA g 76 s) c → fO (hA g 76 s) c = i → sO (hA g 76 s) c = j → okP g s i j → K c h) (k0 : ¬ okP g s i j → K (-1) h) : CI l E d bc bs mX9_choiceOf [.inr (some (0, 9, o)), .inl i, .inl j] h K := by
  obtain ⟨d, rfl⟩ : ∃ d', d = d' + 1 := ⟨d - 1, by omega⟩
  have S := (ks.lv V).1.1
  have ho := hl.o
  have f5 : hI h o 3 = hA g 76 s := by rw [ks.2.2.2.2.1 o (by omega)]; exact hl.1.1.2.2.2.2.1
  obtain ⟨nc, hnc, enc⟩ : ∃ nc : Nat, (nc = 6 ∧ hA g 76 s = -1 ∨ nc = 15 ∧ ¬ hA g 76 s = -1) ∧ (if hA g 76 s = -1 then nI 6 else nI 15) = nI nc := by
    by_cases e : hA g 76 s = -1
    · exact ⟨6, Or.inl ⟨rfl, e⟩, if_pos e⟩
    · exact ⟨15, Or.inr ⟨rfl, e⟩, if_neg e⟩
  have okc : ∀ c, c < nc → okC (hA g 76 s) (nI c) := fun c hc => by
    unfold okC
    rcases hnc with ⟨e1, e2⟩ | ⟨e1, e2⟩
    · rw [if_pos e2, nI_toInt (by omega)]; omega
    · rw [if_neg e2, nI_toInt (by omega)]; omega
  have lp : ∀ (a c : Nat), c + a = nc → (∀ c', c' < c → ¬ (okP g s (fO (hA g 76 s) (nI c')) (sO (hA g 76 s) (nI c')) ∧ fO (hA g 76 s) (nI c') = i ∧ sO (hA g 76 s) (nI c') = j)) → LX9_choiceOf_2 l E (d + 1) bc bs o i j (nI c) h K := by
    intro a
    induction a with
    | zero =>
      intro c hc hno
      have hc : c = nc := by omega
      subst hc
      refine bX9_choiceOf_2 S (k_choices S (by omega) ⟨S, ?_⟩)
      rw [f5, enc]
      refine ⟨fun _ => k0 (fun ok => ?_), fun z => absurd (nI_le (Nat.le_refl c) (by omega)) z⟩
      have okk := ok
      obtain ⟨i', e1, e2, e3, e4, q⟩ := ok.c V.1.2 hs
      rcases hnc with ⟨n1, n2⟩ | ⟨n1, n2⟩
      · have ej : j = -1 := q.elim (fun z => z.2) (fun z => absurd n2 z.1)
        refine hno i' (by omega) ?_
        unfold fO sO
        rw [if_pos n2, if_pos n2, ← e1, ← ej]
        exact ⟨okk, rfl, rfl⟩
      · rcases q with q | ⟨-, -, j', q1, q2, q3, q4, q5⟩
        · exact absurd q.1 n2
        · have tt : ∀ i', i' < 6 → ∀ j', j' < 6 → i' < j' → ∃ n, n < 15 ∧ tb1.getD n 0 = nI i' ∧ tb2.getD n 0 = nI j' := by decide
          obtain ⟨m, hm, t1, t2⟩ := tt i' e3 j' q3 q4
          refine hno m (by omega) ?_
          unfold fO sO
          rw [if_neg n2, if_neg n2, nI_clamp (by omega), t1, t2, ← e1, ← q1]
          exact ⟨okk, rfl, rfl⟩
    | succ a ih =>
      intro c hc hno
      have oc := okc c (by omega)
      have st : ¬ (okP g s (fO (hA g 76 s) (nI c)) (sO (hA g 76 s) (nI c)) ∧ fO (hA g 76 s) (nI c) = i ∧ sO (hA g 76 s) (nI c) = j) → LX9_choiceOf_2 l E (d + 1) bc bs o i j (nI c + nI 1) h K := fun q => by
        rw [nI_add]
        exact ih (c + 1) (by omega) (lt_s hno q)
      refine bX9_choiceOf_2 S (k_choices S (by omega) ⟨S, ?_⟩)
      rw [f5, enc]
      refine ⟨fun z => absurd z (nI_ge (by omega) (by omega)), fun _ => k_has V ks (by omega) hs hl oc (fun ok => ⟨S, fun z => absurd z (by decide), fun _ => k_firstOf S (by omega) (by rw [f5]; exact oc) ⟨S, fun z => st (fun q => z (by rw [f5]; exact q.2.1)), fun z => k_secondOf S (by omega) (by rw [f5]; exact oc) ⟨S, fun y => st (fun q => y (by rw [f5]; exact q.2.2)), fun y => ?_⟩⟩⟩) (fun ok => ⟨S, fun _ => st (fun q => ok q.1), fun z => absurd rfl z⟩)⟩
      rw [f5] at z y
      exact k1 _ oc z y (by rw [z, y] at ok; exact ok)
  exact bX9_choiceOf_0 S (lp nc 0 (by omega) lt_0)
theorem k_fits {l : Launch} {E : eE} {d bc bs : Nat} {h : aH} {K : Int32 → aH → Prop} {x1 x2 x3 x4 x5 : Int32} (V : LW h) (hd : 8 ≤ d) (k : ∀ h', KS h h' → K (fitV h x1 x2 x3 x4 x5) h') : CI l E d bc bs mX11_fits [.inr (some (0, 11, 0)), .inl x1, .inl x2, .inl x3, .inl x4, .inl x5] h K := by
  obtain ⟨d, rfl⟩ : ∃ d', d = d' + 1 := ⟨d - 1, by omega⟩
  have hN := V.1.2.1
  unfold RIn at hN
  have S := V.1.1
  have no : ¬ fitOK h x1 x2 x3 x4 x5 → K (-1) h := fun q => by
    have := k h (KS.rf h)
    unfold fitV at this
    rw [if_neg (dec_f q)] at this
    exact this
  refine bX11_fits_0 S (k_seriesAt V.sk V.2.1.2.1 (fun c => ⟨S, fun _ => no (fun q => c q.1), fun _ e => by cases e⟩) (fun s o e hs hl => ⟨S, fun e => (by cases e), fun _ _ => k_isWeek S ⟨S, fun c1 => no (fun q => bI0.mp c1 q.2.1), fun c1 => k_isKnown V.sk ⟨S, fun c2 => ⟨o, rfl, ?_⟩, fun c2 => no (fun q => bI0.mp c2 q.2.2.1)⟩⟩⟩))
  rw [bI1] at c1 c2
  have e2 := i32_nn c1.1
  have n2 := i32_clamp c1.1
  have e5 := i32_nn c2.1
  have n5 := i32_clamp c2.1
  have ec1 : x1.toNatClampNeg = s := by rw [e, nI_clamp (by omega)]
  have hs1 : inI x1 (hI h 63 14) := by rw [e]; exact ⟨by rw [nI_toInt (by omega)]; omega, by rw [nI_toInt (by omega)]; exact hs⟩
  have yes : ∀ v h', okP h s x3 x4 → KS h h' → v = fV (fitY h s x2.toNatClampNeg x5.toNatClampNeg x3 x4) → K v h' := fun v h' q mo ev => by
    have := k h' mo
    unfold fitV fitOK at this
    rw [ec1, if_pos (dec_t ⟨hs1, c1, c2, q⟩)] at this
    rw [ev]; exact this
  have no4 : ¬ okP h s x3 x4 → K (-1) h := fun z => no (fun q => by
    have := q.2.2.2
    rw [ec1] at this
    exact z this)
  generalize x2.toNatClampNeg = w at *
  generalize x5.toNatClampNeg = n at *
  subst e2 e5
  have ho := SeAt.o hl
  refine k_choiceOf V (KS.rf h) (by omega) hs hl (fun c oc ei ej ok => ⟨S, fun _ => ?_, fun z => ?_⟩) (fun ok => ⟨S, fun z => absurd rfl z, fun _ => no4 ok⟩)
  · refine k_lesser V (KS.rf h) (by omega) hs hl (by omega) (by omega) (fun h10 B => ?_)
    obtain ⟨ks, bd, ed, ez⟩ := B
    have V10 := ks.lv V
    have S10 := V10.1.1
    have f0 : hI h10 o 0 = nI s := by rw [ks.2.2.2.2.1 o (by omega)]; exact hl.1.1.2.1
    have f5 : hI h10 o 3 = hA h 76 s := by rw [ks.2.2.2.2.1 o (by omega)]; exact hl.1.1.2.2.2.2.1
    have okk := ok.c V.1.2 hs
    have hsh := isSh_at (s := s) (by omega)
    refine ⟨S10, by rw [f0]; exact vp_in_nI (by omega) (by omega), 5 + 4 * s, by rw [f0, nI_clamp (by omega)]; exact shId S10 (by omega), hsh, k_optionsOf (i := x3) (j := x4) S10 (by omega) (by rw [f5]; exact oc) (by rw [f5]; exact ei) (by rw [f5]; exact ej) ?_ ?_ (fun v13 b1 b2 => ⟨S10, k_everyone V10.1 (by omega) (by rw [ks.re.1]; exact hs) (ks.se V hs hl) (fun v14 sv hv => ⟨S10, ?_⟩)⟩)⟩
    · obtain ⟨i', a1, -, a3, -⟩ := okk; exact ⟨i', a1, a3⟩
    · obtain ⟨i', -, -, -, -, a⟩ := okk
      exact a.imp (fun z => z.2) (fun z => ⟨z.2.2.choose, z.2.2.choose_spec.1, z.2.2.choose_spec.2.2.1⟩)
    rw [ks.re.2 79 (by decide) (by decide), ks.re.2 76 (by decide) (by decide)] at hv
    have hlt : ∀ p, bt v14 p = true → (p : Int) < (hI h 63 3).toInt := fun p q => by
      have hp : p < 12 := Decidable.byContradiction fun y => by
        rw [sv p (by omega)] at q; cases q
      exact ev_lt V.1.2 hs hp ((hv p hp).mp q)
    refine k_fill V ks hsh hs hl (by omega) (by omega) hlt (by omega) (fun h15 c15 so15 => ⟨c15.sh S10, ?_⟩)
    have ks15 := ks.tr (shA.ks hsh c15)
    have bd15 := bd.ch c15 (by unfold shA; omega) (by unfold shA; omega) (by unfold shA; omega) (fun z => z)
    have ed15 := EdO.ch c15 (show ¬ shA (5 + 4 * s) (21 + 4) by unfold shA; omega) ed
    refine k_suits V ks15 hsh bd21 scr26 (by omega) hs hl (by omega) oc ei ej (fun _ => ⟨?_, fun nj => ?_⟩) bd15 (by omega) ed15 (fun p q => (hv p (by have := hlt p q; omega)).mp q) (fun p hp => hv p hp) (fun h16 c16 _ ft _ => ⟨c16.sh (c15.sh S10), fun z => absurd z (by decide), fun _ => yes _ h16 ok (ks15.tr (noA.ks scr26 c16)) (fV_t ft).symm⟩) (fun h16 c16 q => ⟨c16.sh (c15.sh S10), fun _ => yes _ h16 ok (ks15.tr (noA.ks scr26 c16)) (fV_f (fun z => q ⟨ok, z⟩)).symm, fun z => absurd rfl z⟩)
    · obtain ⟨i', a1, a2, a3, a4, -⟩ := okk
      exact so15 _ (by rw [a2]; exact a4) b1
    · obtain ⟨i', -, -, -, -, a⟩ := okk
      rcases a with a | ⟨-, -, j', a1, a2, a3, a4, a5⟩
      · exact absurd a.2 nj
      · exact so15 _ (by rw [a2]; exact a5) (b2 nj)
  · unfold okC at oc
    rw [z, ti_m1] at oc
    omega
