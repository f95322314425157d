/-! ===== the class: put, stands, suits, priceFor ===== -/
/-- one who has a role, or the chair, is a person -/
theorem ev_lt {g : aH} (S : RI g) {s p : Nat} (hs : (s : Int) < (hI g 63 14).toInt) (hp : p < 12) (q : 1 ≤ roO g s p ∨ hA g 76 s = nI p) : (p : Int) < (hI g 63 3).toInt := by
  have hN := S.1
  unfold RIn at hN
  rcases q with q | q
  · refine Decidable.byContradiction fun c => ?_
    have := (S.2.2.2.2.2.2.2.1 s p (by omega) hp).2.2 (fun z => c z.2)
    unfold roO at q
    rw [this] at q
    exact absurd q (by decide)
  · rcases (S.2.2.2.2.2.1 s hs).2.2.1 with c | c
    · rw [c] at q; exact absurd q.symm (nI_m1 (by omega))
    · rw [q] at c
      have := c.2
      rw [nI_toInt (by omega)] at this
      exact this
theorem k_put {l : Launch} {E : eE} {d bc bs : Nat} {h : aH} {K : aH → Prop} {g : aH} {w n s o sh b st : Nat} {i j : Int32} {W Wb : Nat → Prop} {pi pj : Nat → Int32} (V : LW g) (ks : KS g h) (hsh : isSh sh) (hb : isBd b) (hst : scr st) (hd : 2 ≤ d) (hs : (s : Int) < (hI g 63 14).toInt) (hl : SeAt g s o) (hw : w < 52) (ei : pi s = i) (ej : pj s = j) (ok : okP g s i j) (ini : inO g w s i.toNatClampNeg) (inj : ¬ j = -1 → inO g w s j.toNatClampNeg) (so : ShO g h w n s sh W i.toNatClampNeg) (so2 : ¬ j = -1 → ShO g h w n s sh W j.toNatClampNeg) (bd : BdO h b Wb (enO g w pi pj (tbO g w n pi pj s) s) (2 * s)) (ed : EdO g h w b pi pj s) (hW : ∀ p, p < 12 → (1 ≤ roO g s p ∨ hA g 76 s = nI p) → Wb p → W p) (stO' : StO g h w n s st W (frP g w n pi pj s) i j)
    (k : ∀ h1, Ch (bdA b) (isQ b) h h1 → BdO h1 b Wb (enO g w pi pj (tbO g w n pi pj (s + 1)) (s + 1)) (2 * (s + 1)) → EdO g h1 w b pi pj (s + 1) → (∀ c, s < c → hA h1 (b + 4) c = hA h (b + 4) c) → (BdP h h1 b ∧ ∀ z : Nat, z < 7 → hI h b 4 = nI z → ∃ z' : Nat, z ≤ z' ∧ z' ≤ 8 ∧ hI h1 b 4 = nI z') → K h1) : CV l E d bc bs mX1_put [.inr (some (0, 1, b)), .inr (some (0, 9, o)), .inr (some (0, 10, sh)), .inr (some (0, 8, st))] h K := by
  obtain ⟨d, rfl⟩ : ∃ d', d = d' + 1 := ⟨d - 1, by omega⟩
  have hN := V.1.2.1
  unfold RIn at hN
  have h6 := op6 V.1.2 hs
  have ho := hl.o
  have S := (ks.lv V).1.1
  have bb := hb.rng
  have hsr := hsh.rng
  obtain ⟨⟨t0, t1⟩, -, -, ⟨-, t4⟩, ⟨-, t5⟩⟩ := stO'
  obtain ⟨i', rfl, ci, hi6, hi, okj⟩ := ok.c V.1.2 hs
  rw [ci] at so ini
  have hln : 1 ≤ (hA g 74 s).toInt ∧ (hA g 74 s).toInt ≤ 6 := (V.1.2.2.2.2.2.2.1 s hs).1
  have o0 : hI h o 0 = nI s := by rw [ks.2.2.2.2.1 o (by omega)]; exact hl.1.1.2.1
  have o1 : hI h o 1 = hA g 74 s := by rw [ks.2.2.2.2.1 o (by omega)]; exact hl.1.1.2.2.1
  have s1 := so.1
  rw [if_pos ini] at s1
  have sti := stO_int (w := w) V.1.2 hs hi hw
  have cA : Ch (bdA b) (isQ b) h (stA h (b + 4) s (nI 0)) := ch_A h s _ (Or.inr (Or.inr (Or.inr rfl)))
  have bdh : ∀ h1 U m, (∀ a, a ≠ b + 4 → hA h1 a = hA h a) → hI h1 b = hI h b → BdO h b Wb U m → BdO h1 b Wb U m := fun h1 U m e1 e2 q => by
    obtain ⟨z, hz, ez, hu⟩ := q
    refine ⟨z, hz, by rw [e2]; exact ez, ?_⟩
    unfold onB
    rw [e1 _ (by omega), e1 _ (by omega), e1 _ (by omega)]
    exact hu
  -- who comes, in the words of the table
  have tb : ∀ r p b', tbO g w n pi pj (s + 1) r p b' ↔ ((r = s ∧ (p : Int) < (hI g 63 3).toInt ∧ b' < 2 ∧ coF g w n s (frP g w n pi pj s) p (nI i') j b') ∨ (¬ r = s ∧ tbO g w n pi pj s r p b')) := fun r p b' => by
    show (r = s ∧ ¬ pi s = -1 ∧ _ ∧ _ ∧ coF g w n s (frP g w n pi pj s) p (pi s) (pj s) b') ∨ _ ↔ _
    rw [ei, ej]
    exact ⟨fun z => z.imp (fun y => ⟨y.1, y.2.2⟩) id, fun z => z.imp (fun y => ⟨y.1, nI_m1 (by omega), y.2⟩) id⟩
  have enU : ∀ p, p < 12 → Wb p → ∀ a c, enO g w pi pj (tbO g w n pi pj (s + 1)) (s + 1) p a c ↔ ((enO g w pi pj (tbO g w n pi pj s) s p a c ∨ (stO g w s i' < c ∧ a < stO g w s i' + lnO g s ∧ bt (hI h st 4) p = true)) ∨ (¬ j = -1 ∧ stO g w s j.toNatClampNeg < c ∧ a < stO g w s j.toNatClampNeg + lnO g s ∧ bt (hI h st 5) p = true)) := fun p hp hWp a c => by
    rw [t4 p hp, t5 p hp]
    have key : ∀ b', (W p ∧ coF g w n s (frP g w n pi pj s) p (nI i') j b') ↔ ((p : Int) < (hI g 63 3).toInt ∧ coF g w n s (frP g w n pi pj s) p (nI i') j b') := fun b' => by
      have q : coF g w n s (frP g w n pi pj s) p (nI i') j b' → (1 ≤ roO g s p ∨ hA g 76 s = nI p) := fun z => by
        cases b' with
        | zero => exact z.1.imp id (fun y => y.2)
        | succ b' => exact z.2.1
      exact ⟨fun z => ⟨ev_lt V.1.2 hs hp (q z.2), z.2⟩, fun z => ⟨hW p hp (q z.2) hWp, z.2⟩⟩
    rw [key, key]
    constructor
    · rintro ⟨r, hr, q⟩
      by_cases e : r = s
      · subst e
        rw [ei, ej, ci] at q
        rcases q with ⟨q1, q2⟩ | ⟨q1, q2⟩
        · rcases (tb _ _ _).mp q1 with y | y
          · exact Or.inl (Or.inr ⟨q2.1, q2.2, y.2.1, y.2.2.2⟩)
          · exact absurd rfl y.1
        · rcases (tb _ _ _).mp q1 with y | y
          · exact Or.inr ⟨y.2.2.2.1, q2.1, q2.2, y.2.1, y.2.2.2⟩
          · exact absurd rfl y.1
      · refine Or.inl (Or.inl ⟨r, by omega, ?_⟩)
        rcases q with ⟨q1, q2⟩ | ⟨q1, q2⟩
        · rcases (tb _ _ _).mp q1 with y | y
          · exact absurd y.1 e
          · exact Or.inl ⟨y.2, q2⟩
        · rcases (tb _ _ _).mp q1 with y | y
          · exact absurd y.1 e
          · exact Or.inr ⟨y.2, q2⟩
    · rintro ((⟨r, hr, q⟩ | ⟨q1, q2, q3⟩) | ⟨q0, q1, q2, q3⟩)
      · refine ⟨r, by omega, q.imp (fun y => ⟨(tb _ _ _).mpr (Or.inr ⟨by omega, y.1⟩), y.2⟩) (fun y => ⟨(tb _ _ _).mpr (Or.inr ⟨by omega, y.1⟩), y.2⟩)⟩
      · refine ⟨s, by omega, Or.inl ⟨(tb _ _ _).mpr (Or.inl ⟨rfl, q3.1, by decide, q3.2⟩), ?_⟩⟩
        rw [ei, ci]; exact ⟨q1, q2⟩
      · refine ⟨s, by omega, Or.inr ⟨(tb _ _ _).mpr (Or.inl ⟨rfl, q3.1, by decide, q3.2⟩), ?_⟩⟩
        rw [ej]; exact ⟨q1, q2⟩
  refine bX1_put_0 S hb hsh ?_
  rw [o0, t0, nI_clamp (n := s) (by omega), nI_clamp (n := i') (by omega), show hA (stA h (b + 4) s (nI 0)) (sh + 1) i' = rAt g s i' w from (congrFun (up2_ne (show sh + 1 ≠ b + 4 by omega)) i').trans s1]
  have bd1 := bdh (stA h (b + 4) s (nI 0)) _ _ (fun a ha => up2_ne ha) rfl bd
  refine ⟨vp_in_nI (by omega) (by omega), vp_in_nI (by omega) (by omega), k_add (cA.sh S) hb (by omega) (by omega) (show hI (stA h (b + 4) s (nI 0)) o 0 = nI s from o0) (by omega) (by omega) (by show 0 ≤ (hI h o 1).toInt ∧ (hI h o 1).toInt ≤ 100; rw [o1]; omega) bd1 (by omega) (fun h3 c3 b3 e3 f3 g3' => ⟨(cA.tr c3).sh S, ?_⟩)⟩
  have cc := cA.tr c3
  have g3 := g3'.1
  have n3 := g3'.2
  have hstb : ¬ (st = b) := by rcases hb with rfl | rfl <;> omega
  have p1 : hI h3 st 1 = j := by rw [cc.2.2.2.2.1 st hstb]; exact t1
  have p5 : hI h3 st 5 = hI h st 5 := by rw [cc.2.2.2.2.1 st hstb]
  have po0 : hI h3 o 0 = nI s := by rw [cc.2.2.2.2.1 o (show ¬ o = b by omega)]; exact o0
  have po1 : hI h3 o 1 = hA g 74 s := by rw [cc.2.2.2.2.1 o (show ¬ o = b by omega)]; exact o1
  have psh : hA h3 (sh + 1) = hA h (sh + 1) := cc.2.2.2.2.2 _ (by rcases hb with rfl | rfl <;> rcases hsh with rfl | rfl | rfl | rfl <;> decide)
  have s3 : ∀ z : Nat, z < 8 → hI h b 4 = nI z → hI h3 b 4 = nI (z + 1) := fun z hz e => n3 z hz e
  rw [show hI (stA h (b + 4) s (nI 0)) o 1 = hA g 74 s from o1, sti.1] at b3 e3
  rw [show hA (stA h (b + 4) s (nI 0)) (b + 4) s = nI 0 by simp [hA_st], show (nI 0).toInt = 0 from ti_0] at e3
  have f3' : ∀ c, c ≠ s → hA h3 (b + 4) c = hA h (b + 4) c := fun c hc => by rw [f3 c hc]; simp [hA_st, hc]
  rw [p1]
  refine ⟨fun nj => ?_, fun nj => ?_⟩
  · refine k h3 cc ?_ (fun c hc => ?_) (fun c hc => f3' c (by omega)) ⟨fun z y hz e hy => ?_, fun z hz e => ⟨z + 1, by omega, by omega, s3 z (by omega) e⟩⟩
    · obtain ⟨z, hz, ez, hu⟩ := b3
      refine ⟨z, by omega, ez, fun p hp hWp a c => ?_⟩
      rw [hu p hp hWp a c, enU p hp hWp a c]
      exact ⟨fun y => Or.inl y, fun y => y.elim id (fun x => absurd nj x.1)⟩
    · by_cases e : c = s
      · subst e
        rw [e3, ei, ej]
        unfold edO
        rw [if_neg (nI_m1 (by omega)), if_pos nj, ci]
        show max 0 (stO g w c i' + lnO g c) = _
        have := sti.2.1
        unfold lnO
        omega
      · rw [f3' c e]; exact ed c (by omega)
    · obtain ⟨u1, u2, u3⟩ := g3 z y hz e hy
      rw [u1, u2, u3]
      exact ⟨congrFun (up2_ne (by omega)) y, congrFun (up2_ne (by omega)) y, congrFun (up2_ne (by omega)) y⟩
  · rcases okj with okj | ⟨hch, -, j', rfl, cj, hj6, hij, hj⟩
    · exact absurd okj.2 nj
    have s2 := (so2 nj).1
    have ij2 := inj nj
    rw [cj] at s2 ij2
    rw [if_pos ij2] at s2
    have stj := stO_int (w := w) V.1.2 hs hj hw
    rw [nI_clamp (n := j') (by omega), psh, s2, p5]
    refine ⟨vp_in_nI (by omega) (by omega), k_add (cc.sh S) hb (by omega) (by omega) po0 (by omega) (by omega) (by rw [po1]; omega) b3 (by omega) (fun h6 c6 b6 e6 f6 g6' => ⟨(cc.tr c6).sh S, ?_⟩)⟩
    have g6 := g6'.1
    rw [po1, stj.1] at b6 e6
    refine k h6 (cc.tr c6) ?_ (fun c hc => ?_) (fun c hc => by rw [f6 c (by omega)]; exact f3' c (by omega)) ⟨fun z y hz e hy => ?_, fun z hz e => ⟨z + 2, by omega, by omega, by rw [show z + 2 = z + 1 + 1 by omega]; exact g6'.2 (z + 1) (by omega) (s3 z (by omega) e)⟩⟩
    · obtain ⟨z, hz, ez, hu⟩ := b6
      refine ⟨z, by omega, ez, fun p hp hWp a c => ?_⟩
      rw [hu p hp hWp a c, enU p hp hWp a c, cj]
      exact ⟨fun y => y.imp id (fun x => ⟨nj, x⟩), fun y => y.imp id (fun x => x.2)⟩
    · by_cases e : c = s
      · subst e
        rw [e6, e3, ei, ej]
        unfold edO
        rw [if_neg (nI_m1 (by omega)), if_neg nj, ci, cj]
        show max (max 0 (stO g w c i' + lnO g c)) (stO g w c j' + lnO g c) = _
        have := sti.2.1
        unfold lnO
        omega
      · rw [f6 c e, f3' c e]; exact ed c (by omega)
    · obtain ⟨u1, u2, u3⟩ := g3 z y hz e hy
      have z8 : z + 1 < 8 := by
        obtain ⟨zz, hzz, ezz, -⟩ := bd
        have : z = zz := nI_inj (by omega) (by omega) (e.symm.trans ezz)
        omega
      have z3 : hI h3 b 4 = nI (z + 1) := s3 z (by omega) e
      obtain ⟨t1, t2, t3⟩ := g6 (z + 1) y (by omega) z3 (by omega)
      rw [t1, t2, t3, u1, u2, u3]
      exact ⟨congrFun (up2_ne (by omega)) y, congrFun (up2_ne (by omega)) y, congrFun (up2_ne (by omega)) y⟩
theorem k_choices {l : Launch} {E : eE} {d bc bs : Nat} {h : aH} {K : Int32 → aH → Prop} {o : Nat} (S : SH h) (hd : 1 ≤ d) (k : K (if hI h o 3 = -1 then nI 6 else nI 15) h) : CI l E d bc bs mX9_choices [.inr (some (0, 9, o))] h K := by
  obtain ⟨d, rfl⟩ : ∃ d', d = d' + 1 := ⟨d - 1, by omega⟩
  refine bX9_choices_0 S (k_isSplit S ⟨S, fun z => ?_, fun z => ?_⟩)
  · by_cases g : hI h o 3 = -1
    · rw [if_pos g] at k; exact k
    · rw [if_neg g] at z; exact absurd z (by decide)
  · by_cases g : hI h o 3 = -1
    · rw [if_pos g] at z; exact absurd rfl z
    · rw [if_neg g] at k; exact k
/-- a choice is one of the options that there are -/
theorem okP_of {g : aH} (S : RI g) {s : Nat} (hs : (s : Int) < (hI g 63 14).toInt) {c : Int32} (hc : okC (hA g 76 s) c) : okP g s (fO (hA g 76 s) c) (sO (hA g 76 s) c) ↔ ((if fO (hA g 76 s) c < sO (hA g 76 s) c then sO (hA g 76 s) c else fO (hA g 76 s) c).toInt < (hA g 77 s).toInt) := by
  have h6 := op6 S hs
  unfold okC at hc
  unfold fO sO
  by_cases e : hA g 76 s = -1
  · rw [if_pos e, if_pos e]
    rw [if_pos e] at hc
    have e1 := i32_nn hc.1
    have e2 := i32_clamp hc.1
    rw [if_neg (by simp only [Int32.lt_iff_toInt_lt, Int32.le_iff_toInt_le, ti_z, ti_m1, ti_m24, ti_0, ti_1, ti_2, ti_3, ti_4, ti_5, ti_6, ti_7, ti_8, ti_11, ti_12, ti_15, ti_24, ti_28, ti_31, ti_47, ti_48, ti_52, ti_90, ti_100, ti_127, ti_336, ti_363, ti_364, ti_400, ti_416, ti_576, ti_17471, ti_17472]; omega)]
    constructor
    · rintro ⟨i', rfl, hi, -⟩
      rw [nI_toInt (by omega)]; exact hi
    · intro q
      exact ⟨_, e1, by omega, Or.inl ⟨e, rfl⟩⟩
  · rw [if_neg e, if_neg e]
    rw [if_neg e] at hc
    have e2 := i32_clamp hc.1
    have tt : ∀ n, n < 15 → ∃ a b, a < b ∧ b < 6 ∧ tb1.getD n 0 = nI a ∧ tb2.getD n 0 = nI b := by
      have : ∀ n, n < 15 → (tb1.getD n 0).toNatClampNeg < (tb2.getD n 0).toNatClampNeg ∧ (tb2.getD n 0).toNatClampNeg < 6 ∧ tb1.getD n 0 = nI (tb1.getD n 0).toNatClampNeg ∧ tb2.getD n 0 = nI (tb2.getD n 0).toNatClampNeg := by decide
      exact fun n hn => ⟨_, _, this n hn⟩
    obtain ⟨a, b, h1, h2, ea, eb⟩ := tt c.toNatClampNeg (by omega)
    rw [ea, eb, if_pos (nI_lt h1 (by omega)), nI_toInt (by omega)]
    constructor
    · rintro ⟨i', q1, hi, q | ⟨-, j', q2, q3, q4⟩⟩
      · exact absurd q.1 e
      · have := nI_inj (by omega) (by omega) q4; omega
    · intro q
      exact ⟨a, rfl, by omega, Or.inr ⟨e, b, h1, by omega, rfl⟩⟩
theorem k_has {l : Launch} {E : eE} {d bc bs : Nat} {h : aH} {K : Int32 → aH → Prop} {g : aH} {s o : Nat} {c : Int32} (V : LW g) (ks : KS g h) (hd : 2 ≤ d) (hs : (s : Int) < (hI g 63 14).toInt) (hl : SeAt g s o) (hc : okC (hA g 76 s) c) (k1 : okP g s (fO (hA g 76 s) c) (sO (hA g 76 s) c) → K (nI 1) h) (k0 : ¬ okP g s (fO (hA g 76 s) c) (sO (hA g 76 s) c) → K (nI 0) h) : CI l E d bc bs mX9_has [.inr (some (0, 9, o)), .inl c] h K := by
  obtain ⟨d, rfl⟩ : ∃ d', d = d' + 1 := ⟨d - 1, by omega⟩
  have S := (ks.lv V).1.1
  have ho := hl.o
  have f5 : hI h o 3 = hA g 76 s := by rw [ks.2.2.2.2.1 o (by omega)]; exact hl.1.1.2.2.2.2.1
  have f7 : hI h o 7 = hA g 77 s := by rw [ks.2.2.2.2.1 o (by omega)]; exact hl.1.1.2.2.2.2.2.1
  rw [okP_of V.1.2 hs hc] at k1 k0
  refine bX9_has_0 S (k_firstOf S (by omega) (by rw [f5]; exact hc) ⟨S, k_secondOf S (by omega) (by rw [f5]; exact hc) ⟨S, c_max S ⟨S, ?_⟩⟩⟩)
  rw [f5, f7, Int32.le_iff_toInt_le]
  exact ⟨fun z => k0 (by omega), fun z => k1 (by omega)⟩
theorem k_stands {l : Launch} {E : eE} {d bc bs : Nat} {h : aH} {K : Int32 → aH → Prop} {g : aH} {w n s o sh : Nat} {c : Int32} {W : Nat → Prop} (V : LW g) (ks : KS g h) (hsh : isSh sh) (hd : 3 ≤ d) (hs : (s : Int) < (hI g 63 14).toInt) (hl : SeAt g s o) (hw : w < 52) (hc : okC (hA g 76 s) c) (so : okP g s (fO (hA g 76 s) c) (sO (hA g 76 s) c) → ShO g h w n s sh W (fO (hA g 76 s) c).toNatClampNeg ∧ (¬ sO (hA g 76 s) c = -1 → ShO g h w n s sh W (sO (hA g 76 s) c).toNatClampNeg))
    (k1 : okP g s (fO (hA g 76 s) c) (sO (hA g 76 s) c) → sdO g w s (fO (hA g 76 s) c) (sO (hA g 76 s) c) → K (nI 1) h) (k0 : ¬ (okP g s (fO (hA g 76 s) c) (sO (hA g 76 s) c) ∧ sdO g w s (fO (hA g 76 s) c) (sO (hA g 76 s) c)) → K (nI 0) h) : CI l E d bc bs mX8_stands [.inr (some (0, 9, o)), .inr (some (0, 10, sh)), .inl c] h K := by
  obtain ⟨d, rfl⟩ : ∃ d', d = d' + 1 := ⟨d - 1, by omega⟩
  have S := (ks.lv V).1.1
  have ho := hl.o
  have hN := V.1.2.1
  unfold RIn at hN
  have f5 : hI h o 3 = hA g 76 s := by rw [ks.2.2.2.2.1 o (by omega)]; exact hl.1.1.2.2.2.2.1
  have f1 : hI h o 1 = hA g 74 s := by rw [ks.2.2.2.2.1 o (by omega)]; exact hl.1.1.2.2.1
  have hln : 1 ≤ (hA g 74 s).toInt ∧ (hA g 74 s).toInt ≤ 6 := (V.1.2.2.2.2.2.2.1 s hs).1
  refine bX8_stands_0 S hsh (k_has V ks (by omega) hs hl hc (fun ok => ⟨S, fun _ => k_firstOf S (by omega) (by rw [f5]; exact hc) ⟨S, ?_⟩, fun z => absurd z (by decide)⟩) (fun ok => ⟨S, fun z => absurd rfl z, fun _ => k0 (fun q => ok q.1)⟩))
  obtain ⟨u1, u2⟩ := so ok
  rw [f5]
  obtain ⟨i', ei, ci, hi6, hi, okj⟩ := ok.c V.1.2 hs
  have sti := stO_int (w := w) V.1.2 hs hi hw
  have v1 := u1.1
  rw [ci] at v1
  rw [ei] at k0 k1 ok ⊢
  rw [nI_clamp (n := i') (by omega), v1]
  have nr : ∀ {x : Nat}, (x : Int) < (hA g 77 s).toInt → ¬ rAt g s x w = -1 := fun {x} hx q => by
    have := (stO_int (w := w) V.1.2 hs hx hw)
    rw [q, ti_m1] at this
    omega
  have sd_i : ∀ {j : Int32}, sdO g w s (nI i') j → inO g w s i' := fun q => by have := q.1; rw [nI_clamp (by omega)] at this; exact this
  refine ⟨vp_in_nI (by omega) (by omega), k_isSplit S ⟨S, fun z => ?_, fun z => ?_⟩⟩
  · rw [f5] at z
    have hch : ¬ hA g 76 s = -1 := fun y => by rw [if_pos y] at z; exact z rfl
    rcases okj with okj | ⟨-, nj, j', ej, cj, hj6, hij, hj⟩
    · exact absurd okj.1 hch
    have v2 := (u2 nj).1
    rw [cj] at v2
    have stj := stO_int (w := w) V.1.2 hs hj hw
    refine k_secondOf S (by omega) (by rw [f5]; exact hc) ⟨S, ?_⟩
    rw [f5, ej, nI_clamp (n := j') (by omega), v2]
    rw [ej] at k0 k1 ok
    refine ⟨vp_in_nI (by omega) (by omega), fun y => k0 (fun q => ?_), fun y => ⟨fun x => k0 (fun q => ?_), fun x => ?_⟩⟩
    · rw [if_pos (sd_i q.2)] at y; exact nr hi y
    · have := (q.2.2 (nI_m1 (by omega))).1
      rw [nI_clamp (by omega)] at this
      rw [if_pos this] at x; exact nr hj x
    · have ini : inO g w s i' := Decidable.byContradiction fun q => y (if_neg q)
      have inj : inO g w s j' := Decidable.byContradiction fun q => x (if_neg q)
      rw [if_pos ini, if_pos inj]
      have eab : (rAt g s i' w - rAt g s j' w).toInt = stO g w s i' - stO g w s j' := by rw [i_sub (by omega) (by omega), sti.1, stj.1]
      have fin : ∀ v : Int32, (v.toInt = stO g w s i' - stO g w s j' ∧ 0 ≤ v.toInt) ∨ (v.toInt = stO g w s j' - stO g w s i' ∧ 0 < v.toInt) → ((v < hA g 74 s → K (nI 0) h) ∧ (¬ v < hA g 74 s → K (nI 1) h)) := fun v hv => by
        rw [Int32.lt_iff_toInt_lt]
        refine ⟨fun q => k0 (fun t => ?_), fun q => k1 ok ⟨by rw [nI_clamp (by omega)]; exact ini, fun _ => ?_⟩⟩
        · have := (t.2.2 (nI_m1 (by omega))).2
          rw [nI_clamp (by omega), nI_clamp (by omega)] at this
          apply this
          unfold mtO lnO
          omega
        · rw [nI_clamp (by omega), nI_clamp (by omega)]
          refine ⟨inj, fun t => ?_⟩
          unfold mtO lnO at t
          omega
      refine bJ9_abs_0f7a4_0 S ⟨fun q => ⟨S, ?_⟩, fun q => ⟨S, ?_⟩⟩
      · rw [Int32.le_iff_toInt_le, ti_z, eab] at q
        rw [f1]
        exact fin _ (Or.inl ⟨eab, by omega⟩)
      · rw [Int32.le_iff_toInt_le, ti_z, eab] at q
        rw [f1]
        have : (0 - (rAt g s i' w - rAt g s j' w)).toInt = stO g w s j' - stO g w s i' := by rw [i_sub (by rw [eab, ti_z]; omega) (by rw [eab, ti_z]; omega), eab, ti_z]; omega
        exact fin _ (Or.inr ⟨this, by omega⟩)
  · rw [f5] at z
    have hch : hA g 76 s = -1 := Decidable.byContradiction fun y => by rw [if_neg y] at z; exact absurd z (by decide)
    have ej : sO (hA g 76 s) c = -1 := by unfold sO; rw [if_pos hch]
    rw [ej] at k0 k1
    refine ⟨fun y => k0 (fun q => ?_), fun y => k1 (by rw [ej] at ok; exact ok) ⟨?_, fun q => absurd rfl q⟩⟩
    · rw [if_pos (sd_i q.2)] at y; exact nr hi y
    · rw [nI_clamp (by omega)]
      exact Decidable.byContradiction fun q => y (if_neg q)
