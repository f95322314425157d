/-! ===== the class: Mover.search, whole ===== -/
theorem fN_big {α : Type} {f : Nat → α → α} {b : α} {m : Nat} : ∀ n, m ≤ n → (∀ c, m ≤ c → c < n → ∀ x, f c x = x) → fN f n b = fN f m b
  | n, h, hf => by
    by_cases e : n = m
    · rw [e]
    · cases n with
      | zero => omega
      | succ n => rw [fN, hf n (by omega) (by omega), fN_big n (by omega) (fun c h1 h2 => hf c h1 (by omega))]
theorem MkC.fc {g h h1 : aH} {w n ns np k : Nat} (c : MkC g h w n ns np) (f : Ch msA (msO k) h h1) (hns : ns ≤ 4) : MkC g h1 w n ns np := by
  obtain ⟨c1, c2, c3, c4⟩ := c
  have fk : KS h h1 := f.ks (fun a ha => by unfold msA at ha; omega) (fun q hq => by unfold msO at hq; omega)
  refine ⟨c1.tr fk, by rw [f.2.2.2.2.1 39 (by unfold msO; omega)]; exact c2, by rw [f.2.2.2.2.1 39 (by unfold msO; omega)]; exact c3, fun r hr hp => ?_⟩
  obtain ⟨d1, d2, d3, d4⟩ := c4 r hr hp
  rw [f.2.1, f.2.2.2.2.2 51 (by unfold msA; omega)]
  exact ⟨d1, d2, d3, fun i hi => ShF.ch f (by unfold msA; omega) (by unfold msA; omega) (by unfold msA; omega) (d4 i hi)⟩
theorem scr_st {k : Nat} (hk : k < 4) : scr (55 + k) := by unfold scr; omega
theorem mvQ_st {g : aH} {w r : Nat} : ∀ j, mvQ g w r ≤ mvQ g w (r + j)
  | 0 => Nat.le_refl _
  | j + 1 => by
    have := mvQ_st (g := g) (w := w) (r := r) j
    rw [show r + (j + 1) = (r + j) + 1 by omega, mvQ]
    omega
theorem k_ms {l : Launch} {E : eE} {g : aH} {w n ns np T : Nat} (V : LW g) (hns : (ns : Int) = (hI g 63 14).toInt) (hnp : (np : Int) = (hI g 63 3).toInt) (hw : w < 52) : ∀ (j r d bc bs : Nat) (h : aH) (v : Nat → Nat) (B : Option (Nat → Nat)) (K : aH → Prop), r + j = ns → 2 * j + 6 ≤ d → MkC g h w n ns np → MkT g h w n ns np v r B → mvC g w v r ≤ T → T + mvQ g w r ≤ mvC g w v r + mvQ g w ns →
    (∀ h1, MkF (mvQ g w r) h h1 → MkT g h1 w n ns np v r (dfT g w n ns np T j r v B) → K h1) → CV l E d bc bs mX5_search [.inr (some (0, 5, 39)), .inl (nI (mvQ g w r)), .inl (nI (T - mvC g w v r))] h K := by
  have hN := V.1.2.1
  unfold RIn at hN
  have np12 : np ≤ 12 := by omega
  have ns4 : ns ≤ 4 := by omega
  have qn := mvQ_le g w ns
  -- the question whether the sums are better
  have beq : ∀ {h1 : aH} {v : Nat → Nat} {r : Nat} {B : Option (Nat → Nat)}, (∀ p, p < np → (hA h1 54 p).toInt = mvS g w n v p r) → (betO np (vI (hA h1 54)) (B.map (mvU g w n ns)) ↔ ∀ u, B = some u → bet np (fun p => mvS g w n v p r) (mvU g w n ns u)) := fun {h1 v r B} q3 => by
    unfold betO
    constructor
    · intro z u hu
      exact (bet_c q3 (fun _ _ => rfl)).mp (z _ (by rw [hu]; rfl))
    · intro z b hb
      cases B with
      | none => cases hb
      | some u =>
        have : mvU g w n ns u = b := Option.some.inj hb
        subst this
        exact (bet_c q3 (fun _ _ => rfl)).mpr (z u rfl)
  intro j
  induction j with
  | zero =>
    intro r d bc bs h v B K hr hd C t hT1 hT2 kk
    have hr : r = ns := by omega
    subst hr
    obtain ⟨d, rfl⟩ : ∃ d', d = d' + 1 := ⟨d - 1, by omega⟩
    have S := (C.1.lv V).1.1
    obtain ⟨t1, t2, t3, t4, t5, t6, t7⟩ := id t
    have eT : mvC g w v r = T := by omega
    have elf : dfT g w n r np T 0 r v B = updB np (mvU g w n r) v B := by
      show lfT _ _ _ _ _ _ _ _ = _
      unfold lfT
      rw [if_pos eT]
    refine bX5_search_0 S (k_isBetter S (Or.inr rfl) (by omega) t6 (by decide) (fun h1 c1 => ?_))
    have f1 : MkF (mvQ g w r) h h1 := MkF.of c1 (fun a ha => by have : a = 42 := ha; omega) (fun _ z => z.elim)
    have T1 : MkT g h1 w n r np v r B := t.rest (c1.2.2.2.2.1 43 (fun z => z)) (c1.2.2.2.2.1 40 (fun z => z)) (fun a ha => c1.2.2.2.2.2 a (by show ¬ a = 42; omega))
    have S1 := c1.sh S
    have e39 : hI h1 39 9 = nI (mvQ g w r) := by rw [c1.2.2.2.2.1 39 (fun z => z)]; exact C.2.1
    refine ⟨fun be => ⟨S1, fun _ => ⟨fun z => absurd z (by rw [e39]; exact nI_nlt (Nat.le_refl _) (by omega)), fun _ => ?_⟩, fun z => absurd z (by decide)⟩, fun be => ⟨S1, fun z => absurd rfl z, fun _ => kk h1 f1 ?_⟩⟩
    · have be := (beq t4).mp be
      have ub : updB np (mvU g w n r) v B = some v := by
        cases B with
        | none => rfl
        | some u =>
          show (if _ then _ else _) = _
          rw [if_pos (dec_t (be u rfl))]
      obtain ⟨s1, s2, s3, s4, s5, s6, s7⟩ := id T1
      refine k_keep S1 (Or.inr rfl) (by omega) s6 (fun h4 c4 ev4 => ?_)
      have e39' : hI h4 39 9 = nI (mvQ g w r) := by rw [c4.2.2.2.2.1 39 (by show ¬ 39 = 40; decide)]; exact e39
      rw [e39', nI_clamp (n := mvQ g w r) (by omega)]
      have f4 : MkF (mvQ g w r) h1 (stAA h4 53 (va_cpy (hA h4 52) (hA h4 53) (nI 0).toNatClampNeg (nI 0).toNatClampNeg (mvQ g w r))) := by
        refine MkF.of (A := fun a => a = 41 ∨ a = 53) (O := fun q => q = 40) ((c4.mono (fun a ha => Or.inl ha) (fun q hq => hq)).tr (ch_AA _ _ (Or.inr rfl))) (fun a ha => by omega) (fun q hq => Or.inl hq)
      refine ⟨c4.sh S1, by decide, by decide, nI_pos (by omega), by rw [nI_clamp (by omega)]; omega, by rw [nI_clamp (by omega)]; omega, kk _ (f1.tr f4) ?_⟩
      rw [elf, ub]
      have a52 : hA h4 52 = hA h1 52 := c4.2.2.2.2.2 52 (by show ¬ 52 = 40 + 1; decide)
      have a54 : hA h4 54 = hA h1 54 := c4.2.2.2.2.2 54 (by show ¬ 54 = 40 + 1; decide)
      have i43 : hI h4 43 = hI h1 43 := c4.2.2.2.2.1 43 (by show ¬ 43 = 40; decide)
      have aa : ∀ a, a = 44 ∨ a = 45 ∨ a = 46 ∨ a = 47 ∨ a = 52 ∨ a = 54 → hA (stAA h4 53 (va_cpy (hA h4 52) (hA h4 53) (nI 0).toNatClampNeg (nI 0).toNatClampNeg (mvQ g w r))) a = hA h1 a := fun a ha => by
        rw [hA_AAn _ _ (by omega)]; exact c4.2.2.2.2.2 a (by show ¬ a = 40 + 1; omega)
      refine ⟨?_, ?_, ?_, ?_, ?_, ?_, fun u hu x hx hp => ?_⟩
      · unfold BdO onB
        rw [show hI (stAA h4 53 _) 43 = hI h1 43 from i43, aa (43 + 1) (by omega), aa (43 + 2) (by omega), aa (43 + 3) (by omega)]
        exact s1
      · unfold EdO; rw [aa (43 + 4) (by omega)]; exact s2
      · rw [aa 47 (by omega)]; exact s3
      · rw [aa 54 (by omega)]; exact s4
      · rw [aa 52 (by omega)]; exact s5
      · obtain ⟨r1, r2, r3, r4⟩ := ev4
        refine ⟨r1, r2, fun z => (by cases z), fun b hb => ?_⟩
        have hb : b = mvU g w n r v := (Option.some.inj hb).symm
        subst hb
        obtain ⟨y1, y2⟩ := r4 _ rfl
        refine ⟨y1, ?_⟩
        rw [hA_AAn _ _ (by decide)]
        exact y2.c (fun q hq => s4 q hq) (fun _ _ => rfl)
      · have : u = v := (Option.some.inj hu).symm
        subst this
        have hq : mvQ g w x < mvQ g w r := by
          have h1 := mvQ_st (g := g) (w := w) (r := x + 1) (r - (x + 1))
          rw [show x + 1 + (r - (x + 1)) = r by omega, mvQ, if_neg hp] at h1
          omega
        rw [hA_AA, cpy_at hq, a52]
        exact s5 x hx hp
    · have ub : updB np (mvU g w n r) v B = B := by
        cases B with
        | none => exact absurd ((beq t4).mpr (fun u hu => by cases hu)) be
        | some u =>
          show (if _ then _ else _) = _
          rw [if_neg (dec_f (fun z => be ((beq t4).mpr (fun u' hu' => by rw [← Option.some.inj hu']; exact z))))]
      rw [elf, ub]
      exact T1
  | succ j ih =>
    intro r d bc bs h v B K hr hd C t hT1 hT2 kk
    have hrn : (r : Int) < (hI g 63 14).toInt := by omega
    by_cases pl : pI g w r = -1
    · -- not planned: no step of the class
      have eq : mvQ g w (r + 1) = mvQ g w r := by rw [mvQ, if_pos pl]; rfl
      have ec : mvC g w v (r + 1) = mvC g w v r := by rw [mvC, if_pos (Or.inl pl)]; rfl
      have es : ∀ p, mvS g w n v p (r + 1) = mvS g w n v p r := fun p => by rw [mvS, mvP0 pl, ti_0]; omega
      have e : dfT g w n ns np T (j + 1) r v B = dfT g w n ns np T j (r + 1) v B := by
        show (if pI g w r = -1 then _ else _) = _
        rw [if_pos pl]
      rw [e] at kk
      have fwd : ∀ {h1 : aH} {B'}, MkT g h1 w n ns np v r B' → MkT g h1 w n ns np v (r + 1) B' := fun {h1 B'} q => by
        obtain ⟨⟨z, hz, ez, hu⟩, q2, q3, q4, q5, q6, q7⟩ := q
        refine ⟨⟨z, by omega, ez, fun p hp hW a c => by rw [hu p hp hW a c, en_skip pl]⟩, fun c hc => ?_, q3, fun p hp => by rw [es]; exact q4 p hp, fun x hx hp => ?_, q6, q7⟩
        · by_cases y : c = r
          · subst y
            rw [q3 c (by omega) pl]
            unfold edO mvI
            rw [if_pos (if_pos pl)]
          · exact q2 c (by omega)
        · by_cases y : x = r
          · rw [y] at hp; exact absurd pl hp
          · exact q5 x (by omega) hp
      have := ih (r + 1) d bc bs h v B K (by omega) (by omega) C (fwd t) (by rw [ec]; exact hT1) (by rw [ec, eq]; exact hT2) (fun h1 f1 T1 => ?_)
      · rw [eq, ec] at this
        exact this
      · rw [eq] at f1
        refine kk h1 f1 ?_
        obtain ⟨⟨z, hz, ez, hu⟩, q2, q3, q4, q5, q6, q7⟩ := T1
        obtain ⟨z0, hz0, ez0, -⟩ := t.1
        have : z = z0 := nI_inj (by omega) (by omega) (ez.symm.trans (f1.2.1.trans ez0))
        subst this
        exact ⟨⟨z, hz0, ez, fun p hp hW a c => by rw [hu p hp hW a c, en_skip pl]⟩, fun c hc => q2 c (by omega), q3, fun p hp => by rw [← es]; exact q4 p hp, fun x hx hp => q5 x (by omega) hp, q6, q7⟩
    · obtain ⟨d, rfl⟩ : ∃ d', d = d' + 1 := ⟨d - 1, by omega⟩
      have S := (C.1.lv V).1.1
      have eq : mvQ g w (r + 1) = mvQ g w r + 1 := by rw [mvQ, if_neg pl]
      have qle : mvQ g w (r + 1) ≤ mvQ g w ns := by
        have := mvQ_st (g := g) (w := w) (r := r + 1) j
        rw [show r + 1 + j = ns by omega] at this
        exact this
      have k4 : mvQ g w r < 4 := by omega
      obtain ⟨q48, q49, q51, so⟩ := C.2.2.2 r (by omega) pl
      obtain ⟨o, hl⟩ := V.2.1.2.1 r hrn
      have ho := SeAt.o hl
      rw [hl.1.1.1] at q48
      obtain ⟨g1, g2, g3⟩ := (hl.1.2.2.2.1 w hw).ok
      obtain ⟨c01, c02, c03⟩ := g3 (fun z => pl (g1.mp z))
      have e51 := q51 o hl
      have hsh := isSh_at (s := r) (by omega)
      have hr5 := hsh.rng
      have h6 := op6 V.1.2 hrn
      have ec77 := i32_clamp h6.1
      obtain ⟨nc, hnc, enc⟩ : ∃ nc : Nat, (nc = 6 ∧ hA g 76 r = -1 ∨ nc = 15 ∧ ¬ hA g 76 r = -1) ∧ (if hA g 76 r = -1 then nI 6 else nI 15) = nI nc := by
        by_cases e : hA g 76 r = -1
        · exact ⟨6, Or.inl ⟨rfl, e⟩, if_pos e⟩
        · exact ⟨15, Or.inr ⟨rfl, e⟩, if_neg e⟩
      have okc : ∀ c, c < nc → okC (hA g 76 r) (nI c) := fun c hc => by
        unfold okC
        rcases hnc with ⟨e1, e2⟩ | ⟨e1, e2⟩
        · rw [if_pos e2, nI_toInt (by omega)]; omega
        · rw [if_neg e2, nI_toInt (by omega)]; omega
      have nc15 : nc ≤ 15 := by omega
      have bigc : ∀ c, nc ≤ c → c < 15 → ¬ clsP (hA g 76 r) (hA g 77 r).toNatClampNeg c = true := fun c h1 h2 q => by
        unfold clsP at q
        rcases hnc with ⟨e1, e2⟩ | ⟨e1, e2⟩
        · rw [if_pos e2, decide_eq_true_iff] at q; omega
        · omega
      have e : dfT g w n ns np T (j + 1) r v B = fN (fun c B => if clsP (hA g 76 r) (hA g 77 r).toNatClampNeg c then (if (Classical.propDecidable (mvD g w n (upN v r c) r)).decide then dfT g w n ns np T j (r + 1) (upN v r c) B else B) else B) nc B := by
        show (if pI g w r = -1 then _ else _) = _
        rw [if_neg pl, ← fN_big 15 nc15 (fun c h1 h2 x => if_neg (bigc c h1 h2))]
        exact fl_fN (f := fun c B => if (Classical.propDecidable (mvD g w n (upN v r c) r)).decide then dfT g w n ns np T j (r + 1) (upN v r c) B else B) (P := clsP (hA g 76 r) (hA g 77 r).toNatClampNeg) 15
      rw [e] at kk
      have subN : ∀ {a b : Nat}, a ≤ b → nI b - nI a = nI (b - a) := fun {a b} hab => by
        have : nI b = nI (b - a) + nI a := by rw [nI_add, show b - a + a = b by omega]
        rw [this]; exact Int32.add_sub_cancel _ _
      -- all choices
      have ch : ∀ (b c : Nat) (h1 : aH), c + b = nc → MkF (mvQ g w r) h h1 → MkT g h1 w n ns np v r (fN (fun c B => if clsP (hA g 76 r) (hA g 77 r).toNatClampNeg c then (if (Classical.propDecidable (mvD g w n (upN v r c) r)).decide then dfT g w n ns np T j (r + 1) (upN v r c) B else B) else B) c B) → LX5_search_54 l E (d + 1) bc bs (nI (mvQ g w r)) (nI (T - mvC g w v r)) (nI c) h1 K := by
        intro b
        induction b with
        | zero =>
          intro c h1 hc f1 T1
          have hc : c = nc := by omega
          subst hc
          have C1 := C.fr f1 ns4
          have S1 := f1.1.sh S
          have f5 : hI h1 o 3 = hA g 76 r := by rw [C1.1.2.2.2.2.1 o (by omega)]; exact hl.1.1.2.2.2.2.1
          refine bX5_search_54 S1 ⟨vp_in_nI (by omega) (by omega), o, by rw [nI_clamp (by omega), f1.1.2.1]; exact q48, k_choices S1 (by omega) ⟨S1, ?_⟩⟩
          rw [f5, enc]
          exact ⟨fun _ => kk h1 f1 T1, fun z => absurd (nI_le (Nat.le_refl c) (by omega)) z⟩
        | succ b ihb =>
          intro c h1 hc f1 T1
          have ih2 := ihb (c + 1)
          rw [fN] at ih2
          generalize hBc : fN (fun c B => if clsP (hA g 76 r) (hA g 77 r).toNatClampNeg c then (if (Classical.propDecidable (mvD g w n (upN v r c) r)).decide then dfT g w n ns np T j (r + 1) (upN v r c) B else B) else B) c B = Bc at *
          have C1 := C.fr f1 ns4
          have S1 := f1.1.sh S
          have oc := okc c (by omega)
          have c15 : c < 15 := by omega
          have f5 : hI h1 o 3 = hA g 76 r := by rw [C1.1.2.2.2.2.1 o (by omega)]; exact hl.1.1.2.2.2.2.1
          have e51' : hA h1 51 (mvQ g w r) = hA g (o + 3) w := by rw [f1.1.2.2.2.2.2 51 (by unfold msA; omega)]; exact e51
          have vr : upN v r c r = c := by unfold upN; rw [if_pos rfl]
          have vl : ∀ x, x < r → upN v r c x = v x := fun x hx => by unfold upN; rw [if_neg (by omega)]
          have ei : mvI g w (upN v r c) r = fO (hA g 76 r) (nI c) := by unfold mvI; rw [if_neg pl, vr]
          have ej : mvJ g w (upN v r c) r = sO (hA g 76 r) (nI c) := by unfold mvJ; rw [if_neg pl, vr]
          have sc := same_c V.1.2 (w := w) hrn c15 oc c01 c02 c03
          have ecv : mvC g w (upN v r c) (r + 1) = mvC g w v r + (if nI c = hA g (o + 3) w then 0 else 1) := by
            rw [mvC, mvC_c r vl, ei, ej]
            have : (pI g w r = -1 ∨ (fO (hA g 76 r) (nI c) = pI g w r ∧ sO (hA g 76 r) (nI c) = pJ g w r)) ↔ nI c = hA g (o + 3) w := ⟨fun z => z.elim (fun t => absurd t pl) (fun t => sc.mp t), fun z => Or.inr (sc.mpr z)⟩
            rw [if_iff this]
          have next : ∀ h2, MkF (mvQ g w r) h h2 → MkT g h2 w n ns np v r (if clsP (hA g 76 r) (hA g 77 r).toNatClampNeg c then (if (Classical.propDecidable (mvD g w n (upN v r c) r)).decide then dfT g w n ns np T j (r + 1) (upN v r c) Bc else Bc) else Bc) → LX5_search_54 l E (d + 1) bc bs (nI (mvQ g w r)) (nI (T - mvC g w v r)) (nI c + nI 1) h2 K := fun h2 f2 T2 => by
            rw [nI_add]
            exact ih2 h2 (by omega) f2 T2
          have sk : (T < mvC g w (upN v r c) (r + 1) ∨ mvC g w (upN v r c) (r + 1) + mvQ g w ns < T + mvQ g w (r + 1)) → LX5_search_54 l E (d + 1) bc bs (nI (mvQ g w r)) (nI (T - mvC g w v r)) (nI c + nI 1) h1 K := fun z => by
            refine next h1 f1 ?_
            have : (if clsP (hA g 76 r) (hA g 77 r).toNatClampNeg c then (if (Classical.propDecidable (mvD g w n (upN v r c) r)).decide then dfT g w n ns np T j (r + 1) (upN v r c) Bc else Bc) else Bc) = Bc := by
              split
              · split
                · refine dfT_cut j (r + 1) (upN v r c) Bc (by omega) (fun v'' hv => ?_)
                  unfold lfT
                  have a1 := mvC_st (g := g) (w := w) (v := v'') (r := r + 1) j
                  rw [show r + 1 + j = ns by omega, mvC_c (r + 1) hv] at a1
                  rw [if_neg (by omega)]
                · rfl
              · rfl
            rw [this]
            exact T1
          have clc := clsP_iff V.1.2 hrn c15
          have ks1 := C1.1
          obtain ⟨t1, t2, t3, t4, t5, t6, t7⟩ := id T1
          have so1 := (C1.2.2.2 r (by omega) pl).2.2.2
          have soP : okP g r (fO (hA g 76 r) (nI c)) (sO (hA g 76 r) (nI c)) → ∀ {hh : aH}, (∀ i : Nat, (i : Int) < (hA g 77 r).toInt → ShO g hh w n r (5 + 4 * r) (evO g r) i) → ShO g hh w n r (5 + 4 * r) (evO g r) (fO (hA g 76 r) (nI c)).toNatClampNeg ∧ (¬ sO (hA g 76 r) (nI c) = -1 → ShO g hh w n r (5 + 4 * r) (evO g r) (sO (hA g 76 r) (nI c)).toNatClampNeg) := fun ok {hh} so1 => by
            obtain ⟨i', a1, a2, a3, a4, a5⟩ := ok.c V.1.2 hrn
            refine ⟨by rw [a2]; exact so1 i' a4, fun nj => ?_⟩
            rcases a5 with a5 | ⟨-, -, j', b1, b2, b3, b4, b5⟩
            · exact absurd a5.2 nj
            · rw [b2]; exact so1 j' b5
          -- the choice is tried
          have go : ∀ L, L = T - mvC g w (upN v r c) (r + 1) → mvC g w (upN v r c) (r + 1) ≤ T → T + mvQ g w (r + 1) ≤ mvC g w (upN v r c) (r + 1) + mvQ g w ns → CI l E d 0 0 mX8_suits [.inr (some (0, 8, 55 + mvQ g w r)), .inr (some (0, 9, o)), .inr (some (0, 10, 5 + 4 * r)), .inr (some (0, 1, 43)), .inl (nI c)] h1 (fun v14 h14 => SH h14 ∧ ((v14 = 0 → LX5_search_54 l E (d + 1) bc bs (nI (mvQ g w r)) (nI (T - mvC g w v r)) (nI c + nI 1) h14 K) ∧ (¬ v14 = 0 → (CV l E d 0 0 mX5_searchBehind [.inr (some (0, 5, 39)), .inl (nI (mvQ g w r)), .inl (nI L)] (stA h14 52 (mvQ g w r) (nI c)) (fun h16 => SH h16 ∧ LX5_search_54 l E (d + 1) bc bs (nI (mvQ g w r)) (nI (T - mvC g w v r)) (nI c + nI 1) h16 K))))) := fun L hL hc1 hc2 => by
            refine k_suits V ks1 hsh (Or.inr rfl) (scr_st k4) (by omega) hrn hl hw oc rfl rfl (fun ok => soP ok so1) t1 (by omega) t2 (fun _ _ => trivial) (fun _ _ => Iff.rfl) (fun h14 c14 ok ft st => ⟨c14.sh S1, fun z => absurd z (by decide), fun _ => ?_⟩) (fun h14 c14 nf => ⟨c14.sh S1, fun _ => ?_, fun z => absurd rfl z⟩)
            · obtain ⟨d, rfl⟩ : ∃ d', d = d' + 1 := ⟨d - 1, by omega⟩
              have hcl := clc.mpr ⟨oc, ok⟩
              have hcm : c ∈ clO g r := by
                unfold clO cls
                rw [List.mem_filter, List.mem_range]
                exact ⟨c15, hcl⟩
              have hD : mvD g w n (upN v r c) r := (mvD_up V.1.2 hrn pl hcm).mpr ft
              have cx : Ch (isA 52) (isQ (55 + mvQ g w r)) h1 (stA h14 52 (mvQ g w r) (nI c)) := (c14.mono (fun _ z => z.elim) (fun _ z => z)).tr (ch_A _ _ _ rfl)
              have ax52 : ∀ x, hA (stA h14 52 (mvQ g w r) (nI c)) 52 x = if x = mvQ g w r then nI c else hA h1 52 x := fun x => by
                rw [hA_st, c14.2.2.2.2.2 52 (fun z => z)]
                by_cases y : x = mvQ g w r
                · rw [if_pos ⟨rfl, y⟩, if_pos y]
                · rw [if_neg (fun z => y z.2), if_neg y]
              have ixx : hI (stA h14 52 (mvQ g w r) (nI c)) = hI h14 := rfl
              have stx : StO g (stA h14 52 (mvQ g w r) (nI c)) w n r (55 + mvQ g w r) (evO g r) (mvF g w n (upN v r c) r) (mvI g w (upN v r c) r) (mvJ g w (upN v r c) r) := by
                rw [mvF_c vl, ei, ej]
                exact st
              generalize stA h14 52 (mvQ g w r) (nI c) = hx at cx ax52 stx
              have fx : MkF (mvQ g w r) h1 hx := MkF.of cx (fun a ha => by have : a = 52 := ha; omega) (fun q z => by have : q = 55 + mvQ g w r := z; omega)
              have Cx := C1.fr fx ns4
              have Sx := fx.1.sh S1
              have mve : ∀ x, x < r → mvI g w v x = mvI g w (upN v r c) x ∧ mvJ g w v x = mvJ g w (upN v r c) x := fun x hx => mv_c (vl x hx).symm
              have enE : ∀ p a b, enO g w (mvI g w v) (mvJ g w v) (tbO g w n (mvI g w v) (mvJ g w v) r) r p a b = enO g w (mvI g w (upN v r c)) (mvJ g w (upN v r c)) (tbO g w n (mvI g w (upN v r c)) (mvJ g w (upN v r c)) r) r p a b := fun p a b => enO_c (fun x hx => ⟨(mve x hx).1, (mve x hx).2, by rw [tbO_c r mve]⟩) p a b
              have bdx : BdO hx 43 (fun _ => True) (enO g w (mvI g w (upN v r c)) (mvJ g w (upN v r c)) (tbO g w n (mvI g w (upN v r c)) (mvJ g w (upN v r c)) r) r) (2 * r) := by
                obtain ⟨z, hz, ez, hu⟩ := t1.ch cx (by show ¬ 43 + 1 = 52; decide) (by show ¬ 43 + 2 = 52; decide) (by show ¬ 43 + 3 = 52; decide) (by show ¬ 43 = 55 + mvQ g w r; omega)
                exact ⟨z, hz, ez, fun p hp hW a b => by rw [hu p hp hW a b, enE]⟩
              have edx : EdO g hx w 43 (mvI g w (upN v r c)) (mvJ g w (upN v r c)) r := fun c' hc' => by
                have := EdO.ch cx (show ¬ isA 52 (43 + 4) by decide) t2 c' hc'
                rw [← (mve c' hc').1, ← (mve c' hc').2]
                exact this
              have okx : okP g r (mvI g w (upN v r c) r) (mvJ g w (upN v r c) r) := by rw [ei, ej]; exact ok
              have sox := soP ok (hh := hx) (Cx.2.2.2 r (by omega) pl).2.2.2
              have Lq : nI (mvQ g w r) + nI 1 = nI (mvQ g w (r + 1)) := by rw [nI_add, eq]
              refine bX5_searchBehind_0 Sx ⟨vp_in_nI (by omega) (by omega), o, by rw [nI_clamp (by omega), fx.1.2.1, f1.1.2.1]; exact q48, 5 + 4 * r, by rw [nI_clamp (by omega), fx.1.2.1, f1.1.2.1]; exact q49, hsh, 55 + mvQ g w r, by rw [nI_clamp (by omega)]; exact Sx.2.2 _ k4, k_put V Cx.1 hsh (Or.inr rfl) (scr_st k4) (by omega) hrn hl hw rfl rfl okx (by rw [ei]; exact ft.1.1) (fun nj => by rw [ej] at nj ⊢; exact (ft.1.2 nj).1) (by rw [ei]; exact sox.1) (fun nj => by rw [ej] at nj ⊢; exact sox.2 nj) bdx edx (fun _ _ t _ => t) stx (fun h7 c7 b7 e7 f7 p7 => ⟨c7.sh Sx, ?_⟩)⟩
              have c7' : Ch msA (msO (mvQ g w r)) hx h7 := c7.mono (fun a ha => by unfold bdA at ha; unfold msA; omega) (fun q hq => by have : q = 43 := hq; unfold msO; omega)
              have C7 := Cx.fc c7' ns4
              have st7 := StO.ch c7 (show ¬ 55 + mvQ g w r = 43 by omega) stx
              refine k_mcharge (sg := nI 1) V C7 hns hnp (by omega) pl k4 okx st7 (by omega) (fun h8 c8 q8 => ⟨c8.sh (c7.sh Sx), ?_⟩)
              have c8' : Ch msA (msO (mvQ g w r)) h7 h8 := c8.mono (fun a ha => by have : a = 54 := ha; unfold msA; omega) (fun _ z => z.elim)
              have C8 := C7.fc c8' ns4
              have rs : ∀ p, p < np → 0 ≤ mvS g w n v p r ∧ mvS g w n v p r ≤ 1200 * r := fun p hp => mvS_rng V.1.2 (by omega) r (by omega)
              have rp : ∀ p, p < np → 0 ≤ (mvP g w n (upN v r c) r p).toInt ∧ (mvP g w n (upN v r c) r p).toInt ≤ 1200 := fun p hp => mvP_rng V.1.2 hrn (by omega)
              have esum : ∀ p, mvS g w n (upN v r c) p (r + 1) = mvS g w n v p r + (mvP g w n (upN v r c) r p).toInt := fun p => by rw [mvS, mvS_c r vl]
              have qlt : ∀ x, x < r → ¬ pI g w x = -1 → mvQ g w x < mvQ g w r := fun x hx hp => by
                have h1 := mvQ_st (g := g) (w := w) (r := x + 1) (r - (x + 1))
                rw [show x + 1 + (r - (x + 1)) = r by omega, mvQ, if_neg hp] at h1
                omega
              have T8 : MkT g h8 w n ns np (upN v r c) (r + 1) Bc := by
                refine ⟨b7.ch c8 (by show ¬ 43 + 1 = 54; decide) (by show ¬ 43 + 2 = 54; decide) (by show ¬ 43 + 3 = 54; decide) (fun z => z), EdO.ch c8 (show ¬ isA 54 (43 + 4) by decide) e7, fun c' hc' hp' => ?_, fun p hp => ?_, fun x hx hp => ?_, ?_, fun u hu x hx hp => ?_⟩
                · rw [c8.2.2.2.2.2 47 (by show ¬ 47 = 54; decide)]
                  rcases Nat.lt_trichotomy c' r with y | y | y
                  · have := e7 c' (by omega)
                    rw [show hA h7 47 c' = hA h7 (43 + 4) c' from rfl, this]
                    unfold edO mvI
                    rw [if_pos (if_pos hp')]
                  · rw [y] at hp'; exact absurd hp' pl
                  · have := f7 c' y
                    rw [show hA h7 47 c' = hA h7 (43 + 4) c' from rfl, this, cx.2.2.2.2.2 (43 + 4) (by show ¬ 43 + 4 = 52; decide)]
                    exact t3 c' hc' hp'
                · have e54 : hA h7 54 p = hA h1 54 p := by rw [c7.2.2.2.2.2 54 (by unfold bdA; omega), cx.2.2.2.2.2 54 (by show ¬ 54 = 52; decide)]
                  have := rs p hp
                  have := rp p hp
                  have := t4 p hp
                  rw [q8 p hp, e54, show nI 1 * mvP g w n (upN v r c) r p = mvP g w n (upN v r c) r p from Int32.one_mul _, esum, i_add (by omega) (by omega), t4 p hp]
                · rw [c8.2.2.2.2.2 52 (by show ¬ 52 = 54; decide), c7.2.2.2.2.2 52 (by unfold bdA; omega), ax52]
                  by_cases y : x = r
                  · rw [y, if_pos rfl, vr]
                  · have := qlt x (by omega) hp
                    rw [if_neg (by omega), vl x (by omega)]; exact t5 x (by omega) hp
                · unfold EvR
                  rw [c8.2.2.2.2.1 40 (fun z => z), c7.2.2.2.2.1 40 (by show ¬ 40 = 43; decide), cx.2.2.2.2.1 40 (by show ¬ 40 = 55 + mvQ g w r; omega), c8.2.2.2.2.2 (40 + 1) (by show ¬ 40 + 1 = 54; decide), c7.2.2.2.2.2 (40 + 1) (by unfold bdA; omega), cx.2.2.2.2.2 (40 + 1) (by show ¬ 40 + 1 = 52; decide)]
                  exact t6
                · rw [c8.2.2.2.2.2 53 (by show ¬ 53 = 54; decide), c7.2.2.2.2.2 53 (by unfold bdA; omega), cx.2.2.2.2.2 53 (by show ¬ 53 = 52; decide)]
                  exact t7 u hu x hx hp
              rw [Lq, hL]
              refine ih (r + 1) d 0 0 h8 (upN v r c) Bc _ (by omega) (by omega) C8 T8 hc1 hc2 (fun h9 f9 T9 => ⟨f9.1.sh (c8.sh (c7.sh Sx)), ?_⟩)
              have C9 := C8.fr f9 ns4
              have st9 := StO.ch f9.1 (show ¬ msO (mvQ g w (r + 1)) (55 + mvQ g w r) by unfold msO; omega) (StO.ch c8 (fun z => z) st7)
              refine k_mcharge (sg := -1) V C9 hns hnp (by omega) pl k4 okx st9 (by omega) (fun h10 c10 q10 => ⟨c10.sh (f9.1.sh (c8.sh (c7.sh Sx))), ?_⟩)
              have c9' : Ch msA (msO (mvQ g w r)) h8 h9 := f9.1.mono (fun _ z => z) (fun q hq => by unfold msO at hq ⊢; omega)
              have c10' : Ch msA (msO (mvQ g w r)) h9 h10 := c10.mono (fun a ha => by have : a = 54 := ha; unfold msA; omega) (fun _ z => z.elim)
              have cf : Ch msA (msO (mvQ g w r)) h1 (stI h10 43 4 (hI hx 43 4)) := ((((fx.1.tr c7').tr c8').tr c9').tr c10').tr (ch_I _ 4 _ (Or.inr (Or.inl rfl)))
              have bp : BdP h1 (stI h10 43 4 (hI hx 43 4)) 43 := fun z y hz ez hy => by
                have ezx : hI hx 43 4 = nI z := by rw [fx.2.1]; exact ez
                have z7 : z < 7 := by
                  obtain ⟨zz, hzz, ezz, -⟩ := bdx
                  have : z = zz := nI_inj (by omega) (by omega) (ezx.symm.trans ezz)
                  omega
                obtain ⟨z', hz1, hz2, ez'⟩ := p7.2 z z7 ezx
                have ez8 : hI h8 43 4 = nI z' := by rw [c8.2.2.2.2.1 43 (fun z => z)]; exact ez'
                obtain ⟨u1, u2, u3⟩ := fx.2.2 z y hz ez hy
                obtain ⟨w1, w2, w3⟩ := p7.1 z y hz ezx hy
                obtain ⟨x1, x2, x3⟩ := f9.2.2 z' y hz2 ez8 (by omega)
                rw [hA_sI, c10.2.2.2.2.2 (43 + 1) (by show ¬ 43 + 1 = 54; decide), c10.2.2.2.2.2 (43 + 2) (by show ¬ 43 + 2 = 54; decide), c10.2.2.2.2.2 (43 + 3) (by show ¬ 43 + 3 = 54; decide), x1, x2, x3, c8.2.2.2.2.2 (43 + 1) (by show ¬ 43 + 1 = 54; decide), c8.2.2.2.2.2 (43 + 2) (by show ¬ 43 + 2 = 54; decide), c8.2.2.2.2.2 (43 + 3) (by show ¬ 43 + 3 = 54; decide), w1, w2, w3, u1, u2, u3]
                exact ⟨rfl, rfl, rfl⟩
              have sz : hI (stI h10 43 4 (hI hx 43 4)) 43 4 = hI h1 43 4 := by rw [hI_st, if_pos ⟨rfl, rfl⟩]; exact fx.2.1
              have ff : MkF (mvQ g w r) h1 (stI h10 43 4 (hI hx 43 4)) := ⟨cf, sz, bp⟩
              refine ⟨cf.sh S1, next _ (f1.tr ff) ?_⟩
              rw [if_pos hcl, if_pos (dec_t hD)]
              obtain ⟨y1, y2, y3, y4, y5, y6, y7⟩ := T9
              have a10 : ∀ a, a ≠ 54 → hA (stI h10 43 4 (hI hx 43 4)) a = hA h9 a := fun a ha => c10.2.2.2.2.2 a ha
              refine ⟨?_, fun c' hc' => ?_, fun c' hc' hp' => by rw [a10 47 (by decide)]; exact y3 c' hc' hp', fun p hp => ?_, fun x hx hp => by rw [a10 52 (by decide), ← vl x hx]; exact y5 x (by omega) hp, ?_, fun u hu x hx hp => by rw [a10 53 (by decide)]; exact y7 u hu x hx hp⟩
              · obtain ⟨z, hz, ez, hu⟩ := t1
                refine ⟨z, hz, sz.trans ez, fun p hp hW a b => ?_⟩
                rw [← hu p hp hW a b]
                constructor
                · rintro ⟨k, hk, q⟩
                  obtain ⟨u1, u2, u3⟩ := bp z k (by omega) ez hk
                  rw [u1, u2, u3] at q
                  exact ⟨k, hk, q⟩
                · rintro ⟨k, hk, q⟩
                  obtain ⟨u1, u2, u3⟩ := bp z k (by omega) ez hk
                  exact ⟨k, hk, by rw [u1, u2, u3]; exact q⟩
              · rw [a10 (43 + 4) (by decide), y2 c' (by omega), (mve c' hc').1, (mve c' hc').2]
              · have e9 := y4 p hp
                rw [esum] at e9
                have := rs p hp
                have := rp p hp
                rw [hA_sI, q10 p hp, m1_mul, ← Int32.sub_eq_add_neg, i_sub (by omega) (by omega), e9]
                omega
              · unfold EvR
                rw [show hI (stI h10 43 4 (hI hx 43 4)) 40 = hI h10 40 from up2_ne (f := hI h10) (i := 43) (k := 4) (j := 40) (v := hI hx 43 4) (by decide), c10.2.2.2.2.1 40 (fun z => z), a10 (40 + 1) (by decide)]
                exact y6
            · have f14 : MkF (mvQ g w r) h1 h14 := MkF.of c14 (fun _ z => z.elim) (fun q z => by have : q = 55 + mvQ g w r := z; omega)
              refine next h14 (f1.tr f14) ?_
              have : (if clsP (hA g 76 r) (hA g 77 r).toNatClampNeg c then (if (Classical.propDecidable (mvD g w n (upN v r c) r)).decide then dfT g w n ns np T j (r + 1) (upN v r c) Bc else Bc) else Bc) = Bc := by
                split
                · rename_i hcl
                  have ok := (clc.mp hcl).2
                  have hcm : c ∈ clO g r := by
                    unfold clO cls
                    rw [List.mem_filter, List.mem_range]
                    exact ⟨c15, hcl⟩
                  rw [if_neg (dec_f (fun z => nf ⟨ok, (mvD_up V.1.2 hrn pl hcm).mp z⟩))]
                · rfl
              rw [this]
              exact T1.rest (c14.2.2.2.2.1 43 (by show ¬ 43 = 55 + _; omega)) (c14.2.2.2.2.1 40 (by show ¬ 40 = 55 + _; omega)) (fun a _ => c14.2.2.2.2.2 a (fun z => z))
          refine bX5_search_54 S1 ⟨vp_in_nI (by omega) (by omega), o, by rw [nI_clamp (by omega), f1.1.2.1]; exact q48, k_choices S1 (by omega) ⟨S1, ?_⟩⟩
          rw [f5, enc, nI_clamp (n := mvQ g w r) (by omega), e51', show hI h1 39 9 = nI (mvQ g w ns) from C1.2.1, subN (show mvQ g w r ≤ mvQ g w ns by omega)]
          have q50 : hQ h1 50 (mvQ g w r) = some (0, 8, 55 + mvQ g w r) := S1.2.2 _ k4
          have q48' : hQ h1 48 (mvQ g w r) = some (0, 9, o) := by rw [f1.1.2.1]; exact q48
          have q49' : hQ h1 49 (mvQ g w r) = some (0, 10, 5 + 4 * r) := by rw [f1.1.2.1]; exact q49
          refine ⟨fun z => absurd z (nI_ge (by omega) (by omega)), fun _ => ⟨fun ne => ?_, fun eqc => ?_⟩⟩
          · rw [if_neg ne] at ecv
            by_cases t0 : T - mvC g w v r = 0
            · rw [t0]
              exact ⟨fun _ => by rw [← t0]; exact sk (by omega), fun z => absurd (by decide) z⟩
            · obtain ⟨t', et⟩ : ∃ t', T - mvC g w v r = t' + 1 := ⟨T - mvC g w v r - 1, by omega⟩
              rw [et, nI_p1, ← et, nI_leI (by omega) (by omega)]
              exact ⟨fun z => absurd z (nI_pos (by omega)), fun _ => ⟨fun z => sk (by omega), fun z => ⟨_, q50, o, q48', _, q49', hsh, go t' (by omega) (by omega) (by omega)⟩⟩⟩
          · rw [if_pos eqc] at ecv
            rw [nI_leI (by omega) (by omega)]
            exact ⟨fun z => absurd z (nI_pos (by omega)), fun _ => ⟨fun z => sk (by omega), fun z => ⟨_, q50, o, q48', _, q49', hsh, go _ (by omega) (by omega) (by omega)⟩⟩⟩
      -- is it still worth while
      obtain ⟨t1, t2, t3, t4, t5, t6, t7⟩ := id t
      refine bX5_search_0 S (k_isBetter S (Or.inr rfl) (by omega) t6 (by decide) (fun h1 c1 => ?_))
      have f1 : MkF (mvQ g w r) h h1 := MkF.of c1 (fun a ha => by have : a = 42 := ha; omega) (fun _ z => z.elim)
      have T1 : MkT g h1 w n ns np v r B := t.rest (c1.2.2.2.2.1 43 (fun z => z)) (c1.2.2.2.2.1 40 (fun z => z)) (fun a ha => c1.2.2.2.2.2 a (by show ¬ a = 42; omega))
      have S1 := c1.sh S
      have e39 : hI h1 39 9 = nI (mvQ g w ns) := by rw [c1.2.2.2.2.1 39 (fun z => z)]; exact C.2.1
      refine ⟨fun be => ⟨S1, fun _ => ⟨fun _ => ch nc 0 h1 (by omega) f1 T1, fun z => absurd (by rw [e39]; exact nI_lt (by omega) (by omega)) z⟩, fun z => absurd z (by decide)⟩, fun be => ⟨S1, fun z => absurd rfl z, fun _ => kk h1 f1 ?_⟩⟩
      rw [← e]
      have : dfT g w n ns np T (j + 1) r v B = B := by
        cases B with
        | none => exact absurd ((beq t4).mpr (fun u hu => by cases hu)) be
        | some u =>
          refine dfT_cut (j + 1) r v (some u) hr (fun v' hv => ?_)
          unfold lfT
          split
          · show (if _ then _ else _) = _
            rw [if_neg (dec_f (fun z => be ((beq t4).mpr (fun u' hu' => by
              rw [← Option.some.inj hu']
              refine bet_mono (fun p hp => ?_) z
              have m := mvS_mono V.1.2 (w := w) (n := n) (v := v') (p := p) (by omega) (r := r) (j + 1) (by omega)
              rw [show r + (j + 1) = ns by omega, mvS_c r hv] at m
              exact m))))]
          · rfl
      rw [this]
      exact T1
