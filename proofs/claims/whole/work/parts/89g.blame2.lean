/-! ===== the class: leastSet, find ===== -/
theorem pc_pre {tb : Nat → Bool} {sp : Nat → Nat} {z : Nat} (hsp : ∀ k, k < z → sp k < 12) (inc : ∀ i k, i < k → k < z → sp i < sp k) : ∀ i, i ≤ z → ∀ b : Nat → Bool, (∀ p, p < 12 → (b p = true ↔ ∃ k, k < i ∧ tb k = true ∧ sp k = p)) → pcb b 12 = pcb tb i
  | 0, _, b, h => by
    rw [pcb_c (b' := fun _ => false) 12 (fun i hi => by
      cases e : b i with
      | false => rfl
      | true =>
        obtain ⟨k, hk, -⟩ := (h i hi).mp e
        exact absurd hk (Nat.not_lt_zero k))]
    rw [show pcb tb 0 = 0 from by rw [pcb]]
    decide
  | i + 1, hi, b, h => by
    cases e : tb i with
    | false =>
      rw [pc_pre (tb := tb) hsp inc i (by omega) b (fun p hp => by
        rw [h p hp]
        constructor
        · rintro ⟨k, k1, k2, k3⟩
          have : k ≠ i := fun y => by rw [y, e] at k2; cases k2
          exact ⟨k, by omega, k2, k3⟩
        · rintro ⟨k, k1, k2⟩; exact ⟨k, by omega, k2⟩)]
      rw [show pcb tb (i + 1) = pcb tb i + (if tb i then 1 else 0) from by rw [pcb], e]
      rfl
    | true =>
      have hb : b (sp i) = true := (h (sp i) (hsp i (by omega))).mpr ⟨i, by omega, e, rfl⟩
      rw [pcb_add (b := fun p => if p = sp i then false else b p) (b' := b) (p := sp i) (if_pos rfl) hb (fun q hq => (if_neg hq).symm) 12 (hsp i (by omega)), pc_pre (tb := tb) hsp inc i (by omega) (fun p => if p = sp i then false else b p) (fun p hp => by
        by_cases y : p = sp i
        · rw [if_pos y]
          refine ⟨fun q => (by cases q), fun ⟨k, k1, k2, k3⟩ => ?_⟩
          have := inc k i k1 (by omega)
          omega
        · rw [if_neg y, h p hp]
          constructor
          · rintro ⟨k, k1, k2, k3⟩
            have : k ≠ i := fun t => by rw [t] at k3; exact y k3.symm
            exact ⟨k, by omega, k2, k3⟩
          · rintro ⟨k, k1, k2⟩; exact ⟨k, by omega, k2⟩)]
      rw [show pcb tb (i + 1) = pcb tb i + (if tb i then 1 else 0) from by rw [pcb], e]
      rfl
section
variable {h : aH} {z : Nat} {sp : Nat → Nat}
theorem maS_pc (su : SuR h z sp) {t : Nat} {X : Int32} (m : maS z sp t X) (ht : t < 2 ^ z) : pc X = pcb (Nat.testBit t) 12 := by
  obtain ⟨hz, ez, hsp, inc⟩ := su
  have a := pc_pre (tb := fun k => t.testBit (z - 1 - k)) (fun k hk => (hsp k hk).2) inc z (Nat.le_refl z) (bt X) m.2
  rw [pcb_rev (Nat.testBit t) z] at a
  rw [pcb_big (b := Nat.testBit t) (z := z) (fun i hi => Nat.testBit_lt_two_pow (Nat.lt_of_lt_of_le ht (Nat.pow_le_pow_right (by decide) hi))) 12 hz]
  exact a
theorem maS_u {t : Nat} {X Y : Int32} (m : maS z sp t X) (m' : maS z sp t Y) : X = Y := sm_ext m.1 m'.1 (fun p hp => by rw [Bool.eq_iff_iff, m.2 p hp, m'.2 p hp])
theorem maS_ex (z : Nat) (sp : Nat → Nat) (t : Nat) : ∃ X, maS z sp t X := by
  have bd : ∀ p, p < 12 → (bt (nI (tnB (fun p => (Classical.propDecidable (∃ k, k < z ∧ t.testBit (z - 1 - k) = true ∧ sp k = p)).decide) 12)) p = true ↔ ∃ k, k < z ∧ t.testBit (z - 1 - k) = true ∧ sp k = p) := fun p hp => by
    have lt := tnB_lt (fun p => (Classical.propDecidable (∃ k, k < z ∧ t.testBit (z - 1 - k) = true ∧ sp k = p)).decide) 12
    rw [bt_nI (by omega), tnB_bt _ 12 p hp]
    by_cases c : ∃ k, k < z ∧ t.testBit (z - 1 - k) = true ∧ sp k = p
    · exact ⟨fun _ => c, fun _ => dec_t c⟩
    · exact ⟨fun q => absurd q (dec_f c), fun q => absurd q c⟩
  exact ⟨_, nat_sm (tnB_lt _ 12), bd⟩
/-- the greater number is ahead, when the sets are alike in size -/
theorem maS_ahd (su : SuR h z sp) {t t' : Nat} {X X' : Int32} (m : maS z sp t X) (m' : maS z sp t' X') (ht : t < 2 ^ z) (ht' : t' < 2 ^ z) (c : pcb (Nat.testBit t) 12 ≤ pcb (Nat.testBit t') 12) (c2 : pcb (Nat.testBit t') 12 = pcb (Nat.testBit t) 12 → t' ≤ t) : X' = X ∨ ahd X X' := by
  have p1 := maS_pc su m ht
  have p2 := maS_pc su m' ht'
  obtain ⟨hz, ez, hsp, inc⟩ := su
  by_cases e : pcb (Nat.testBit t') 12 = pcb (Nat.testBit t) 12
  · by_cases e2 : t' = t
    · subst e2; exact Or.inl (maS_u m' m)
    · obtain ⟨i, i1, i2, i3, i4⟩ := hi_bit ht' ht (show t' < t by have := c2 e; omega)
      refine Or.inr (Or.inr ⟨by omega, sp (z - 1 - i), (hsp _ (by omega)).2, ?_, ?_, fun q hq => ?_⟩)
      · rw [m.2 _ (hsp _ (by omega)).2]
        exact ⟨z - 1 - i, by omega, by rw [show z - 1 - (z - 1 - i) = i by omega]; exact i2, rfl⟩
      · rw [Bool.eq_false_iff, ne_eq, m'.2 _ (hsp _ (by omega)).2]
        rintro ⟨k, k1, k2, k3⟩
        have : k = z - 1 - i := by
          rcases Nat.lt_trichotomy k (z - 1 - i) with g | g | g
          · have := inc k (z - 1 - i) g (by omega); omega
          · exact g
          · have := inc (z - 1 - i) k g k1; omega
        subst this
        rw [show z - 1 - (z - 1 - i) = i by omega, i3] at k2
        cases k2
      · have q12 : q < 12 := by have := (hsp (z - 1 - i) (by omega)).2; omega
        rw [Bool.eq_iff_iff, m.2 q q12, m'.2 q q12]
        have key : ∀ k, k < z → sp k = q → t.testBit (z - 1 - k) = t'.testBit (z - 1 - k) := fun k k1 k3 => i4 _ (by
          have : k < z - 1 - i := Decidable.byContradiction fun y => by
            by_cases y2 : k = z - 1 - i
            · rw [y2] at k3; omega
            · have := inc (z - 1 - i) k (by omega) k1; omega
          omega)
        constructor
        · rintro ⟨k, k1, k2, k3⟩; exact ⟨k, k1, by rw [← key k k1 k3]; exact k2, k3⟩
        · rintro ⟨k, k1, k2, k3⟩; exact ⟨k, k1, by rw [key k k1 k3]; exact k2, k3⟩
  · exact Or.inr (Or.inl (by omega))
end
theorem full_z : ∀ z, z < 13 → (nI 1 <<< (nI z &&& 31)) - nI 1 = nI (2 ^ z - 1) := by decide
theorem k_leastSet {l : Launch} {E : eE} {d bc bs : Nat} {h : aH} {K : Int32 → aH → Prop} {z : Nat} {sp : Nat → Nat} {x1 : Int32} {G : Int32 → Prop} (S : SH h) (su : SuR h z sp) (hd : 2 ≤ d) (hb : ∀ t v X, t < 2 ^ z → (∀ c, bt v c = true ↔ ∃ k, k < z ∧ t.testBit (z - 1 - k) = true ∧ bt (hA h 62 k) c = true) → maS z sp t X → (v = x1 ↔ ¬ G X)) (k : ∀ v mu, sm 12 v → maS z sp (2 ^ z - 1) mu → (G mu → v = 0) → (¬ G mu → subS v mu ∧ ¬ G v ∧ ∀ X, sm 12 X → subS X mu → ¬ G X → X = v ∨ ahd v X) → K v h) : CI l E d bc bs mX0_leastSet [.inr (some (0, 0, 59)), .inl x1] h K := by
  obtain ⟨d, rfl⟩ : ∃ d', d = d' + 1 := ⟨d - 1, by omega⟩
  have hz := su.1
  have ez := su.2.1
  have hsp := su.2.2.1
  have z12 : 2 ^ z ≤ 4096 := by
    have : 2 ^ z ≤ 2 ^ 12 := Nat.pow_le_pow_right (by decide) hz
    omega
  have zp : 1 ≤ 2 ^ z := Nat.one_le_two_pow
  obtain ⟨mu, hmu⟩ := maS_ex z sp (2 ^ z - 1)
  have mu_in : ∀ k, k < z → bt mu (sp k) = true := fun k hk => by
    rw [hmu.2 _ (hsp k hk).2]
    refine ⟨k, hk, ?_, rfl⟩
    rw [Nat.testBit_two_pow_sub_one, decide_eq_true_iff]
    omega
  have sub : ∀ {t X}, maS z sp t X → subS X mu := fun {t X} m p hp => by
    have p12 : p < 12 := Decidable.byContradiction fun y => by rw [m.1 p (by omega)] at hp; cases hp
    obtain ⟨k, k1, k2, k3⟩ := (m.2 p p12).mp hp
    rw [← k3]; exact mu_in k k1
  refine bX0_leastSet_0 S ?_
  rw [ez, full_z z (by omega)]
  refine k_hindBy S su (by omega) (by omega) (fun v hv => ⟨S, fun e => ?_, fun e => k _ mu (sm_0 12) hmu (fun _ => rfl) (fun ng => absurd ((hb _ v mu (by omega) hv hmu).mpr ng) e)⟩)
  have nG : ¬ G mu := (hb _ v mu (by omega) hv hmu).mp e
  have lp : ∀ (y L : Nat) (XL : Int32), L < 2 ^ z → y ≤ L → maS z sp L XL → ¬ G XL → (∀ y' X', y ≤ y' → y' < 2 ^ z → maS z sp y' X' → ¬ G X' → pcb (Nat.testBit L) 12 ≤ pcb (Nat.testBit y') 12 ∧ (pcb (Nat.testBit y') 12 = pcb (Nat.testBit L) 12 → y' ≤ L)) → LX0_leastSet_24 l E (d + 1) bc bs x1 (nI L) (nI y - nI 1) h K := by
    intro y
    induction y with
    | zero =>
      intro L XL hL _ mL nL all
      refine bX0_leastSet_24 S ⟨fun _ => k_personsOf S su (by omega) (by omega) (fun X mX _ => ⟨S, ?_⟩), fun c => absurd (by decide) c⟩
      have : X = XL := maS_u mX mL
      subst this
      refine k X mu mX.1 hmu (fun g => absurd g nG) (fun _ => ⟨sub mX, nL, fun X' sX' uX' nX' => ?_⟩)
      -- X' is a set of suspects
      have m' : maS z sp (tnB (fun i => bt X' (sp (z - 1 - i))) z) X' := by
        refine ⟨sX', fun p hp => ⟨fun e => ?_, fun ⟨k, k1, k2, k3⟩ => ?_⟩⟩
        · obtain ⟨k, k1, k2, k3⟩ := (hmu.2 p hp).mp (uX' p e)
          refine ⟨k, k1, ?_, k3⟩
          rw [tnB_bt _ z _ (by omega), show z - 1 - (z - 1 - k) = k by omega, k3]
          exact e
        · rw [tnB_bt _ z _ (by omega), show z - 1 - (z - 1 - k) = k by omega, k3] at k2
          exact k2
      obtain ⟨a1, a2⟩ := all _ X' (Nat.zero_le _) (tnB_lt _ z) m' nX'
      exact maS_ahd su mX m' hL (tnB_lt _ z) a1 a2
    | succ y ih =>
      intro L XL hL hy mL nL all
      refine bX0_leastSet_24 S ?_
      rw [nI_p1 y]
      refine ⟨fun c => absurd c (nI_pos (by omega)), fun _ => c_bitCount S (by omega) ⟨S, c_bitCount S (by omega) ⟨S, ?_⟩⟩⟩
      have l1 := pcb_le (Nat.testBit L) 12
      have l2 := pcb_le (Nat.testBit y) 12
      have em : nI y + (-1) = nI y - nI 1 := by
        rw [Int32.sub_eq_add_neg]
        rfl
      rw [nI_leI (by omega) (by omega), em]
      obtain ⟨Xy, my⟩ := maS_ex z sp y
      have keep : (¬ G Xy → pcb (Nat.testBit L) 12 ≤ pcb (Nat.testBit y) 12) → LX0_leastSet_24 l E (d + 1) bc bs x1 (nI L) (nI y - nI 1) h K := fun q => ih L XL hL (by omega) mL nL (fun y' X' h1 h2 m' n' => by
        by_cases e : y' = y
        · subst e
          have : X' = Xy := maS_u m' my
          subst this
          exact ⟨q n', fun _ => by omega⟩
        · exact all y' X' (by omega) h2 m' n')
      refine ⟨fun c => keep (fun _ => c), fun c => k_hindBy S su (by omega) (by omega) (fun v hv => ⟨S, fun e => keep (fun nx => absurd ((hb y v Xy (by omega) hv my).mpr nx) e), fun e => ?_⟩)⟩
      have nx : ¬ G Xy := (hb y v Xy (by omega) hv my).mp e
      refine ih y Xy (by omega) (Nat.le_refl y) my nx (fun y' X' h1 h2 m' n' => ?_)
      by_cases e : y' = y
      · subst e; exact ⟨Nat.le_refl _, fun _ => Nat.le_refl _⟩
      · have := (all y' X' (by omega) h2 m' n').1
        exact ⟨by omega, fun t => by omega⟩
  refine lp (2 ^ z - 1) (2 ^ z - 1) mu (by omega) (Nat.le_refl _) hmu nG (fun y' X' h1 h2 m' n' => ?_)
  have : y' = 2 ^ z - 1 := by omega
  subst this
  exact ⟨Nat.le_refl _, fun _ => Nat.le_refl _⟩
abbrev blA : Nat → Prop := fun q => q = 61 ∨ q = 62
abbrev blO : Nat → Prop := fun q => q = 59 ∨ q = 60
theorem blA.ks {h h' : aH} (c : Ch blA blO h h') : KS h h' := c.ks (fun a ha => by unfold blA at ha; omega) (fun a z => by unfold blO at z; omega)
theorem scr60 : scr 60 := by decide
theorem k_suspects {l : Launch} {E : eE} {d bc bs : Nat} {h : aH} {K : aH → Prop} {g : aH} {s o : Nat} (V : LW g) (ks : KS g h) (hs : (s : Int) < (hI g 63 14).toInt) (hl : SeAt g s o) (hd : 2 ≤ d) (k : ∀ h1 z sp, Ch blA blO h h1 → SuR h1 z sp → (∀ k, k < z → hA h1 62 k = nI 0) → (∀ p, p < 12 → (muS g s p ↔ ∃ k, k < z ∧ sp k = p)) → K h1) : CV l E d bc bs mX0_listSuspects [.inr (some (0, 0, 59)), .inr (some (0, 9, o))] h K := by
  obtain ⟨d, rfl⟩ : ∃ d', d = d' + 1 := ⟨d - 1, by omega⟩
  have S := (ks.lv V).1.1
  have ho := hl.o
  have hro : SeRo g g s o := hl.1.2.2.1
  refine bX0_listSuspects_0 S ⟨o + 2, by rw [ks.1]; exact hl.1.1.2.2.2.2.2.2.2.1, k_chairAlone (ks.lv V).1 (by omega) (by rw [ks.re.1]; exact hs) (ks.se V hs hl) (fun v2 sv hv => ⟨S, ?_⟩)⟩
  rw [ks.re.2 76 (by decide) (by decide)] at hv
  rw [show (nI 1).toNatClampNeg = 1 from by decide, ks.2.2.2.2.2 (o + 2) (by omega)]
  have bx : ∀ p, p < 12 → (bt (hA g (o + 2) 1 ||| v2) p = true ↔ muS g s p) := fun p hp => by
    rw [bt_or, Bool.or_eq_true, hv p hp, (hro 1 (by decide)).2 (by decide) p hp]
    have r1 : hA g 79 (12 * s + p) = nI 1 ↔ roO g s p = 1 := ⟨fun z => by unfold roO; rw [z]; decide, fun z => i32_eq (by decide) z⟩
    rw [r1]
    exact ⟨fun q => ⟨ev_lt V.1.2 hs hp (q.imp (fun t => by omega) id), q⟩, fun q => q.2⟩
  generalize hA g (o + 2) 1 ||| v2 = x at bx
  have lp : ∀ (b p z : Nat) (sp : Nat → Nat) (h1 : aH), p + b = 12 → z ≤ p → Ch blA blO h h1 → hI h1 59 3 = nI z → (∀ k, k < z → hA h1 61 k = nI (sp k) ∧ hA h1 62 k = nI 0 ∧ sp k < p) → (∀ i k, i < k → k < z → sp i < sp k) → (∀ q, q < p → (muS g s q ↔ ∃ k, k < z ∧ sp k = q)) → LX0_listSuspects_19 l E (d + 1) bc bs o x (nI p) h1 K := by
    intro b
    induction b with
    | zero =>
      intro p z sp h1 hp hz c e1 e2 e3 e4
      have hp : p = 12 := by omega
      subst hp
      exact bX0_listSuspects_19 (c.sh S) ⟨fun _ => k h1 z sp c ⟨hz, e1, fun k hk => ⟨(e2 k hk).1, (e2 k hk).2.2⟩, e3⟩ (fun k hk => (e2 k hk).2.1) (fun p hp => e4 p hp), fun q => absurd (nI_le (Nat.le_refl 12) (by omega)) q⟩
    | succ b ih =>
      intro p z sp h1 hp hz c e1 e2 e3 e4
      refine bX0_listSuspects_19 (c.sh S) ⟨fun q => absurd q (nI_ge (by omega) (by omega)), fun _ => k_isIn (c.sh S) (by omega) ⟨c.sh S, ?_⟩⟩
      rw [nI_add p 1, e1, nI_clamp (n := z) (by omega), nI_add z 1]
      have bp := bx p (by omega)
      cases eb : bt x p with
      | false =>
        have nm : ¬ muS g s p := fun q => by rw [bp.mpr q] at eb; cases eb
        refine ⟨fun _ => ih (p + 1) z sp h1 (by omega) (by omega) c e1 (fun k hk => ⟨(e2 k hk).1, (e2 k hk).2.1, by have := (e2 k hk).2.2; omega⟩) e3 (fun q hq => ?_), fun q => absurd rfl q⟩
        by_cases y : q = p
        · subst y
          exact ⟨fun t => absurd t nm, fun ⟨k, k1, k2⟩ => by have := (e2 k k1).2.2; omega⟩
        · exact e4 q (by omega)
      | true =>
        have ym : muS g s p := bp.mp eb
        refine ⟨fun q => absurd q (by decide), fun _ => ⟨vp_in_nI (by omega) (by omega), ih (p + 1) (z + 1) (fun k => if k = z then p else sp k) _ (by omega) (by omega) (((c.tr (ch_A _ z _ (Or.inl rfl))).tr (ch_A _ z _ (Or.inr rfl))).tr (ch_I _ 3 _ (Or.inl rfl))) (by simp [hI_st]) (fun k hk => ?_) (fun i k h1 h2 => ?_) (fun q hq => ?_)⟩⟩
        · rw [hA_sI]
          by_cases y : k = z
          · subst y
            simp [hA_st]
          · obtain ⟨a1, a2, a3⟩ := e2 k (by omega)
            simp [hA_st, y]
            exact ⟨a1, a2, by omega⟩
        · show (if i = z then p else sp i) < (if k = z then p else sp k)
          rw [if_neg (by omega)]
          by_cases y : k = z
          · rw [if_pos y]; exact (e2 i (by omega)).2.2
          · rw [if_neg y]; exact e3 i k h1 (by omega)
        · by_cases y : q = p
          · subst y
            exact ⟨fun _ => ⟨z, by omega, if_pos rfl⟩, fun _ => ym⟩
          · rw [e4 q (by omega)]
            constructor
            · rintro ⟨k, k1, k2⟩; exact ⟨k, by omega, by rw [if_neg (by omega)]; exact k2⟩
            · rintro ⟨k, k1, k2⟩
              by_cases t : k = z
              · rw [if_pos t] at k2; omega
              · rw [if_neg t] at k2; exact ⟨k, by omega, k2⟩
  refine lp 12 0 0 (fun _ => 0) _ (by omega) (Nat.le_refl 0) (ch_I (A := blA) (O := blO) h 3 _ (Or.inl rfl)) (by simp [hI_st]) (fun k hk => absurd hk (Nat.not_lt_zero k)) (fun i k _ h2 => absurd h2 (Nat.not_lt_zero k)) (fun q hq => absurd hq (Nat.not_lt_zero q))
