/-! ===== shifted ===== -/
theorem role_rng {h : aH} (S : RI h) {s p : Nat} (hs : s < 4) (hp : p < 12) : 0 ≤ (hA h 79 (12 * s + p)).toInt ∧ (hA h 79 (12 * s + p)).toInt ≤ 5 := ⟨(S.2.2.2.2.2.2.2.1 s p hs hp).1, (S.2.2.2.2.2.2.2.1 s p hs hp).2.1⟩
def kWR (f : Nat → Int32) : Nat → Int32
  | 0 => nI 0
  | k + 1 => if k = 0 then nI 0 else kWR f k ||| f k
theorem w_withRole {l : Launch} {E : eE} {d bc bs : Nat} {h : aH} {K : Int32 → aH → Prop} {o : Nat} (S : SH h) (hr : hR h o 5 = some (1, 6, o + 2)) (k : K (kWR (hA h (o + 2)) 6) h) : ∀ (j i : Nat), 1 ≤ i → i + j = 6 → LX9_withRole_4 l E d bc bs o (kWR (hA h (o + 2)) i) (nI i) h K := by
  intro j
  induction j with
  | zero =>
    intro i _ hi
    have hi : i = 6 := by omega
    subst hi
    exact bX9_withRole_4 S ⟨fun _ => k, fun c => absurd (nI_le (Nat.le_refl 6) (by omega)) c⟩
  | succ j ih =>
    intro i h1 hi
    have ih := ih (i + 1) (by omega) (by omega)
    refine bX9_withRole_4 S ⟨fun c => absurd c (nI_ge (by omega) (by omega)), fun _ => ⟨o + 2, hr, vp_in_nI (by omega) (by omega), ?_⟩⟩
    rw [nI_clamp (by omega), nI_add]
    rw [kWR, if_neg (by omega)] at ih
    exact ih
theorem kWR_sp {h : aH} (S : RI h) {s o : Nat} (hs : s < 4) (ro : SeRo h h s o) : ∀ n, n ≤ 6 → sm 12 (kWR (hA h (o + 2)) n) ∧ ∀ p, p < 12 → (bt (kWR (hA h (o + 2)) n) p = true ↔ (1 ≤ (hA h 79 (12 * s + p)).toInt ∧ (hA h 79 (12 * s + p)).toInt < n)) := by
  intro n
  induction n with
  | zero =>
    intro _
    refine ⟨sm_0 12, fun p hp => ?_⟩
    rw [kWR, show bt (nI 0) p = false from bt_0 p]
    refine ⟨fun z => (by cases z), fun z => ?_⟩
    omega
  | succ n ih =>
    intro hn
    obtain ⟨i1, i2⟩ := ih (by omega)
    rw [kWR]
    by_cases g : n = 0
    · rw [if_pos g]
      refine ⟨sm_0 12, fun p hp => ?_⟩
      rw [show bt (nI 0) p = false from bt_0 p]
      refine ⟨fun z => (by cases z), fun z => ?_⟩
      omega
    · rw [if_neg g]
      obtain ⟨r1, r2⟩ := ro n (by omega)
      refine ⟨sm_or i1 r1, fun p hp => ?_⟩
      have r3 := r2 (by omega) p hp
      have rr := role_rng S hs hp
      have r4 : hA h 79 (12 * s + p) = nI n ↔ (hA h 79 (12 * s + p)).toInt = n := ⟨fun z => by rw [z, nI_toInt (by omega)], fun z => i32_eq (by omega) z⟩
      rw [bt_or, Bool.or_eq_true, i2 p hp, r3, r4]
      omega
theorem k_withRole {l : Launch} {E : eE} {d bc bs : Nat} {h : aH} {K : Int32 → aH → Prop} {s o : Nat} (S : SR h) (hs : s < 4) (hl : SeAt h s o) (k : ∀ v, sm 12 v → (∀ p, p < 12 → (bt v p = true ↔ 1 ≤ (hA h 79 (12 * s + p)).toInt)) → K v h) : CI l E d bc bs mX9_withRole [.inr (some (0, 9, o))] h K := by
  obtain ⟨a, b⟩ := kWR_sp S.2 hs hl.1.2.2.1 6 (Nat.le_refl 6)
  refine bX9_withRole_0 S.1 (w_withRole S.1 hl.1.1.2.2.2.2.2.2.2.1 (k _ a (fun p hp => ?_)) 5 1 (by omega) (by omega))
  rw [b p hp]
  have := role_rng S.2 hs hp
  omega
theorem k_chairAlone {l : Launch} {E : eE} {d bc bs : Nat} {h : aH} {K : Int32 → aH → Prop} {s o : Nat} (S : SR h) (hd : 1 ≤ d) (hs : (s : Int) < (hI h 63 14).toInt) (hl : SeAt h s o) (k : ∀ v, sm 12 v → (∀ p, p < 12 → (bt v p = true ↔ hA h 76 s = nI p)) → K v h) : CI l E d bc bs mX9_chairAlone [.inr (some (0, 9, o))] h K := by
  obtain ⟨d, rfl⟩ : ∃ d', d = d' + 1 := ⟨d - 1, by omega⟩
  have hN := S.2.1
  unfold RIn at hN
  have f5 := hl.1.1.2.2.2.2.1
  have hc := (S.2.2.2.2.2.2.1 s hs).2.2.1
  refine bX9_chairAlone_0 S.1 (k_isSplit S.1 ?_)
  by_cases g : hI h o 3 = -1
  · rw [if_pos g]
    refine ⟨S.1, fun _ => k _ (sm_0 12) (fun p hp => ?_), fun z => absurd rfl z⟩
    rw [show bt (nI 0) p = false from bt_0 p, ← f5, g]
    exact ⟨fun z => (by cases z), fun z => absurd z.symm (nI_m1 (by omega))⟩
  · rw [if_neg g]
    have hc := hc.resolve_left (fun z => g (f5.trans z))
    have e := i32_nn hc.1
    have e2 := i32_clamp hc.1
    have h2 := hc.2
    refine ⟨S.1, fun z => absurd z (by decide), fun _ => ?_⟩
    rw [f5, e]
    refine k _ (sm_pow (by omega) (by decide)) (fun p hp => ?_)
    rw [bt_pow (by omega) (by omega), decide_eq_true_iff]
    exact ⟨fun z => by rw [e, z], fun z => (nI_inj (by omega) (by omega) (e.symm.trans z)).symm⟩
theorem k_everyone {l : Launch} {E : eE} {d bc bs : Nat} {h : aH} {K : Int32 → aH → Prop} {s o : Nat} (S : SR h) (hd : 2 ≤ d) (hs : (s : Int) < (hI h 63 14).toInt) (hl : SeAt h s o) (k : ∀ v, sm 12 v → (∀ p, p < 12 → (bt v p = true ↔ (1 ≤ (hA h 79 (12 * s + p)).toInt ∨ hA h 76 s = nI p))) → K v h) : CI l E d bc bs mX9_everyone [.inr (some (0, 9, o))] h K := by
  obtain ⟨d, rfl⟩ : ∃ d', d = d' + 1 := ⟨d - 1, by omega⟩
  have hN := S.2.1
  unfold RIn at hN
  refine bX9_everyone_0 S.1 (k_withRole S (by omega) hl (fun v a b => ⟨S.1, k_chairAlone S (by omega) hs hl (fun v2 a2 b2 => ⟨S.1, k _ (sm_or a a2) (fun p hp => ?_)⟩)⟩))
  rw [bt_or, Bool.or_eq_true, b p hp, b2 p hp]
/-! a meeting is shifted for one who has a role -/
def rShB (h : aH) (s : Nat) (t : Int32) (n m : Nat) (q : Nat) : Prop := ∃ p, p < q ∧ 1 ≤ (hA h 79 (12 * s + p)).toInt ∧ ¬ rOff h (hA h 65 p) t n = rOff h (hA h 65 p) t m
theorem w_isSh {l : Launch} {E : eE} {d bc bs : Nat} {h : aH} {K : Int32 → aH → Prop} {s : Nat} {t x3 x4 : Int32} {np : Nat} (S : SR h) (hs : s < 4) (hnp : (np : Int) = (hI h 63 3).toInt) (h3 : 0 ≤ x3.toInt ∧ x3.toInt ≤ (hI h 63 8).toInt) (h4 : 0 ≤ x4.toInt ∧ x4.toInt ≤ (hI h 63 8).toInt) (k1 : rShB h s t x3.toNatClampNeg x4.toNatClampNeg np → K (nI 1) h) (k0 : ¬ rShB h s t x3.toNatClampNeg x4.toNatClampNeg np → K (nI 0) h) : ∀ (j i : Nat), i + j = np → (∀ a, a < i → ¬ (1 ≤ (hA h 79 (12 * s + a)).toInt ∧ ¬ rOff h (hA h 65 a) t x3.toNatClampNeg = rOff h (hA h 65 a) t x4.toNatClampNeg)) → LX12_isShifted_3 l E (d + 1) bc bs (nI s) t x3 x4 (nI i) h K := by
  have hN := S.2.1
  unfold RIn at hN
  have en : hI h 63 3 = nI np := by rw [i32_nn hN.2.1.1, show (hI h 63 3).toNatClampNeg = np by have := i32_clamp hN.2.1.1; omega]
  intro j
  induction j with
  | zero =>
    intro i hi hno
    have hi : i = np := by omega
    subst hi
    exact bX12_isShifted_3 S.1 ⟨fun _ => k0 (fun ⟨a, ha, q⟩ => hno a ha q), fun c => absurd (by rw [en]; exact nI_le (Nat.le_refl i) (by omega)) c⟩
  | succ j ih =>
    intro i hi hno
    have es : (nI s).toInt = s := nI_toInt (by omega)
    have ei : (nI i).toInt = i := nI_toInt (by omega)
    have m12 : (nI 12 * nI s).toInt = 12 * s := by rw [i_mul (by rw [ti_12]; omega) (by rw [ti_12]; omega), ti_12, es]
    have a12 : (nI 12 * nI s + nI i).toInt = 12 * s + i := by rw [i_add (by omega) (by omega), m12, ei]
    have c12 := i32_clamp (x := nI 12 * nI s + nI i) (by omega)
    have hpp := S.2.2.2.1 i (by omega)
    have hv : vp_in (hA h 65 i) 8 := vp_of hpp.1.1 (by have := hpp.1.2; omega)
    refine bX12_isShifted_3 S.1 ⟨fun c => absurd c (by rw [en]; exact nI_ge (by omega) (by omega)), fun _ => ⟨vp_of (by omega) (by omega), ?_⟩⟩
    rw [show (nI 12 * nI s + nI i).toNatClampNeg = 12 * s + i by omega, nI_clamp (n := i) (by omega), nI_add]
    have st : ¬ (1 ≤ (hA h 79 (12 * s + i)).toInt ∧ ¬ rOff h (hA h 65 i) t x3.toNatClampNeg = rOff h (hA h 65 i) t x4.toNatClampNeg) → LX12_isShifted_3 l E (d + 1) bc bs (nI s) t x3 x4 (nI (i + 1)) h K := fun q => ih (i + 1) (by omega) (lt_s hno q)
    refine ⟨fun c => st (fun q => ?_), fun c => ⟨vp_in_nI (by omega) (by omega), ⟨h3.1, by omega⟩, hv, ⟨h4.1, by omega⟩, hv, fun c2 => st (fun q => q.2 c2), fun c2 => k1 ⟨i, by omega, ?_, c2⟩⟩⟩
    · rw [Int32.le_iff_toInt_le, ti_z] at c; omega
    · rw [Int32.le_iff_toInt_le, ti_z] at c; omega
theorem w_kisSh {l : Launch} {E : eE} {d bc bs : Nat} {h : aH} {K : Int32 → aH → Prop} {s o : Nat} {t x3 x4 wr : Int32} {np : Nat} (V : LV h) (hs : s < 4) (hnp : (np : Int) = (hI h 63 3).toInt) (hwr : ∀ p, p < 12 → (bt wr p = true ↔ 1 ≤ (hA h 79 (12 * s + p)).toInt)) (h3 : 0 ≤ x3.toInt ∧ x3.toInt ≤ (hI h 63 8).toInt) (h4 : 0 ≤ x4.toInt ∧ x4.toInt ≤ (hI h 63 8).toInt) (k1 : rShB h s t x3.toNatClampNeg x4.toNatClampNeg np → K (nI 1) h) (k0 : ¬ rShB h s t x3.toNatClampNeg x4.toNatClampNeg np → K (nI 0) h) : ∀ (j i : Nat), i + j = np → (∀ a, a < i → ¬ (1 ≤ (hA h 79 (12 * s + a)).toInt ∧ ¬ rOff h (hA h 65 a) t x3.toNatClampNeg = rOff h (hA h 65 a) t x4.toNatClampNeg)) → LX11_isShifted_16 l E (d + 1) bc bs o t x3 x4 wr (nI i) h K := by
  have S := V.1
  have hN := S.2.1
  unfold RIn at hN
  have en : hI h 0 10 = nI np := by rw [V.2.1.1.1.2.1, i32_nn hN.2.1.1, show (hI h 63 3).toNatClampNeg = np by have := i32_clamp hN.2.1.1; omega]
  intro j
  induction j with
  | zero =>
    intro i hi hno
    have hi : i = np := by omega
    subst hi
    exact bX11_isShifted_16 S.1 ⟨fun _ => k0 (fun ⟨a, ha, q⟩ => hno a ha q), fun c => absurd (by rw [en]; exact nI_le (Nat.le_refl i) (by omega)) c⟩
  | succ j ih =>
    intro i hi hno
    have hpp := S.2.2.2.1 i (by omega)
    obtain ⟨po, pa, hpe⟩ := V.2.1.1.2.2 i (by omega)
    have hlc := i32_clamp hpp.1.1
    obtain ⟨lo, hlo⟩ := V.2.1.1.2.1 (hA h 65 i).toNatClampNeg (by have := hpp.1.2; omega)
    have hli : ((hA h 65 i).toNatClampNeg : Int) < (hI h 63 1).toInt := by have := hpp.1.2; omega
    have hln : nI (hA h 65 i).toNatClampNeg = hA h 65 i := (i32_nn hpp.1.1).symm
    have hho : hR h po 0 = some (0, 4, lo) := hpe.2.1.trans hlo.1
    have st : ¬ (1 ≤ (hA h 79 (12 * s + i)).toInt ∧ ¬ rOff h (hA h 65 i) t x3.toNatClampNeg = rOff h (hA h 65 i) t x4.toNatClampNeg) → LX11_isShifted_16 l E (d + 1) bc bs o t x3 x4 wr (nI (i + 1)) h K := fun q => ih (i + 1) (by omega) (lt_s hno q)
    have hb := hwr i (by omega)
    refine bX11_isShifted_16 S.1 ⟨fun c => absurd c (by rw [en]; exact nI_ge (by omega) (by omega)), fun _ => ⟨vp_in_nI (by omega) (by omega), po, by rw [nI_clamp (by omega)]; exact hpe.1, k_isIn S.1 (by omega) ⟨S.1, ?_⟩⟩⟩
    rw [nI_add]
    cases e : bt wr i with
    | false => exact ⟨fun _ => st (fun q => by rw [← hb, e] at q; exact absurd q.1 (by decide)), fun z => absurd rfl z⟩
    | true =>
      have hro := hb.mp e
      refine ⟨fun z => absurd z (by decide), fun _ => ⟨lo, hho, k_offL S hlo hli h3 ⟨S.1, k_offL S hlo hli h4 ⟨S.1, ?_⟩⟩⟩⟩
      rw [hln]
      exact ⟨fun c => st (fun q => q.2 c), fun c => k1 ⟨i, by omega, hro, c⟩⟩
/-- what half k of all planned halves adds -/
noncomputable def rShK (h : aH) (n m : Nat) (k : Nat) : Int32 := if hA h 80 k = -1 then nI 0 else if Classical.propDecidable (rShB h (k / 104) (nI 336 * nI (k % 104 / 2) + hA h 78 (6 * (k / 104) + (hA h 80 k).toNatClampNeg)) n m (hI h 63 3).toNatClampNeg) |>.decide then nI 1 else nI 0
noncomputable def rSh (h : aH) (n m : Nat) : Nat → Int32
  | 0 => nI 0
  | k + 1 => rSh h n m k + rShK h n m k
theorem half_at {h : aH} (S : RI h) {s w b : Nat} (hs : (s : Int) < (hI h 63 14).toInt) (hw : w < 52) (hb : b < 2) : hA h 80 (104 * s + 2 * w + b) = -1 ∨ ∃ i : Nat, hA h 80 (104 * s + 2 * w + b) = nI i ∧ (i : Int) < (hA h 77 s).toInt ∧ 336 * (w : Int) + (hA h 78 (6 * s + i)).toInt + (hA h 74 s).toInt ≤ 17472 := by
  have hN := S.1
  unfold RIn at hN
  rcases RPl.at S (s := s) (w := w) (by omega) hw with p | ⟨p0, i, p1, p2, p3, p4⟩
  · rcases (show b = 0 ∨ b = 1 by omega) with rfl | rfl
    · exact Or.inl p.1
    · exact Or.inl p.2
  · rcases (show b = 0 ∨ b = 1 by omega) with rfl | rfl
    · exact Or.inr ⟨i, p1, p2, p3⟩
    · rcases p4 with p4 | ⟨-, j, -, p5, p6, p7⟩
      · exact Or.inl p4.2
      · exact Or.inr ⟨j, p6, p5, p7⟩
theorem rShK_at {h : aH} {n m s w b i : Nat} (hw : w < 52) (hb : b < 2) (hi : i < 2 ^ 31) (e : hA h 80 (104 * s + 2 * w + b) = nI i) : (rShB h s (rAt h s i w) n m (hI h 63 3).toNatClampNeg → rShK h n m (104 * s + 2 * w + b) = nI 1) ∧ (¬ rShB h s (rAt h s i w) n m (hI h 63 3).toNatClampNeg → rShK h n m (104 * s + 2 * w + b) = nI 0) := by
  unfold rShK rAt
  rw [e, if_neg (nI_m1 hi), nI_clamp hi, show (104 * s + 2 * w + b) / 104 = s by omega, show (104 * s + 2 * w + b) % 104 / 2 = w by omega]
  exact ⟨fun q => if_pos (dec_t q), fun q => if_neg (dec_f q)⟩
theorem rShK_no {h : aH} {n m k : Nat} (e : hA h 80 k = -1) : rShK h n m k = nI 0 := if_pos e
theorem w_sh45 {l : Launch} {E : eE} {d bc bs : Nat} {h : aH} {K : Int32 → aH → Prop} {x1 x2 : Int32} {s w : Nat} (S : SR h) (hs : (s : Int) < (hI h 63 14).toInt) (hw : w < 52) (h3 : 0 ≤ x1.toInt ∧ x1.toInt ≤ (hI h 63 8).toInt) (h4 : 0 ≤ x2.toInt ∧ x2.toInt ≤ (hI h 63 8).toInt) (k : LX12_shifted_35 l E (d + 1) bc bs x1 x2 (rSh h x1.toNatClampNeg x2.toNatClampNeg (104 * s + 2 * (w + 1))) (nI s) (nI (w + 1)) h K) : ∀ (j b : Nat), b + j = 2 → 1 ≤ d → LX12_shifted_45 l E (d + 1) bc bs x1 x2 (rSh h x1.toNatClampNeg x2.toNatClampNeg (104 * s + 2 * w + b)) (nI s) (nI w) (nI b) h K := by
  have hN := S.2.1
  unfold RIn at hN
  have hse := S.2.2.2.2.2.2.1 s hs
  have h77 := hse.2.2.2.1
  intro j
  induction j with
  | zero =>
    intro b hb _
    have hb : b = 2 := by omega
    subst hb
    exact bX12_shifted_45 S.1 ⟨fun _ => by rw [nI_add]; exact k, fun c => absurd (nI_le (Nat.le_refl 2) (by omega)) c⟩
  | succ j ih =>
    intro b hb hd
    have ih := ih (b + 1) (by omega) hd
    obtain ⟨d, rfl⟩ : ∃ d', d = d' + 1 := ⟨d - 1, by omega⟩
    have es : (nI s).toInt = s := nI_toInt (by omega)
    have ew : (nI w).toInt = w := nI_toInt (by omega)
    have eb : (nI b).toInt = b := nI_toInt (by omega)
    have m52 : (nI 52 * nI s).toInt = 52 * s := by rw [i_mul (by rw [ti_52]; omega) (by rw [ti_52]; omega), ti_52, es]
    have a52 : (nI 52 * nI s + nI w).toInt = 52 * s + w := by rw [i_add (by omega) (by omega), m52, ew]
    have m2 : (nI 2 * (nI 52 * nI s + nI w)).toInt = 2 * (52 * s + w) := by rw [i_mul (by rw [ti_2]; omega) (by rw [ti_2]; omega), ti_2, a52]
    have a2 : (nI 2 * (nI 52 * nI s + nI w) + nI b).toInt = 2 * (52 * s + w) + b := by rw [i_add (by omega) (by omega), m2, eb]
    have c2 := i32_clamp (x := nI 2 * (nI 52 * nI s + nI w) + nI b) (by omega)
    refine bX12_shifted_45 S.1 ⟨fun c => absurd c (nI_ge (by omega) (by omega)), fun _ => ⟨vp_of (by omega) (by omega), ?_⟩⟩
    rw [show (nI 2 * (nI 52 * nI s + nI w) + nI b).toNatClampNeg = 104 * s + 2 * w + b by omega, nI_add]
    rw [← Nat.add_assoc, rSh] at ih
    refine ⟨fun c => ?_, fun c => ?_⟩
    · rw [rShK_no c, show ∀ y : Int32, y + nI 0 = y from Int32.add_zero] at ih
      exact ih
    · rcases half_at S.2 hs hw (show b < 2 by omega) with q | ⟨i, q1, q2, q3⟩
      · exact absurd q c
      · have ei : (nI i).toInt = i := nI_toInt (by omega)
        have m6 : (nI 6 * nI s).toInt = 6 * s := by rw [i_mul (by rw [ti_6]; omega) (by rw [ti_6]; omega), ti_6, es]
        have a6 : (nI 6 * nI s + nI i).toInt = 6 * s + i := by rw [i_add (by omega) (by omega), m6, ei]
        have c6 := i32_clamp (x := nI 6 * nI s + nI i) (by omega)
        obtain ⟨y1, y2⟩ := rShK_at (h := h) (n := x1.toNatClampNeg) (m := x2.toNatClampNeg) (s := s) hw (show b < 2 by omega) (by omega) q1
        rw [q1]
        refine ⟨vp_of (by omega) (by omega), bX12_isShifted_0 S.1 ?_⟩
        rw [show (nI 6 * nI s + nI i).toNatClampNeg = 6 * s + i by omega]
        refine w_isSh S (by omega) (i32_clamp hN.2.1.1) h3 h4 (fun z => ⟨S.1, fun y => absurd y (by decide), fun _ => ?_⟩) (fun z => ⟨S.1, fun _ => ?_, fun y => absurd rfl y⟩) (hI h 63 3).toNatClampNeg 0 (by omega) lt_0
        · rw [y1 z] at ih; exact ih
        · rw [y2 z, show ∀ y : Int32, y + nI 0 = y from Int32.add_zero] at ih; exact ih
theorem w_sh35 {l : Launch} {E : eE} {d bc bs : Nat} {h : aH} {K : Int32 → aH → Prop} {x1 x2 : Int32} {s : Nat} (S : SR h) (hd : 1 ≤ d) (hs : (s : Int) < (hI h 63 14).toInt) (h3 : 0 ≤ x1.toInt ∧ x1.toInt ≤ (hI h 63 8).toInt) (h4 : 0 ≤ x2.toInt ∧ x2.toInt ≤ (hI h 63 8).toInt) (k : LX12_shifted_23 l E (d + 1) bc bs x1 x2 (rSh h x1.toNatClampNeg x2.toNatClampNeg (104 * (s + 1))) (nI (s + 1)) h K) : ∀ (j w : Nat), w + j = 52 → LX12_shifted_35 l E (d + 1) bc bs x1 x2 (rSh h x1.toNatClampNeg x2.toNatClampNeg (104 * s + 2 * w)) (nI s) (nI w) h K := by
  intro j
  induction j with
  | zero =>
    intro w hw
    have hw : w = 52 := by omega
    subst hw
    refine bX12_shifted_35 S.1 ⟨fun _ => ?_, fun c => absurd (nI_le (Nat.le_refl 52) (by omega)) c⟩
    rw [nI_add]
    rw [show 104 * (s + 1) = 104 * s + 2 * 52 by omega] at k
    exact k
  | succ j ih =>
    intro w hw
    exact bX12_shifted_35 S.1 ⟨fun c => absurd c (nI_ge (by omega) (by omega)), fun _ => w_sh45 S hs (by omega) h3 h4 (ih (w + 1) (by omega)) 2 0 (by omega) hd⟩
theorem w_sh23 {l : Launch} {E : eE} {d bc bs : Nat} {h : aH} {K : Int32 → aH → Prop} {x1 x2 : Int32} (S : SR h) (hd : 1 ≤ d) (h3 : 0 ≤ x1.toInt ∧ x1.toInt ≤ (hI h 63 8).toInt) (h4 : 0 ≤ x2.toInt ∧ x2.toInt ≤ (hI h 63 8).toInt) (k : K (rSh h x1.toNatClampNeg x2.toNatClampNeg (104 * (hI h 63 14).toNatClampNeg)) h) : ∀ (j s : Nat), s + j = (hI h 63 14).toNatClampNeg → LX12_shifted_23 l E (d + 1) bc bs x1 x2 (rSh h x1.toNatClampNeg x2.toNatClampNeg (104 * s)) (nI s) h K := by
  have hN := S.2.1
  unfold RIn at hN
  have ec := i32_clamp hN.2.2.2.1
  have en := i32_nn hN.2.2.2.1
  intro j
  induction j with
  | zero =>
    intro s hs
    have hs : s = (hI h 63 14).toNatClampNeg := by omega
    subst hs
    exact bX12_shifted_23 S.1 ⟨fun _ => k, fun c => absurd (by rw [← en]; exact Int32.le_refl _) c⟩
  | succ j ih =>
    intro s hs
    refine bX12_shifted_23 S.1 ⟨fun c => ?_, fun _ => w_sh35 S hd (by omega) h3 h4 (ih (s + 1) (by omega)) 52 0 (by omega)⟩
    rw [Int32.le_iff_toInt_le, nI_toInt (by omega)] at c
    omega
noncomputable def rShV (h : aH) (x1 x2 : Int32) : Int32 := if (0 ≤ x1.toInt ∧ x1.toInt ≤ (hI h 63 8).toInt) ∧ 0 ≤ x2.toInt ∧ x2.toInt ≤ (hI h 63 8).toInt then rSh h x1.toNatClampNeg x2.toNatClampNeg (104 * (hI h 63 14).toNatClampNeg) else -1
theorem c_shifted {l : Launch} {E : eE} {d bc bs : Nat} {h : aH} {K : Int32 → aH → Prop} {x1 x2 : Int32} (S : SR h) (hd : 2 ≤ d) (k : K (rShV h x1 x2) h) : CI l E d bc bs mX12_shifted [.inr (some (0, 12, 63)), .inl x1, .inl x2] h K := by
  obtain ⟨d, rfl⟩ : ∃ d', d = d' + 1 := ⟨d - 1, by omega⟩
  unfold rShV at k
  refine bX12_shifted_0 S.1 ⟨fun c => ?_, fun c => ⟨fun c1 => w_sh23 S (by omega) c c1 ?_ (hI h 63 14).toNatClampNeg 0 (by omega), fun c1 => ?_⟩⟩
  · rw [if_neg (fun q => c q.1)] at k; exact k
  · rw [if_pos ⟨c, c1⟩] at k; exact k
  · rw [if_neg (fun q => c1 q.2)] at k; exact k
/-! the class -/
theorem k_isShifted {l : Launch} {E : eE} {d bc bs : Nat} {h : aH} {K : Int32 → aH → Prop} {s o : Nat} {t x3 x4 : Int32} (V : LV h) (hd : 1 ≤ d) (hs : s < 4) (hl : SeAt h s o) (ht : ¬ t = -1) (h3 : 0 ≤ x3.toInt ∧ x3.toInt ≤ (hI h 63 8).toInt) (h4 : 0 ≤ x4.toInt ∧ x4.toInt ≤ (hI h 63 8).toInt) (k1 : rShB h s t x3.toNatClampNeg x4.toNatClampNeg (hI h 63 3).toNatClampNeg → K (nI 1) h) (k0 : ¬ rShB h s t x3.toNatClampNeg x4.toNatClampNeg (hI h 63 3).toNatClampNeg → K (nI 0) h) : CI l E d bc bs mX11_isShifted [.inr (some (0, 11, 0)), .inr (some (0, 9, o)), .inl t, .inl x3, .inl x4] h K := by
  obtain ⟨d, rfl⟩ : ∃ d', d = d' + 1 := ⟨d - 1, by omega⟩
  have hN := V.1.2.1
  unfold RIn at hN
  exact bX11_isShifted_0 V.1.1 ⟨fun _ => k_withRole V.1 hs hl (fun v a b => ⟨V.1.1, w_kisSh V hs (i32_clamp hN.2.1.1) b h3 h4 k1 k0 (hI h 63 3).toNatClampNeg 0 (by omega) lt_0⟩), fun c => absurd c ht⟩
theorem k_isShNo {l : Launch} {E : eE} {d bc bs : Nat} {h : aH} {K : Int32 → aH → Prop} {o : Nat} {x3 x4 : Int32} (S : SH h) (hd : 1 ≤ d) (k0 : K (nI 0) h) : CI l E d bc bs mX11_isShifted [.inr (some (0, 11, 0)), .inr (some (0, 9, o)), .inl (-1), .inl x3, .inl x4] h K := by
  obtain ⟨d, rfl⟩ : ∃ d', d = d' + 1 := ⟨d - 1, by omega⟩
  exact bX11_isShifted_0 S ⟨fun c => absurd rfl c, fun _ => k0⟩
theorem rAt_int {h : aH} (S : RI h) {s i w : Nat} (hs : (s : Int) < (hI h 63 14).toInt) (hi : (i : Int) < (hA h 77 s).toInt) (hw : w < 52) : (rAt h s i w).toInt = 336 * w + (hA h 78 (6 * s + i)).toInt ∧ 0 ≤ (hA h 78 (6 * s + i)).toInt ∧ (hA h 78 (6 * s + i)).toInt < 336 := by
  have hse := (S.2.2.2.2.2.1 s hs).2.2.2.2 i hi
  have ew : (nI w).toInt = w := nI_toInt (by omega)
  have m : (nI 336 * nI w).toInt = 336 * w := by rw [i_mul (by rw [ti_336]; omega) (by rw [ti_336]; omega), ti_336, ew]
  refine ⟨?_, hse⟩
  unfold rAt
  rw [i_add (by omega) (by omega), m]
/-- one half of a week: the class's question -/
theorem k_half {l : Launch} {E : eE} {d bc bs : Nat} {h : aH} {K : Int32 → aH → Prop} {s o w b : Nat} {v : Int32} {x1 x2 : Int32} (V : LV h) (hd : 2 ≤ d) (hs : (s : Int) < (hI h 63 14).toInt) (hl : SeAt h s o) (hw : w < 52) (hb : b < 2) (hv : v = hA h 80 (104 * s + 2 * w + b)) (h3 : 0 ≤ x1.toInt ∧ x1.toInt ≤ (hI h 63 8).toInt) (h4 : 0 ≤ x2.toInt ∧ x2.toInt ≤ (hI h 63 8).toInt) (k : ∀ y : Int32, (y = nI 0 ∨ y = nI 1) → rShK h x1.toNatClampNeg x2.toNatClampNeg (104 * s + 2 * w + b) = y → K y h) : CI l E d bc bs mX9_startOf [.inr (some (0, 9, o)), .inl v, .inl (nI w)] h (fun v7 h7 => SH h7 ∧ CI l E d 0 0 mX11_isShifted [.inr (some (0, 11, 0)), .inr (some (0, 9, o)), .inl v7, .inl x1, .inl x2] h7 K) := by
  have R := V.1.1
  have hN := V.1.2.1
  unfold RIn at hN
  have h77 := (V.1.2.2.2.2.2.2.1 s hs).2.2.2.1
  rcases half_at V.1.2 hs hw hb with q | ⟨i, q1, q2, q3⟩
  · rw [hv, q]
    exact k_startNo R ⟨R, k_isShNo R (by omega) (k _ (Or.inl rfl) (rShK_no q))⟩
  · rw [hv, q1]
    obtain ⟨y1, y2⟩ := rShK_at (h := h) (n := x1.toNatClampNeg) (m := x2.toNatClampNeg) (s := s) hw hb (by omega) q1
    have hr := rAt_int V.1.2 hs q2 hw
    exact k_startOf R hl q2 (by omega) ⟨R, k_isShifted V (by omega) (by omega) hl (fun z => by rw [z, ti_m1] at hr; omega) h3 h4 (fun z => k _ (Or.inr rfl) (y1 z)) (fun z => k _ (Or.inl rfl) (y2 z))⟩
theorem w_ksh44 {l : Launch} {E : eE} {d bc bs : Nat} {h : aH} {K : Int32 → aH → Prop} {x1 x2 : Int32} {s o : Nat} (V : LV h) (hd : 2 ≤ d) (hs : (s : Int) < (hI h 63 14).toInt) (hl : SeAt h s o) (h3 : 0 ≤ x1.toInt ∧ x1.toInt ≤ (hI h 63 8).toInt) (h4 : 0 ≤ x2.toInt ∧ x2.toInt ≤ (hI h 63 8).toInt) (k : LX11_shifted_23 l E (d + 1) bc bs x1 x2 (rSh h x1.toNatClampNeg x2.toNatClampNeg (104 * (s + 1))) (nI (s + 1)) h K) : ∀ (j w : Nat), w + j = 52 → LX11_shifted_44 l E (d + 1) bc bs x1 x2 (rSh h x1.toNatClampNeg x2.toNatClampNeg (104 * s + 2 * w)) (nI s) (some (0, 9, o)) (nI w) h K := by
  have R := V.1.1
  have f5 := hl.1.1.2.2.2.2.1
  intro j
  induction j with
  | zero =>
    intro w hw
    have hw : w = 52 := by omega
    subst hw
    refine bX11_shifted_44 R ⟨fun _ => ?_, fun c => absurd (nI_le (Nat.le_refl 52) (by omega)) c⟩
    rw [nI_add]
    rw [show 104 * (s + 1) = 104 * s + 2 * 52 by omega] at k
    exact k
  | succ j ih =>
    intro w hw
    have ih := ih (w + 1) (by omega)
    rw [show 104 * s + 2 * (w + 1) = 104 * s + 2 * w + 1 + 1 by omega, rSh, rSh] at ih
    obtain ⟨g1, g2, g3⟩ := (hl.1.2.2.2.1 w (by omega)).ok
    refine bX11_shifted_44 R ⟨fun c => absurd c (nI_ge (by omega) (by omega)), fun _ => ⟨o, rfl, o + 3, hl.1.1.2.2.2.2.2.2.2.2, vp_in_nI (by omega) (by omega), ?_⟩⟩
    rw [nI_clamp (by omega), nI_add]
    refine ⟨fun c => ?_, fun c => ?_⟩
    · rw [rShK_no (g1.mp c), rShK_no (g2 c), show ∀ y : Int32, y + nI 0 = y from Int32.add_zero, show ∀ y : Int32, y + nI 0 = y from Int32.add_zero] at ih
      exact ih
    · obtain ⟨o1, o2, o3⟩ := g3 c
      refine k_firstOf R (by omega) (by rw [f5]; exact o1) ⟨R, ?_⟩
      rw [f5, o2]
      refine k_half (b := 0) V (by omega) hs hl (by omega) (by decide) rfl h3 h4 (fun y hy ey => ⟨R, fun c1 => ?_, fun c1 => ?_⟩)
      all_goals
        refine k_secondOf R (by omega) (by rw [f5]; exact o1) ⟨R, ?_⟩
        rw [f5, o3]
        refine k_half (b := 1) V (by omega) hs hl (by omega) (by decide) rfl h3 h4 (fun y' hy' ey' => ⟨R, fun c2 => ?_, fun c2 => ?_⟩)
        all_goals
          rw [show rShK h x1.toNatClampNeg x2.toNatClampNeg (104 * s + 2 * w) = y from ey, ey'] at ih
      · rw [c1, c2] at ih; exact ih
      · rw [c1, hy'.resolve_left c2] at ih; exact ih
      · rw [hy.resolve_left c1, c2] at ih; exact ih
      · rw [hy.resolve_left c1, hy'.resolve_left c2] at ih; exact ih
theorem w_ksh23 {l : Launch} {E : eE} {d bc bs : Nat} {h : aH} {K : Int32 → aH → Prop} {x1 x2 : Int32} (V : LV h) (hd : 2 ≤ d) (h3 : 0 ≤ x1.toInt ∧ x1.toInt ≤ (hI h 63 8).toInt) (h4 : 0 ≤ x2.toInt ∧ x2.toInt ≤ (hI h 63 8).toInt) (k : K (rSh h x1.toNatClampNeg x2.toNatClampNeg (104 * (hI h 63 14).toNatClampNeg)) h) : ∀ (j s : Nat), s + j = (hI h 63 14).toNatClampNeg → LX11_shifted_23 l E (d + 1) bc bs x1 x2 (rSh h x1.toNatClampNeg x2.toNatClampNeg (104 * s)) (nI s) h K := by
  have S := V.1
  have hN := S.2.1
  unfold RIn at hN
  have ec := i32_clamp hN.2.2.2.1
  have en := i32_nn hN.2.2.2.1
  have e12 := V.2.1.1.1.2.2.2
  intro j
  induction j with
  | zero =>
    intro s hs
    have hs : s = (hI h 63 14).toNatClampNeg := by omega
    subst hs
    exact bX11_shifted_23 S.1 ⟨fun _ => k, fun c => absurd (by rw [e12, ← en]; exact Int32.le_refl _) c⟩
  | succ j ih =>
    intro s hs
    obtain ⟨o, hl⟩ := V.2.1.2.1 s (by omega)
    refine bX11_shifted_23 S.1 ⟨fun c => ?_, fun _ => ⟨vp_in_nI (by omega) (by omega), ?_⟩⟩
    · rw [e12, Int32.le_iff_toInt_le, nI_toInt (by omega)] at c
      omega
    · rw [nI_clamp (by omega), hl.1.1.1]
      exact w_ksh44 V hd (by omega) hl h3 h4 (ih (s + 1) (by omega)) 52 0 (by omega)
theorem k_shifted {l : Launch} {E : eE} {d bc bs : Nat} {h : aH} {K : Int32 → aH → Prop} {x1 x2 : Int32} (V : LV h) (hd : 3 ≤ d) (k : K (rShV h x1 x2) h) : CI l E d bc bs mX11_shifted [.inr (some (0, 11, 0)), .inl x1, .inl x2] h K := by
  obtain ⟨d, rfl⟩ : ∃ d', d = d' + 1 := ⟨d - 1, by omega⟩
  have R := V.1.1
  unfold rShV at k
  refine bX11_shifted_0 R (k_isKnown V.sk ⟨R, fun c => ?_, fun c => k_isKnown V.sk ⟨R, fun c1 => w_ksh23 V (by omega) (bI1.mp c) (bI1.mp c1) ?_ (hI h 63 14).toNatClampNeg 0 (by omega), fun c1 => ?_⟩⟩)
  · rw [bI0] at c
    rw [if_neg (fun q => c q.1)] at k; exact k
  · rw [bI1] at c c1
    rw [if_pos ⟨c, c1⟩] at k; exact k
  · rw [bI0] at c1
    rw [if_neg (fun q => c1 q.2)] at k; exact k
