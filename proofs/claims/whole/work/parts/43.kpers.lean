/-! ===== the class: hindrance, price ===== -/
theorem c_isIn {l : Launch} {E : eE} {d bc bs : Nat} {h : aH} {K : Int32 → aH → Prop} {x y : Int32} (S : SH h) (k : K (if ((x >>> (y &&& 31)) &&& nI 1) = 0 then nI 0 else nI 1) h) : CI l E d bc bs mX11_isIn [.inl x, .inl y] h K := by
  refine bX11_isIn_0 S ⟨fun c => ?_, fun c => ?_⟩
  · rw [if_pos c] at k; exact k
  · rw [if_neg c] at k; exact k
theorem and1 (x : Int32) : x &&& nI 1 = nI 0 ∨ x &&& nI 1 = nI 1 := by
  obtain ⟨j, hj, e⟩ := pk_andE x (m := nI 1) 1 (by decide)
  rw [e]
  rcases (show j = 0 ∨ j = 1 by omega) with rfl | rfl
  · exact Or.inl rfl
  · exact Or.inr rfl
theorem k_cel {l : Launch} {E : eE} {d bc bs : Nat} {h : aH} {K : Int32 → aH → Prop} {i o : Nat} {day x : Int32} (S : SR h) (hl : LdAt h i o) (hx : 0 ≤ x.toInt ∧ x.toInt ≤ (hI h 63 8).toInt) (k1 : rFeast h (nI i) day x.toNatClampNeg → K (nI 1) h) (k0 : ¬ rFeast h (nI i) day x.toNatClampNeg → K (nI 0) h) : CI l E d bc bs mX4_celebrates [.inr (some (0, 4, o)), .inl day, .inl x] h K := by
  have e := i32_nn hx.1
  have e2 := i32_clamp hx.1
  have hN := S.2.1
  unfold RIn at hN
  have hm := nF_eq S
  refine bX4_celebrates_0 S.1 ?_
  rw [e]
  exact w_kcel S.1 (by omega) k1 k0 (nF h) _ (by omega) hl.2.2.2.1 (fun j h1 h2 => by omega)
theorem k_hindAt {l : Launch} {E : eE} {d bc bs : Nat} {h : aH} {K : Int32 → aH → Prop} {p o a : Nat} {t x : Int32} (S : SK h) (hd : 2 ≤ d) (hp : PeAt h p o a) (hpp : (p : Int) < (hI h 63 3).toInt) (ht : 0 ≤ t.toInt ∧ t.toInt < 17472) (hx : 0 ≤ x.toInt ∧ x.toInt ≤ (hI h 63 8).toInt) (k : K (rReason h (nI p) t x.toNatClampNeg) h) : CI l E d bc bs mX6_hindranceAt [.inr (some (0, 6, o)), .inl t, .inl x] h K := by
  obtain ⟨d, rfl⟩ : ∃ d', d = d' + 1 := ⟨d - 1, by omega⟩
  have R := S.1
  have hN := S.n
  unfold RIn at hN
  have ex := i32_clamp hx.1
  have hpc : (nI p).toNatClampNeg = p := nI_clamp (by omega)
  have hpi := R.2.2.2.1 p hpp
  have hla := i32_clamp hpi.1.1
  obtain ⟨lo, hlo⟩ := S.2.2.1 (hA h 65 p).toNatClampNeg (by have := hpi.1.2; omega)
  have hli : ((hA h 65 p).toNatClampNeg : Int) < (hI h 63 1).toInt := by have := hpi.1.2; omega
  have hln : nI (hA h 65 p).toNatClampNeg = hA h 65 p := (i32_nn hpi.1.1).symm
  have hho : hR h o 0 = some (0, 4, lo) := hp.2.1.trans hlo.1
  have hof := rOff_rng R (t := t) (n := x.toNatClampNeg) hpi.1 (by omega)
  have hl : (t + rOff h (hA h 65 p) t x.toNatClampNeg).toInt = t.toInt + (rOff h (hA h 65 p) t x.toNatClampNeg).toInt := i_add (by omega) (by omega)
  have hdn := rDown48 (t + rOff h (hA h 65 p) t x.toNatClampNeg)
  unfold rReason at k
  unfold rLoc at k
  rw [hpc] at k
  refine bX6_hindranceAt_0 R.1 ⟨lo, hho, k_offL R hlo hli hx ⟨R.1, ?_⟩⟩
  rw [hln]
  refine c_fdiv48 R.1 ⟨R.1, k_cellAt R (by omega) hp hpp (by omega) ⟨R.1, fun c1 => ?_, fun c1 => ?_⟩⟩
  · rw [if_neg c1] at k
    refine c_fmod7 R.1 (by omega) ⟨R.1, c_isIn R.1 ⟨R.1, ?_⟩⟩
    rw [hp.2.2.1]
    rcases and1 (hA h 66 p >>> ((rDown (t + rOff h (hA h 65 p) t x.toNatClampNeg) (nI 48) - nI 7 * rDown (rDown (t + rOff h (hA h 65 p) t x.toNatClampNeg) (nI 48)) (nI 7)) &&& 31)) with g | g
    · rw [if_neg (by rw [g]; decide)] at k
      rw [if_pos (by rw [g]; rfl)]
      refine ⟨fun _ => ⟨lo, hho, k_cel R hlo hx (fun q => ⟨R.1, fun z => absurd z (by decide), fun _ => ?_⟩) (fun q => ⟨R.1, fun _ => ?_, fun z => absurd rfl z⟩)⟩, fun z => absurd rfl z⟩
      · rw [hln] at q
        rw [if_pos (dec_t q)] at k; exact k
      · rw [hln] at q
        rw [if_neg (dec_f q)] at k
        have hm := nF_eq R
        refine bX6_spanAt_0 R.1 ?_
        rw [i32_nn hx.1]
        refine w_kspan (p := p) R.1 (by omega) (fun j y hj hc hlast e0 e3 => ⟨R.1, fun z => (by cases z), fun _ _ => ?_⟩) (fun z => ⟨R.1, fun _ => ?_, fun _ e => by cases e⟩) (nF h) _ (by omega) hp.2.2.2.2.2.2.1 (fun j h1 h2 => by omega)
        · rw [if_pos (dec_t ⟨j, hj, hc⟩)] at k; exact k
        · rw [if_neg (dec_f z)] at k; exact k
    · rw [if_pos g] at k
      rw [if_neg (by rw [g]; decide)]
      exact ⟨fun z => absurd z (by decide), fun _ => k⟩
  · rw [if_pos c1] at k; exact k
theorem rReason_nn (h : aH) (p t : Int32) (n : Nat) : rReason h p t n ≤ 0 ↔ rReason h p t n = 0 := by
  unfold rReason
  repeat' split
  all_goals decide
theorem w_khind {l : Launch} {E : eE} {d bc bs : Nat} {h : aH} {K : Int32 → aH → Prop} {p o a : Nat} {t x : Int32} {m : Nat} (S : SK h) (hd : 2 ≤ d) (hp : PeAt h p o a) (hpp : (p : Int) < (hI h 63 3).toInt) (hm : m ≤ 6) (ht : 0 ≤ t.toInt ∧ t.toInt + m ≤ 17472) (hx : 0 ≤ x.toInt ∧ x.toInt ≤ (hI h 63 8).toInt) : ∀ (j i : Nat), i + j = m → K (rReasons h (nI p) t x.toNatClampNeg i j) h → LX6_hindrance_3 l E (d + 1) bc bs o t (nI m) x (nI i) h K := by
  intro j
  induction j with
  | zero =>
    intro i hi k
    have hi : i = m := by omega
    subst hi
    exact bX6_hindrance_3 S.1.1 ⟨fun _ => k, fun c => absurd (nI_le (Nat.le_refl i) (by omega)) c⟩
  | succ j ih =>
    intro i hi k
    have ei : (nI i).toInt = i := nI_toInt (by omega)
    have et : (t + nI i).toInt = t.toInt + i := by rw [i_add (by omega) (by omega), ei]
    refine bX6_hindrance_3 S.1.1 ⟨fun c => absurd c (nI_ge (by omega) (by omega)), fun _ => k_hindAt S hd hp hpp ⟨by omega, by omega⟩ hx ⟨S.1.1, fun c => ?_, fun c => ?_⟩⟩
    · unfold rReasons at k
      rw [if_pos ((rReason_nn ..).mpr c)] at k
      rw [nI_add]
      exact ih (i + 1) (by omega) k
    · unfold rReasons at k
      rw [if_neg (fun q => c ((rReason_nn ..).mp q))] at k
      exact k
theorem k_hind {l : Launch} {E : eE} {d bc bs : Nat} {h : aH} {K : Int32 → aH → Prop} {p o a : Nat} {t x4 x : Int32} (S : SK h) (hd : 3 ≤ d) (hp : PeAt h p o a) (hpp : (p : Int) < (hI h 63 3).toInt) (ht : 0 ≤ t.toInt ∧ 1 ≤ x4.toInt ∧ x4.toInt ≤ 6 ∧ t.toInt + x4.toInt ≤ 17472) (hx : 0 ≤ x.toInt ∧ x.toInt ≤ (hI h 63 8).toInt) (k : K (rReasons h (nI p) t x.toNatClampNeg 0 x4.toNatClampNeg) h) : CI l E d bc bs mX6_hindrance [.inr (some (0, 6, o)), .inl t, .inl x4, .inl x] h K := by
  obtain ⟨d, rfl⟩ : ∃ d', d = d' + 1 := ⟨d - 1, by omega⟩
  have e := i32_nn (x := x4) (by omega)
  have e2 := i32_clamp (x := x4) (by omega)
  refine bX6_hindrance_0 S.1.1 ?_
  rw [e]
  exact w_khind S (by omega) hp hpp (by omega) (by omega) hx x4.toNatClampNeg 0 (by omega) k
theorem w_kprice {l : Launch} {E : eE} {d bc bs : Nat} {h : aH} {K : Int32 → aH → Prop} {p o a : Nat} {t x : Int32} {m : Nat} (S : SK h) (hd : 1 ≤ d) (hp : PeAt h p o a) (hpp : (p : Int) < (hI h 63 3).toInt) (hm : m ≤ 6) (ht : 0 ≤ t.toInt ∧ t.toInt + m ≤ 17472) (hx : 0 ≤ x.toInt ∧ x.toInt ≤ (hI h 63 8).toInt) (k : K (rCosts h (nI p) t x.toNatClampNeg m) h) : ∀ (j i : Nat), i + j = m → LX6_price_6 l E (d + 1) bc bs o t (nI m) x (rCosts h (nI p) t x.toNatClampNeg i) (nI i) h K := by
  have R := S.1
  have hN := S.n
  unfold RIn at hN
  have ex := i32_clamp hx.1
  have hpc : (nI p).toNatClampNeg = p := nI_clamp (by omega)
  have hpi := R.2.2.2.1 p hpp
  have hla := i32_clamp hpi.1.1
  obtain ⟨lo, hlo⟩ := S.2.2.1 (hA h 65 p).toNatClampNeg (by have := hpi.1.2; omega)
  have hli : ((hA h 65 p).toNatClampNeg : Int) < (hI h 63 1).toInt := by have := hpi.1.2; omega
  have hln : nI (hA h 65 p).toNatClampNeg = hA h 65 p := (i32_nn hpi.1.1).symm
  have hho : hR h o 0 = some (0, 4, lo) := hp.2.1.trans hlo.1
  intro j
  induction j with
  | zero =>
    intro i hi
    have hi : i = m := by omega
    subst hi
    exact bX6_price_6 R.1 ⟨fun _ => k, fun c => absurd (nI_le (Nat.le_refl i) (by omega)) c⟩
  | succ j ih =>
    intro i hi
    have ih := ih (i + 1) (by omega)
    have ei : (nI i).toInt = i := nI_toInt (by omega)
    have et : (t + nI i).toInt = t.toInt + i := by rw [i_add (by omega) (by omega), ei]
    have hof := rOff_rng R (t := t + nI i) (n := x.toNatClampNeg) hpi.1 (by omega)
    have hl : (t + nI i + rOff h (hA h 65 p) (t + nI i) x.toNatClampNeg).toInt = (t + nI i).toInt + (rOff h (hA h 65 p) (t + nI i) x.toNatClampNeg).toInt := i_add (by omega) (by omega)
    refine bX6_price_6 R.1 ⟨fun c => absurd c (nI_ge (by omega) (by omega)), fun _ => ⟨lo, hho, k_offL R hlo hli hx ⟨R.1, ?_⟩⟩⟩
    rw [hln]
    refine k_cellAt R hd hp hpp (by omega) ⟨R.1, c_max R.1 ⟨R.1, ?_⟩⟩
    rw [nI_add]
    unfold rCosts at ih
    unfold rLoc at ih
    rw [hpc] at ih
    by_cases c : rCost h (nI p) (t + nI i + rOff h (hA h 65 p) (t + nI i) x.toNatClampNeg - nI 48 * rDown (t + nI i + rOff h (hA h 65 p) (t + nI i) x.toNatClampNeg) (nI 48)) ≤ 0
    · rw [if_pos c] at ih
      rw [if_neg (by rw [Int32.lt_iff_toInt_lt, ti_0]; rw [Int32.le_iff_toInt_le, ti_z] at c; omega), show nI 0 = 0 from rfl, Int32.add_zero]
      exact ih
    · rw [if_neg c] at ih
      rw [if_pos (by rw [Int32.lt_iff_toInt_lt, ti_0]; rw [Int32.le_iff_toInt_le, ti_z] at c; omega)]
      exact ih
theorem k_price {l : Launch} {E : eE} {d bc bs : Nat} {h : aH} {K : Int32 → aH → Prop} {p o a : Nat} {t x4 x : Int32} (S : SK h) (hd : 2 ≤ d) (hp : PeAt h p o a) (hpp : (p : Int) < (hI h 63 3).toInt) (ht : 0 ≤ t.toInt ∧ 1 ≤ x4.toInt ∧ x4.toInt ≤ 6 ∧ t.toInt + x4.toInt ≤ 17472) (hx : 0 ≤ x.toInt ∧ x.toInt ≤ (hI h 63 8).toInt) (k : K (rCosts h (nI p) t x.toNatClampNeg x4.toNatClampNeg) h) : CI l E d bc bs mX6_price [.inr (some (0, 6, o)), .inl t, .inl x4, .inl x] h K := by
  obtain ⟨d, rfl⟩ : ∃ d', d = d' + 1 := ⟨d - 1, by omega⟩
  have e := i32_nn (x := x4) (by omega)
  have e2 := i32_clamp (x := x4) (by omega)
  refine bX6_price_0 S.1.1 ?_
  rw [e]
  exact w_kprice S (by omega) hp hpp (by omega) (by omega) hx k x4.toNatClampNeg 0 (by omega)
