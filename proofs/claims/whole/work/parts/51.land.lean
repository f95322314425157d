/-! ===== land: both sides ===== -/
abbrev rLandOK (h : aH) (x : Int32) : Prop := ¬ hI h 63 1 = nI 8 ∧ -24 ≤ x.toInt ∧ x.toInt ≤ 28
def rLandH (h : aH) (x : Int32) : aH := stI (stA h 64 (hI h 63 1).toNatClampNeg x) 63 1 (hI h 63 1 + nI 1)
theorem cnt1 {x : Int32} {n : Nat} (hn : n < 1000000) (h0 : 0 ≤ x.toInt ∧ x.toInt ≤ n) (hx : ¬ x = nI n) : x.toInt < n ∧ (x + nI 1).toInt = x.toInt + 1 := by
  have h1 : ¬ x.toInt = n := fun q => hx (i32_eq (by omega) q)
  refine ⟨by omega, ?_⟩
  rw [i_add (by rw [ti_1]; omega) (by rw [ti_1]; omega), ti_1]
theorem c_land {l : Launch} {E : eE} {d bc bs : Nat} {h : aH} {K : Int32 → aH → Prop} {x : Int32} (S : SR h) (hd : 1 ≤ d) (k1 : rLandOK h x → K (hI h 63 1) (rLandH h x)) (k0 : ¬ rLandOK h x → K (-1) h) : CI l E d bc bs mX12_land [.inr (some (0, 12, 63)), .inl x] h K := by
  obtain ⟨d, rfl⟩ : ∃ d', d = d' + 1 := ⟨d - 1, by omega⟩
  have hN := S.2.1
  unfold RIn at hN
  refine bX12_land_0 S ⟨fun c => k0 (fun q => q.1 c), fun c => ⟨fun c2 => ⟨?_, ?_⟩, fun c2 => k0 (fun q => c2 q.2)⟩⟩
  · have := cnt1 (n := 8) (by decide) hN.1 c
    exact vp_of (by omega) (by omega)
  · rw [add_sub1]
    exact k1 ⟨c, c2⟩
theorem RF.more {h g : aH} {k : Nat} (e1 : (hI h 63 1).toInt ≤ (hI g 63 1).toInt) (e3 : (hI h 63 3).toInt ≤ (hI g 63 3).toInt) (e14 : (hI h 63 14).toInt ≤ (hI g 63 14).toInt) (a1 : hA g 69 k = hA h 69 k) (a2 : hA g 70 k = hA h 70 k) (a3 : hA g 71 k = hA h 71 k) (a4 : hA g 72 k = hA h 72 k) (r : RF h k) : RF g k := by
  unfold RF inI at r ⊢
  rw [a1, a2, a3, a4]
  rcases r with r | r | r | r
  · exact Or.inl ⟨r.1, ⟨r.2.1.1, by omega⟩, r.2.2⟩
  · exact Or.inr (Or.inl ⟨r.1, ⟨r.2.1.1, by omega⟩, r.2.2⟩)
  · exact Or.inr (Or.inr (Or.inl ⟨r.1, ⟨r.2.1.1, by omega⟩, r.2.2⟩))
  · exact Or.inr (Or.inr (Or.inr ⟨r.1, ⟨r.2.1.1, by omega⟩, ⟨r.2.2.1.1, by omega⟩, r.2.2.2⟩))
theorem RI.land {h : aH} {x : Int32} (S : RI h) (ok : rLandOK h x) : RI (rLandH h x) := by
  obtain ⟨hN, hL, hP, hC, hF, hSe⟩ := S
  unfold RIn at hN
  obtain ⟨c1, c2⟩ := cnt1 (n := 8) (by decide) hN.1 ok.1
  have e := i32_clamp hN.1.1
  have f1 : hI (rLandH h x) 63 1 = hI h 63 1 + nI 1 := rfl
  have f64 : ∀ i, hA (rLandH h x) 64 i = if i = (hI h 63 1).toNatClampNeg then x else hA h 64 i := fun i => by
    show up2 (hA h) 64 (hI h 63 1).toNatClampNeg x 64 i = _
    simp [up2]
  refine ⟨⟨by rw [f1, c2]; omega, hN.2⟩, fun i hi => ?_, fun p hp => ?_, hC, fun k hk => ?_, hSe⟩
  · rw [f1, c2] at hi
    rw [f64]
    split
    · exact ok.2
    · exact hL i (by omega)
  · obtain ⟨q1, q2⟩ := hP p hp
    exact ⟨⟨q1.1, by rw [f1, c2]; have := q1.2; show (hA h 65 p).toInt < _; omega⟩, q2⟩
  · obtain ⟨q1, q2⟩ := hF k hk
    exact ⟨RF.more (h := h) (by rw [f1, c2]; omega) (Int.le_refl _) (Int.le_refl _) rfl rfl rfl rfl q1, q2⟩
/-- what the class's heap is behind land -/
def kLandH (h : aH) (x : Int32) : aH := stI (stQ (stI (stN h (0, 4)) (hN h) 0 x) 1 (hI h 0 9).toNatClampNeg (some (0, 4, hN h))) 0 9 (hI h 0 9 + nI 1)
theorem SK2.land {h : aH} {x : Int32} (S : SK h) (hn : 99 ≤ hN h) (ok : rLandOK h x) : SH (kLandH h x) ∧ RE h (kLandH h x) ∧ SK2 (kLandH h x) (rLandH h x) ∧ exH h (kLandH h x) := by
  obtain ⟨⟨SHh, hRI⟩, n1, n2, n3⟩ := S
  have hNn := hRI.1
  unfold RIn at hNn
  obtain ⟨c1, c2⟩ := cnt1 (n := 8) (by decide) hNn.1 ok.1
  have e := i32_clamp hNn.1.1
  have e9 := n1.1
  have hex : exH h (kLandH h x) := exH.new h _
  have iI : ∀ q, q ≠ 0 → q ≠ hN h → hI (kLandH h x) q = hI h q := fun q h0 h1 => by
    show up2 (up2 (up1 (hI h) (hN h) (fun _ => 0)) (hN h) 0 x) 0 9 (hI h 0 9 + nI 1) q = _
    rw [up2_ne h0, up2_ne h1, up1_ne h1]
  have i0 : ∀ k, hI (kLandH h x) 0 k = if k = 9 then hI h 0 9 + nI 1 else hI h 0 k := fun k => by
    show up2 (up2 (up1 (hI h) (hN h) (fun _ => 0)) (hN h) 0 x) 0 9 (hI h 0 9 + nI 1) 0 k = _
    unfold up2
    rw [up1_ne (show (0 : Nat) ≠ hN h by omega)]
    have : ¬ (0 : Nat) = hN h := by omega
    simp [this]
  have iR : ∀ q, q ≠ hN h → hR (kLandH h x) q = hR h q := fun q h1 => up1_ne h1
  have iA : ∀ q, q ≠ hN h → hA (kLandH h x) q = hA h q := fun q h1 => up1_ne h1
  have iQ : ∀ q, q ≠ 1 → q ≠ hN h → hQ (kLandH h x) q = hQ h q := fun q h0 h1 => by
    show up2 (up1 (hQ h) (hN h) (fun _ => none)) 1 (hI h 0 9).toNatClampNeg (some (0, 4, hN h)) q = _
    rw [up2_ne h0, up1_ne h1]
  have iQ1 : ∀ i, hQ (kLandH h x) 1 i = if i = (hI h 63 1).toNatClampNeg then some (0, 4, hN h) else hQ h 1 i := fun i => by
    show up2 (up1 (hQ h) (hN h) (fun _ => none)) 1 (hI h 0 9).toNatClampNeg (some (0, 4, hN h)) 1 i = _
    unfold up2
    rw [up1_ne (show (1 : Nat) ≠ hN h by omega), e9]
    simp
  have f1 : hI (rLandH h x) 63 1 = hI h 63 1 + nI 1 := rfl
  have f64 : ∀ i, hA (rLandH h x) 64 i = if i = (hI h 63 1).toNatClampNeg then x else hA h 64 i := fun i => by
    show up2 (hA h) 64 (hI h 63 1).toNatClampNeg x 64 i = _
    simp [up2]
  have hs : sameF h (rLandH h x) := ⟨rfl, rfl, rfl, rfl, rfl, rfl⟩
  have hf : ∀ q, 99 ≤ q → q < hN h → hI (kLandH h x) q = hI h q ∧ hR (kLandH h x) q = hR h q := fun q a b => ⟨iI q (by omega) (by omega), iR q (by omega)⟩
  refine ⟨?_, ⟨iI 63 (by decide) (by omega), fun a h1 h2 => iA a (by omega)⟩, ⟨⟨?_, ?_, ?_, ?_⟩, fun i hi => ?_, fun p hp => ?_⟩, hex⟩
  · have s1 : SH (stI (stN h (0, 4)) (hN h) 0 x) := SHh.stN hn
    exact s1.stQ (by decide) (by decide)
  · rw [i0, if_pos rfl, e9, f1]
  · rw [i0, if_neg (by decide)]; exact n1.2.1
  · rw [i0, if_neg (by decide)]; exact n1.2.2.1
  · rw [i0, if_neg (by decide)]; exact n1.2.2.2
  · rw [f1, c2] at hi
    by_cases g : i = (hI h 63 1).toNatClampNeg
    · have nof : ∀ k, k < nF h → ∀ s : Int32, (s = 0 ∨ s = nI 1) → ¬ (hA h 69 k = s ∧ hA h 70 k = nI i) := fun k hk s hs' q => by
        have hm := i32_clamp hNn.2.2.1.1
        have hk : k < (hI h 63 8).toNatClampNeg := hk
        have hof : ¬ inI (hA h 70 k) (hI h 63 1) := by
          rw [q.2]
          intro z
          have := z.2
          rw [nI_toInt (by omega)] at this
          omega
        rcases (hRI.2.2.2.2.1 k (by omega)).1 with z | z | z | z
        · exact hof z.2.1
        · exact hof z.2.1
        · rcases hs' with rfl | rfl
          · exact absurd (q.1.symm.trans z.1) (by decide)
          · exact absurd (q.1.symm.trans z.1) (by decide)
        · rcases hs' with rfl | rfl
          · exact absurd (q.1.symm.trans z.1) (by decide)
          · exact absurd (q.1.symm.trans z.1) (by decide)
      refine ⟨hN h, by rw [iQ1, if_pos g], ?_, ?_, ?_, hn, Nat.lt_succ_self _, by show up1 (hT h) (hN h) (0, 4) (hN h) = _; simp [up1]⟩
      · rw [f64, if_pos g]
        show up2 (up2 (up1 (hI h) (hN h) (fun _ => 0)) (hN h) 0 x) 0 9 (hI h 0 9 + nI 1) (hN h) 0 = x
        rw [up2_ne (by omega)]
        simp [up2]
      · have : hR (kLandH h x) (hN h) 1 = none := by show up1 (hR h) (hN h) (fun _ => none) (hN h) 1 = none; simp [up1]
        rw [this]
        exact chn_none _ (fun k hk => nof k hk 0 (Or.inl rfl))
      · have : hR (kLandH h x) (hN h) 2 = none := by show up1 (hR h) (hN h) (fun _ => none) (hN h) 2 = none; simp [up1]
        rw [this]
        exact chn_none _ (fun k hk => nof k hk (nI 1) (Or.inr rfl))
    · obtain ⟨o, ho⟩ := n2 i (by omega)
      exact ⟨o, ho.mv (by rw [iQ1, if_neg g]) hf hex (by rw [f64, if_neg g]) hs⟩
  · obtain ⟨o, a, ho⟩ := n3 p hp
    have hla := (hRI.2.2.1 p hp).1
    have hlc := i32_clamp hla.1
    exact ⟨o, a, ho.mv (by rw [iQ 2 (by decide) (by omega)]) (by rw [iQ1, if_neg (by have := hla.2; omega)]) hf (iA a (by have := ho.2.2.2.2.2.2.2.2.2.1; omega)) hex rfl rfl rfl (fun _ _ => rfl) hs⟩
theorem k_land {l : Launch} {E : eE} {d bc bs : Nat} {h : aH} {K : Int32 → aH → Prop} {x : Int32} (S : SK h) (hd : 2 ≤ d) (hn : 99 ≤ hN h) (k1 : rLandOK h x → K (hI h 63 1) (kLandH h x)) (k0 : ¬ rLandOK h x → K (-1) h) : CI l E d (bc + 1) (bs + 3) mX11_land [.inr (some (0, 11, 0)), .inl x] h K := by
  obtain ⟨d, rfl⟩ : ∃ d', d = d' + 2 := ⟨d - 2, by omega⟩
  have hNn := S.n
  unfold RIn at hNn
  have e9 := S.2.1.1
  have R := S.1.1
  refine bX11_land_0 R ⟨fun c => k0 ?_, fun c => k_isOffset R ⟨R, fun c2 => ?_, fun c2 => k0 ?_⟩⟩
  · rw [e9, Int32.le_iff_toInt_le, ti_8] at c
    exact fun q => q.1 (i32_eq (by decide) (by omega))
  · rw [bI1] at c2
    rw [e9, Int32.le_iff_toInt_le, ti_8] at c
    have ok : rLandOK h x := ⟨fun q => c (by rw [q, ti_8]; omega), c2⟩
    have s1 := R.stN (t := (0, 4)) hn
    have s2 : SH (stI (stN h (0, 4)) (hN h) 0 x) := s1
    have e0 : hI (stI (stN h (0, 4)) (hN h) 0 x) 0 9 = hI h 0 9 := by
      show up2 (up1 (hI h) (hN h) (fun _ => 0)) (hN h) 0 x 0 9 = _
      rw [up2_ne (by omega), up1_ne (by omega)]
    refine ⟨s1, bX4_init_0 s1 ⟨s2, vp_of (by rw [e9]; omega) (by rw [e9]; omega), s2.stQ (by decide) (by decide), ?_⟩⟩
    rw [e0]
    have := k1 ok
    rw [e9]
    unfold kLandH at this
    rw [e9] at this
    exact this
  · rw [bI0] at c2
    exact fun q => c2 q.2
