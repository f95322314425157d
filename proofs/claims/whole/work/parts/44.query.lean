/-! ===== can, cost, span, local: both sides ===== -/
noncomputable def rCanV (h : aH) (p t x4 x : Int32) : Int32 := if rIsSpan h p t x4 x then rReasons h p t x.toNatClampNeg 0 x4.toNatClampNeg else -1
def rCostV (h : aH) (p t x4 x : Int32) : Int32 := if rIsSpan h p t x4 x then rCosts h p t x.toNatClampNeg x4.toNatClampNeg else -1
theorem c_can {l : Launch} {E : eE} {d bc bs : Nat} {h : aH} {K : Int32 → aH → Prop} {p t x4 x : Int32} (S : SR h) (hd : 3 ≤ d) (k : K (rCanV h p t x4 x) h) : CI l E d bc bs mX12_can [.inr (some (0, 12, 63)), .inl p, .inl t, .inl x4, .inl x] h K := by
  obtain ⟨d, rfl⟩ : ∃ d', d = d' + 1 := ⟨d - 1, by omega⟩
  unfold rCanV at k
  refine bX12_can_0 S (by omega) ⟨fun c => ?_, fun c => ⟨c.1, c.2.1, c.2.2, ?_⟩⟩
  · rw [if_neg c] at k; exact k
  · rw [if_pos c] at k; exact k
theorem c_cost {l : Launch} {E : eE} {d bc bs : Nat} {h : aH} {K : Int32 → aH → Prop} {p t x4 x : Int32} (S : SR h) (hd : 2 ≤ d) (k : K (rCostV h p t x4 x) h) : CI l E d bc bs mX12_cost [.inr (some (0, 12, 63)), .inl p, .inl t, .inl x4, .inl x] h K := by
  obtain ⟨d, rfl⟩ : ∃ d', d = d' + 1 := ⟨d - 1, by omega⟩
  unfold rCostV at k
  refine bX12_cost_0 S (by omega) ⟨fun c => ?_, fun c => ⟨c.1, c.2.1, c.2.2, ?_⟩⟩
  · rw [if_neg c] at k; exact k
  · rw [if_pos c] at k; exact k
/-! the class -/
theorem k_personAt {l : Launch} {E : eE} {d bc bs : Nat} {h : aH} {K : aR → aH → Prop} {x : Int32} (S : SK h) (k0 : ¬ inI x (hI h 63 3) → K none h) (k1 : ∀ p o a : Nat, x = nI p → (p : Int) < (hI h 63 3).toInt → PeAt h p o a → K (some (0, 6, o)) h) : CR l E d bc bs mX11_personAt [.inr (some (0, 11, 0)), .inl x] h K := by
  have hN := S.n
  unfold RIn at hN
  refine bX11_personAt_0 S.1.1 ⟨fun c => k0 ?_, fun c => ⟨fun c2 => k0 ?_, fun c2 => ?_⟩⟩
  · simp only [Int32.lt_iff_toInt_lt, Int32.le_iff_toInt_le, ti_z, ti_m1, ti_m24, ti_0, ti_1, ti_2, ti_3, ti_4, ti_5, ti_6, ti_7, ti_8, ti_11, ti_12, ti_15, ti_24, ti_28, ti_31, ti_47, ti_48, ti_52, ti_90, ti_100, ti_127, ti_336, ti_363, ti_364, ti_400, ti_416, ti_576, ti_17471, ti_17472] at c; intro q; omega
  · rw [S.2.1.2.1] at c2; simp only [Int32.lt_iff_toInt_lt, Int32.le_iff_toInt_le, ti_z, ti_m1, ti_m24, ti_0, ti_1, ti_2, ti_3, ti_4, ti_5, ti_6, ti_7, ti_8, ti_11, ti_12, ti_15, ti_24, ti_28, ti_31, ti_47, ti_48, ti_52, ti_90, ti_100, ti_127, ti_336, ti_363, ti_364, ti_400, ti_416, ti_576, ti_17471, ti_17472] at c2; intro q; omega
  · rw [S.2.1.2.1] at c2
    simp only [Int32.lt_iff_toInt_lt, Int32.le_iff_toInt_le, ti_z, ti_m1, ti_m24, ti_0, ti_1, ti_2, ti_3, ti_4, ti_5, ti_6, ti_7, ti_8, ti_11, ti_12, ti_15, ti_24, ti_28, ti_31, ti_47, ti_48, ti_52, ti_90, ti_100, ti_127, ti_336, ti_363, ti_364, ti_400, ti_416, ti_576, ti_17471, ti_17472] at c c2
    have e := i32_clamp (x := x) (by omega)
    obtain ⟨o, a, hp⟩ := S.2.2.2 x.toNatClampNeg (by omega)
    refine ⟨vp_of (by omega) (by omega), ?_⟩
    rw [hp.1]
    exact k1 _ o a (i32_nn (by omega)) (by omega) hp
theorem k_landAt {l : Launch} {E : eE} {d bc bs : Nat} {h : aH} {K : aR → aH → Prop} {x : Int32} (S : SK h) (k0 : ¬ inI x (hI h 63 1) → K none h) (k1 : ∀ i o : Nat, x = nI i → (i : Int) < (hI h 63 1).toInt → LdAt h i o → K (some (0, 4, o)) h) : CR l E d bc bs mX11_landAt [.inr (some (0, 11, 0)), .inl x] h K := by
  have hN := S.n
  unfold RIn at hN
  refine bX11_landAt_0 S.1.1 ⟨fun c => k0 ?_, fun c => ⟨fun c2 => k0 ?_, fun c2 => ?_⟩⟩
  · simp only [Int32.lt_iff_toInt_lt, Int32.le_iff_toInt_le, ti_z, ti_m1, ti_m24, ti_0, ti_1, ti_2, ti_3, ti_4, ti_5, ti_6, ti_7, ti_8, ti_11, ti_12, ti_15, ti_24, ti_28, ti_31, ti_47, ti_48, ti_52, ti_90, ti_100, ti_127, ti_336, ti_363, ti_364, ti_400, ti_416, ti_576, ti_17471, ti_17472] at c; intro q; omega
  · rw [S.2.1.1] at c2; simp only [Int32.lt_iff_toInt_lt, Int32.le_iff_toInt_le, ti_z, ti_m1, ti_m24, ti_0, ti_1, ti_2, ti_3, ti_4, ti_5, ti_6, ti_7, ti_8, ti_11, ti_12, ti_15, ti_24, ti_28, ti_31, ti_47, ti_48, ti_52, ti_90, ti_100, ti_127, ti_336, ti_363, ti_364, ti_400, ti_416, ti_576, ti_17471, ti_17472] at c2; intro q; omega
  · rw [S.2.1.1] at c2
    simp only [Int32.lt_iff_toInt_lt, Int32.le_iff_toInt_le, ti_z, ti_m1, ti_m24, ti_0, ti_1, ti_2, ti_3, ti_4, ti_5, ti_6, ti_7, ti_8, ti_11, ti_12, ti_15, ti_24, ti_28, ti_31, ti_47, ti_48, ti_52, ti_90, ti_100, ti_127, ti_336, ti_363, ti_364, ti_400, ti_416, ti_576, ti_17471, ti_17472] at c c2
    have e := i32_clamp (x := x) (by omega)
    obtain ⟨o, hp⟩ := S.2.2.1 x.toNatClampNeg (by omega)
    refine ⟨vp_of (by omega) (by omega), ?_⟩
    rw [hp.1]
    exact k1 _ o (i32_nn (by omega)) (by omega) hp
theorem k_isSlot {l : Launch} {E : eE} {d bc bs : Nat} {h : aH} {K : Int32 → aH → Prop} {x : Int32} (S : SH h) (k : K (bI (0 ≤ x.toInt ∧ x.toInt < 17472)) h) : CI l E d bc bs mX11_isSlot [.inl x] h K := by
  refine bX11_isSlot_0 S ⟨fun c => kF k ?_, fun c => ⟨fun c2 => kF k ?_, fun c2 => kT k ?_⟩⟩ <;> simp only [Int32.lt_iff_toInt_lt, Int32.le_iff_toInt_le, ti_z, ti_m1, ti_m24, ti_0, ti_1, ti_2, ti_3, ti_4, ti_5, ti_6, ti_7, ti_8, ti_11, ti_12, ti_15, ti_24, ti_28, ti_31, ti_47, ti_48, ti_52, ti_90, ti_100, ti_127, ti_336, ti_363, ti_364, ti_400, ti_416, ti_576, ti_17471, ti_17472] at * <;> omega
theorem k_isWeek {l : Launch} {E : eE} {d bc bs : Nat} {h : aH} {K : Int32 → aH → Prop} {x : Int32} (S : SH h) (k : K (bI (0 ≤ x.toInt ∧ x.toInt < 52)) h) : CI l E d bc bs mX11_isWeek [.inl x] h K := by
  refine bX11_isWeek_0 S ⟨fun c => kF k ?_, fun c => ⟨fun c2 => kF k ?_, fun c2 => kT k ?_⟩⟩ <;> simp only [Int32.lt_iff_toInt_lt, Int32.le_iff_toInt_le, ti_z, ti_m1, ti_m24, ti_0, ti_1, ti_2, ti_3, ti_4, ti_5, ti_6, ti_7, ti_8, ti_11, ti_12, ti_15, ti_24, ti_28, ti_31, ti_47, ti_48, ti_52, ti_90, ti_100, ti_127, ti_336, ti_363, ti_364, ti_400, ti_416, ti_576, ti_17471, ti_17472] at * <;> omega
theorem k_isOffset {l : Launch} {E : eE} {d bc bs : Nat} {h : aH} {K : Int32 → aH → Prop} {x : Int32} (S : SH h) (k : K (bI (-24 ≤ x.toInt ∧ x.toInt ≤ 28)) h) : CI l E d bc bs mX11_isOffset [.inl x] h K := by
  refine bX11_isOffset_0 S ⟨fun c => kF k ?_, fun c => ⟨fun c2 => kF k ?_, fun c2 => kT k ?_⟩⟩ <;> simp only [Int32.lt_iff_toInt_lt, Int32.le_iff_toInt_le, ti_z, ti_m1, ti_m24, ti_0, ti_1, ti_2, ti_3, ti_4, ti_5, ti_6, ti_7, ti_8, ti_11, ti_12, ti_15, ti_24, ti_28, ti_31, ti_47, ti_48, ti_52, ti_90, ti_100, ti_127, ti_336, ti_363, ti_364, ti_400, ti_416, ti_576, ti_17471, ti_17472] at * <;> omega
theorem k_isKnown {l : Launch} {E : eE} {d bc bs : Nat} {h : aH} {K : Int32 → aH → Prop} {x : Int32} (S : SK h) (k : K (bI (0 ≤ x.toInt ∧ x.toInt ≤ (hI h 63 8).toInt)) h) : CI l E d bc bs mX11_isKnown [.inr (some (0, 11, 0)), .inl x] h K := by
  have e := S.2.1.2.2.1
  refine bX11_isKnown_0 S.1.1 ⟨fun c => kF k ?_, fun c => ⟨fun c2 => kF k ?_, fun c2 => kT k ?_⟩⟩
  · simp only [Int32.lt_iff_toInt_lt, Int32.le_iff_toInt_le, ti_z, ti_m1, ti_m24, ti_0, ti_1, ti_2, ti_3, ti_4, ti_5, ti_6, ti_7, ti_8, ti_11, ti_12, ti_15, ti_24, ti_28, ti_31, ti_47, ti_48, ti_52, ti_90, ti_100, ti_127, ti_336, ti_363, ti_364, ti_400, ti_416, ti_576, ti_17471, ti_17472] at c; intro q; omega
  · rw [e] at c2; simp only [Int32.lt_iff_toInt_lt, Int32.le_iff_toInt_le, ti_z, ti_m1, ti_m24, ti_0, ti_1, ti_2, ti_3, ti_4, ti_5, ti_6, ti_7, ti_8, ti_11, ti_12, ti_15, ti_24, ti_28, ti_31, ti_47, ti_48, ti_52, ti_90, ti_100, ti_127, ti_336, ti_363, ti_364, ti_400, ti_416, ti_576, ti_17471, ti_17472] at c2; intro q; omega
  · rw [e] at c2; simp only [Int32.lt_iff_toInt_lt, Int32.le_iff_toInt_le, ti_z, ti_m1, ti_m24, ti_0, ti_1, ti_2, ti_3, ti_4, ti_5, ti_6, ti_7, ti_8, ti_11, ti_12, ti_15, ti_24, ti_28, ti_31, ti_47, ti_48, ti_52, ti_90, ti_100, ti_127, ti_336, ti_363, ti_364, ti_400, ti_416, ti_576, ti_17471, ti_17472] at c c2; omega
theorem k_isStretch {l : Launch} {E : eE} {d bc bs : Nat} {h : aH} {K : Int32 → aH → Prop} {t x4 : Int32} (S : SH h) (hd : 1 ≤ d) (k : K (bI (0 ≤ t.toInt ∧ 1 ≤ x4.toInt ∧ x4.toInt ≤ 6 ∧ t.toInt + x4.toInt ≤ 17472)) h) : CI l E d bc bs mX11_isStretch [.inl t, .inl x4] h K := by
  obtain ⟨d, rfl⟩ : ∃ d', d = d' + 1 := ⟨d - 1, by omega⟩
  refine bX11_isStretch_0 S (k_isSlot S ⟨S, fun c => kF k ?_, fun c => ⟨fun c1 => kF k ?_, fun c1 => ⟨fun c2 => kF k ?_, fun c2 => ?_⟩⟩⟩)
  · rw [bI0] at c; intro q; omega
  · simp only [Int32.lt_iff_toInt_lt, Int32.le_iff_toInt_le, ti_z, ti_m1, ti_m24, ti_0, ti_1, ti_2, ti_3, ti_4, ti_5, ti_6, ti_7, ti_8, ti_11, ti_12, ti_15, ti_24, ti_28, ti_31, ti_47, ti_48, ti_52, ti_90, ti_100, ti_127, ti_336, ti_363, ti_364, ti_400, ti_416, ti_576, ti_17471, ti_17472] at c1; intro q; omega
  · simp only [Int32.lt_iff_toInt_lt, Int32.le_iff_toInt_le, ti_z, ti_m1, ti_m24, ti_0, ti_1, ti_2, ti_3, ti_4, ti_5, ti_6, ti_7, ti_8, ti_11, ti_12, ti_15, ti_24, ti_28, ti_31, ti_47, ti_48, ti_52, ti_90, ti_100, ti_127, ti_336, ti_363, ti_364, ti_400, ti_416, ti_576, ti_17471, ti_17472] at c2; intro q; omega
  · rw [bI1] at c
    simp only [Int32.lt_iff_toInt_lt, Int32.le_iff_toInt_le, ti_z, ti_m1, ti_m24, ti_0, ti_1, ti_2, ti_3, ti_4, ti_5, ti_6, ti_7, ti_8, ti_11, ti_12, ti_15, ti_24, ti_28, ti_31, ti_47, ti_48, ti_52, ti_90, ti_100, ti_127, ti_336, ti_363, ti_364, ti_400, ti_416, ti_576, ti_17471, ti_17472] at c1 c2
    have e : (t + x4).toInt = t.toInt + x4.toInt := i_add (by omega) (by omega)
    refine ⟨fun c3 => kF k ?_, fun c3 => kT k ?_⟩ <;> simp only [Int32.lt_iff_toInt_lt, Int32.le_iff_toInt_le, ti_z, ti_m1, ti_m24, ti_0, ti_1, ti_2, ti_3, ti_4, ti_5, ti_6, ti_7, ti_8, ti_11, ti_12, ti_15, ti_24, ti_28, ti_31, ti_47, ti_48, ti_52, ti_90, ti_100, ti_127, ti_336, ti_363, ti_364, ti_400, ti_416, ti_576, ti_17471, ti_17472, e] at c3 <;> omega
theorem k_can {l : Launch} {E : eE} {d bc bs : Nat} {h : aH} {K : Int32 → aH → Prop} {p t x4 x : Int32} (S : SK h) (hd : 4 ≤ d) (k : K (rCanV h p t x4 x) h) : CI l E d bc bs mX11_can [.inr (some (0, 11, 0)), .inl p, .inl t, .inl x4, .inl x] h K := by
  obtain ⟨d, rfl⟩ : ∃ d', d = d' + 1 := ⟨d - 1, by omega⟩
  have R := S.1.1
  unfold rCanV at k
  refine bX11_can_0 R (k_personAt S (fun c => ⟨R, fun _ => ?_, fun _ e => by cases e⟩) (fun j o a e hj hp => ⟨R, fun e => (by cases e), fun _ _ => k_isStretch R (by omega) ⟨R, fun c => ?_, fun c => k_isKnown S ⟨R, fun c2 => ⟨o, rfl, k_hind S (by omega) hp hj (bI1.mp c) (bI1.mp c2) ⟨R, ?_⟩⟩, fun c2 => ?_⟩⟩⟩))
  · rw [if_neg (fun q => c q.1)] at k; exact k
  · rw [bI0] at c
    rw [if_neg (fun q => c q.2.1)] at k; exact k
  · rw [bI1] at c c2
    rw [if_pos ⟨by rw [e]; exact ⟨by rw [nI_toInt (by have := S.n; unfold RIn at this; omega)]; omega, by rw [nI_toInt (by have := S.n; unfold RIn at this; omega)]; exact hj⟩, c, c2⟩, e] at k
    exact k
  · rw [bI0] at c2
    rw [if_neg (fun q => c2 q.2.2)] at k; exact k
theorem k_cost {l : Launch} {E : eE} {d bc bs : Nat} {h : aH} {K : Int32 → aH → Prop} {p t x4 x : Int32} (S : SK h) (hd : 3 ≤ d) (k : K (rCostV h p t x4 x) h) : CI l E d bc bs mX11_cost [.inr (some (0, 11, 0)), .inl p, .inl t, .inl x4, .inl x] h K := by
  obtain ⟨d, rfl⟩ : ∃ d', d = d' + 1 := ⟨d - 1, by omega⟩
  have R := S.1.1
  unfold rCostV at k
  refine bX11_cost_0 R (k_personAt S (fun c => ⟨R, fun _ => ?_, fun _ e => by cases e⟩) (fun j o a e hj hp => ⟨R, fun e => (by cases e), fun _ _ => k_isStretch R (by omega) ⟨R, fun c => ?_, fun c => k_isKnown S ⟨R, fun c2 => ⟨o, rfl, k_price S (by omega) hp hj (bI1.mp c) (bI1.mp c2) ⟨R, ?_⟩⟩, fun c2 => ?_⟩⟩⟩))
  · rw [if_neg (fun q => c q.1)] at k; exact k
  · rw [bI0] at c
    rw [if_neg (fun q => c q.2.1)] at k; exact k
  · rw [bI1] at c c2
    rw [if_pos ⟨by rw [e]; exact ⟨by rw [nI_toInt (by have := S.n; unfold RIn at this; omega)]; omega, by rw [nI_toInt (by have := S.n; unfold RIn at this; omega)]; exact hj⟩, c, c2⟩, e] at k
    exact k
  · rw [bI0] at c2
    rw [if_neg (fun q => c2 q.2.2)] at k; exact k
theorem rSpan_no {h : aH} {p t : Int32} : ∀ n, ¬ rBusy h p t n → rSpan h p t n = -1
  | 0, _ => rfl
  | n + 1, c => by
    rw [rSpan, if_neg (fun q => c ⟨n, Nat.lt_succ_self n, q⟩)]
    exact rSpan_no n (fun ⟨j, hj, q⟩ => c ⟨j, by omega, q⟩)
theorem rSpan_at {h : aH} {p t : Int32} {j : Nat} (hc : hA h 69 j = nI 2 ∧ hA h 70 j = p ∧ ¬ t < hA h 71 j ∧ ¬ hA h 72 j ≤ t) : ∀ n, j < n → (∀ a, j < a → a < n → ¬ (hA h 69 a = nI 2 ∧ hA h 70 a = p ∧ ¬ t < hA h 71 a ∧ ¬ hA h 72 a ≤ t)) → rSpan h p t n = if hA h 73 j = 0 then nI j else -2
  | 0, h0, _ => absurd h0 (Nat.not_lt_zero j)
  | n + 1, h0, hno => by
    rw [rSpan]
    rcases Nat.lt_or_ge j n with g | g
    · rw [if_neg (hno n g (Nat.lt_succ_self n))]
      exact rSpan_at hc n g (fun a h1 h2 => hno a h1 (by omega))
    · have e : j = n := by omega
      subst e
      rw [if_pos hc]
theorem k_span {l : Launch} {E : eE} {d bc bs : Nat} {h : aH} {K : Int32 → aH → Prop} {p t x : Int32} (S : SK h) (hd : 1 ≤ d) (k : K (rSpanV h p t x) h) : CI l E d bc bs mX11_span [.inr (some (0, 11, 0)), .inl p, .inl t, .inl x] h K := by
  obtain ⟨d, rfl⟩ : ∃ d', d = d' + 1 := ⟨d - 1, by omega⟩
  have R := S.1.1
  have hN := S.n
  unfold RIn at hN
  unfold rSpanV at k
  refine bX11_span_0 R (k_personAt S (fun c => ⟨R, fun _ => ?_, fun _ e => by cases e⟩) (fun j o a e hj hp => ⟨R, fun e => (by cases e), fun _ _ => k_isSlot R ⟨R, fun c => ?_, fun c => k_isKnown S ⟨R, fun c2 => ⟨o, rfl, ?_⟩, fun c2 => ?_⟩⟩⟩))
  · rw [if_neg (fun q => c q.1)] at k; exact k
  · rw [bI0] at c
    rw [if_neg (fun q => c q.2.1)] at k; exact k
  · rw [bI1] at c c2
    have hm := nF_eq S.1
    have ex := i32_clamp c2.1
    rw [if_pos ⟨by rw [e]; exact ⟨by rw [nI_toInt (by omega)]; omega, by rw [nI_toInt (by omega)]; exact hj⟩, c, c2⟩, e] at k
    refine bX6_spanAt_0 R ?_
    rw [i32_nn c2.1]
    refine w_kspan (p := j) R (by omega) (fun i y hi hc hlast e0 e3 => ⟨R, fun _ _ => ⟨y, rfl, ?_⟩, fun z => by cases z⟩) (fun z => ⟨R, fun _ e => (by cases e), fun _ => ?_⟩) (nF h) _ (by omega) hp.2.2.2.2.2.2.1 (fun j h1 h2 => by omega)
    · rw [rSpan_at hc _ hi hlast] at k
      rw [e0, e3]
      refine ⟨fun g => ?_, fun g => ?_⟩
      · rw [if_pos g] at k; exact k
      · rw [if_neg g] at k; exact k
    · rw [rSpan_no _ z] at k; exact k
  · rw [bI0] at c2
    rw [if_neg (fun q => c2 q.2.2)] at k; exact k
theorem k_local {l : Launch} {E : eE} {d bc bs : Nat} {h : aH} {K : Int32 → aH → Prop} {x1 x2 x3 x4 : Int32} (S : SK h) (hd : 1 ≤ d) (k : K (rLocal h x1 x2 x3 x4) h) : CI l E d bc bs mX11_local [.inr (some (0, 11, 0)), .inl x1, .inl x2, .inl x3, .inl x4] h K := by
  obtain ⟨d, rfl⟩ : ∃ d', d = d' + 1 := ⟨d - 1, by omega⟩
  have R := S.1.1
  have hN := S.n
  unfold RIn at hN
  unfold rLocal at k
  refine bX11_local_0 R (k_landAt S (fun c => ⟨R, fun _ => ?_, fun _ e => by cases e⟩) (fun i o e hi hl => ⟨R, fun e => (by cases e), fun _ _ => k_isSlot R ⟨R, fun c => ?_, fun c => k_isKnown S ⟨R, fun c2 => ⟨o, rfl, k_offL S.1 hl hi (bI1.mp c2) ⟨R, ?_⟩⟩, fun c2 => ?_⟩⟩⟩))
  · rw [if_neg (fun q => c q.1)] at k; exact k
  · rw [bI0] at c
    rw [if_neg (fun q => c q.2.1)] at k; exact k
  · rw [bI1] at c c2
    have ex := i32_clamp c2.1
    have hin : inI x1 (hI h 63 1) := by rw [e]; exact ⟨by rw [nI_toInt (by omega)]; omega, by rw [nI_toInt (by omega)]; exact hi⟩
    have hof := rOff_rng S.1 (t := x2) (n := x3.toNatClampNeg) hin (by omega)
    rw [if_pos ⟨hin, c, c2⟩] at k
    rw [← e]
    have hl2 : (x2 + rOff h x1 x2 x3.toNatClampNeg).toInt = x2.toInt + (rOff h x1 x2 x3.toNatClampNeg).toInt := i_add (by omega) (by omega)
    have hdn := rDown48 (x2 + rOff h x1 x2 x3.toNatClampNeg)
    refine c_fdiv48 R ⟨R, fun q => ?_, fun q => c_fmod48 R (by omega) ⟨R, ?_⟩, fun q => c_fmod7 R (by omega) ⟨R, ?_⟩, fun q => ?_, fun q => ?_⟩
    · rw [if_pos q] at k; exact k
    · rw [if_neg (by rw [q]; decide), if_pos q] at k; exact k
    · rw [if_neg (by rw [q]; decide), if_neg (by rw [q]; decide), if_pos q] at k; exact k
    · rw [if_neg (by rw [q]; decide), if_neg (by rw [q]; decide), if_neg (by rw [q]; decide), if_pos q] at k; exact k
    · rw [if_neg (i32_ne (by decide) (by omega)), if_neg (i32_ne (by decide) (by omega)), if_neg (i32_ne (by decide) (by omega)), if_neg (i32_ne (by decide) (by omega))] at k; exact k
  · rw [bI0] at c2
    rw [if_neg (fun q => c2 q.2.2)] at k; exact k
