/-! ===== count ===== -/
theorem ti_208 : (nI 208).toInt = 208 := by decide
def rCnt (h : aH) : Nat → Int32
  | 0 => nI 0
  | k + 1 => if hA h 80 (2 * k) = -1 then rCnt h k else rCnt h k + nI 1
theorem w_count {l : Launch} {E : eE} {d bc bs : Nat} {h : aH} {K : Int32 → aH → Prop} {x1 : Int32} (S : SH h) (k : K (rCnt h 208) h) : ∀ (j i : Nat), i + j = 208 → LX12_count_60 l E d bc bs x1 (rCnt h i) (nI i) h K := by
  intro j
  induction j with
  | zero =>
    intro i hi
    have hi : i = 208 := by omega
    subst hi
    exact bX12_count_60 S ⟨fun _ => k, fun c => absurd (nI_le (Nat.le_refl 208) (by omega)) c⟩
  | succ j ih =>
    intro i hi
    have ih := ih (i + 1) (by omega)
    have ei : (nI i).toInt = i := nI_toInt (by omega)
    have e2 : (nI 2 * nI i).toInt = 2 * i := by rw [i_mul (by rw [ti_2]; omega) (by rw [ti_2]; omega), ti_2, ei]
    have e3 := i32_clamp (x := nI 2 * nI i) (by omega)
    refine bX12_count_60 S ⟨fun c => absurd c (nI_ge (by omega) (by omega)), fun _ => ⟨vp_of (by omega) (by omega), ?_⟩⟩
    rw [show (nI 2 * nI i).toNatClampNeg = 2 * i by omega, nI_add]
    unfold rCnt at ih
    refine ⟨fun c => ?_, fun c => ?_⟩
    · rw [if_pos c] at ih; exact ih
    · rw [if_neg c] at ih; exact ih
def rCountV (h : aH) (x : Int32) : Int32 := if x = nI 0 then hI h 63 1 else if x = nI 1 then hI h 63 3 else if x = nI 2 then hI h 63 8 else if x = nI 3 then hI h 63 14 else if x = nI 4 then rCnt h 208 else -1
theorem c_count {l : Launch} {E : eE} {d bc bs : Nat} {h : aH} {K : Int32 → aH → Prop} {x : Int32} (S : SH h) (k : K (rCountV h x) h) : CI l E d bc bs mX12_count [.inr (some (0, 12, 63)), .inl x] h K := by
  unfold rCountV at k
  refine bX12_count_0 S ⟨fun q => ?_, fun q => ?_, fun q => ?_, fun q => ?_, fun q => w_count S ?_ 208 0 (by omega), fun q => ?_⟩
  · rw [if_pos q] at k; exact k
  · rw [if_neg (by rw [q]; decide), if_pos q] at k; exact k
  · rw [if_neg (by rw [q]; decide), if_neg (by rw [q]; decide), if_pos q] at k; exact k
  · rw [if_neg (by rw [q]; decide), if_neg (by rw [q]; decide), if_neg (by rw [q]; decide), if_pos q] at k; exact k
  · rw [if_neg (by rw [q]; decide), if_neg (by rw [q]; decide), if_neg (by rw [q]; decide), if_neg (by rw [q]; decide), if_pos q] at k; exact k
  · rw [if_neg (i32_ne (by decide) (by omega)), if_neg (i32_ne (by decide) (by omega)), if_neg (i32_ne (by decide) (by omega)), if_neg (i32_ne (by decide) (by omega)), if_neg (i32_ne (by decide) (by omega))] at k; exact k
theorem w_mcIn {l : Launch} {E : eE} {d bc bs : Nat} {h : aH} {K : Int32 → aH → Prop} {s : Nat} (V : LV h) (hs : (s : Int) < (hI h 63 14).toInt) (k : LX11_meetingCount_4 l E d bc bs (rCnt h (52 * s + 52)) (nI (s + 1)) h K) : ∀ (j i : Nat), i + j = 52 → LX11_meetingCount_14 l E d bc bs (rCnt h (52 * s + i)) (nI s) (nI i) h K := by
  have hN := V.1.2.1
  unfold RIn at hN
  obtain ⟨o, hl⟩ := V.2.1.2.1 s hs
  intro j
  induction j with
  | zero =>
    intro i hi
    have hi : i = 52 := by omega
    subst hi
    exact bX11_meetingCount_14 V.1.1 ⟨fun _ => by rw [nI_add]; exact k, fun c => absurd (nI_le (Nat.le_refl 52) (by omega)) c⟩
  | succ j ih =>
    intro i hi
    have ih := ih (i + 1) (by omega)
    have g := (hl.1.2.2.2.1 i (by omega)).ok.1
    rw [show 104 * s + 2 * i = 2 * (52 * s + i) by omega] at g
    refine bX11_meetingCount_14 V.1.1 ⟨fun c => absurd c (nI_ge (by omega) (by omega)), fun _ => ⟨vp_in_nI (by omega) (by omega), o, by rw [nI_clamp (by omega)]; exact hl.1.1.1, o + 3, hl.1.1.2.2.2.2.2.2.2.2, vp_in_nI (by omega) (by omega), ?_⟩⟩
    rw [nI_clamp (by omega), nI_add]
    rw [← Nat.add_assoc] at ih
    unfold rCnt at ih
    refine ⟨fun c => ?_, fun c => ?_⟩
    · rw [if_neg (fun z => c (g.mpr z))] at ih; exact ih
    · rw [if_pos (g.mp c)] at ih
      rw [show rCnt h (52 * s + i) + nI 0 = rCnt h (52 * s + i) from Int32.add_zero _]
      exact ih
theorem w_mc {l : Launch} {E : eE} {d bc bs : Nat} {h : aH} {K : Int32 → aH → Prop} (V : LV h) (k : K (rCnt h (52 * (hI h 63 14).toNatClampNeg)) h) : ∀ (j s : Nat), s + j = (hI h 63 14).toNatClampNeg → LX11_meetingCount_4 l E d bc bs (rCnt h (52 * s)) (nI s) h K := by
  have hN := V.1.2.1
  unfold RIn at hN
  have ec := i32_clamp hN.2.2.2.1
  have en := i32_nn hN.2.2.2.1
  have e12 := V.2.1.1.1.2.2.2
  intro j
  induction j with
  | zero =>
    intro s hs
    have hs : s = (hI h 63 14).toNatClampNeg := by omega
    subst hs
    exact bX11_meetingCount_4 V.1.1 ⟨fun _ => k, fun c => absurd (by rw [e12, ← en]; exact Int32.le_refl _) c⟩
  | succ j ih =>
    intro s hs
    refine bX11_meetingCount_4 V.1.1 ⟨fun c => ?_, fun _ => w_mcIn V (by omega) ?_ 52 0 (by omega)⟩
    · rw [e12, Int32.le_iff_toInt_le, nI_toInt (by omega)] at c
      omega
    · exact ih (s + 1) (by omega)
theorem rCnt_end {h : aH} {n : Nat} : ∀ j, (∀ i, n ≤ i → i < n + j → hA h 80 (2 * i) = -1) → rCnt h (n + j) = rCnt h n
  | 0, _ => rfl
  | j + 1, H => by
    have := rCnt_end (h := h) (n := n) j (fun i h1 h2 => H i h1 (by omega))
    rw [← Nat.add_assoc, rCnt, if_pos (H (n + j) (by omega) (by omega))]
    exact this
theorem k_count {l : Launch} {E : eE} {d bc bs : Nat} {h : aH} {K : Int32 → aH → Prop} {x : Int32} (V : LV h) (hd : 1 ≤ d) (k : K (rCountV h x) h) : CI l E d bc bs mX11_count [.inr (some (0, 11, 0)), .inl x] h K := by
  obtain ⟨d, rfl⟩ : ∃ d', d = d' + 1 := ⟨d - 1, by omega⟩
  have R := V.1.1
  have hN := V.1.2.1
  unfold RIn at hN
  have ec := i32_clamp hN.2.2.2.1
  obtain ⟨n1, n2, n3, n4⟩ := V.2.1.1.1
  unfold rCountV at k
  have mid : x = nI 4 → K (rCnt h (52 * (hI h 63 14).toNatClampNeg)) h := fun q => by
    rw [if_neg (by rw [q]; decide), if_neg (by rw [q]; decide), if_neg (by rw [q]; decide), if_neg (by rw [q]; decide), if_pos q] at k
    have := rCnt_end (h := h) (n := 52 * (hI h 63 14).toNatClampNeg) (208 - 52 * (hI h 63 14).toNatClampNeg) (fun i h1 h2 => by
      have := (RIs.no V.1.2 (s := i / 52) (by omega) (by omega)).2 (i % 52) (by omega)
      rw [show 104 * (i / 52) + 2 * (i % 52) = 2 * i by omega] at this
      exact this.1)
    rw [show 52 * (hI h 63 14).toNatClampNeg + (208 - 52 * (hI h 63 14).toNatClampNeg) = 208 by omega] at this
    rw [← this]
    exact k
  refine bX11_count_0 R ⟨fun q => ?_, fun q => ?_, fun q => ?_, fun q => ?_, fun q => bX11_meetingCount_0 R (w_mc V ⟨R, mid q⟩ (hI h 63 14).toNatClampNeg 0 (by omega)), fun q => ?_⟩
  · rw [if_pos q] at k; rw [n1]; exact k
  · rw [if_neg (by rw [q]; decide), if_pos q] at k; rw [n2]; exact k
  · rw [if_neg (by rw [q]; decide), if_neg (by rw [q]; decide), if_pos q] at k; rw [n3]; exact k
  · rw [if_neg (by rw [q]; decide), if_neg (by rw [q]; decide), if_neg (by rw [q]; decide), if_pos q] at k; rw [n4]; exact k
  · rw [if_neg (i32_ne (by decide) (by omega)), if_neg (i32_ne (by decide) (by omega)), if_neg (i32_ne (by decide) (by omega)), if_neg (i32_ne (by decide) (by omega)), if_neg (i32_ne (by decide) (by omega))] at k; exact k
/-! ===== stuck ===== -/
def rStk (x left : Int32) (i : Nat) : Nat → Int32
  | 0 => -1
  | j + 1 => if bt x i then (if left = 0 then nI i else rStk x (left + -1) (i + 1) j) else rStk x left (i + 1) j
theorem w_stuck {l : Launch} {E : eE} {d bc bs : Nat} {h : aH} {K : Int32 → aH → Prop} {x1 : Int32} (S : SH h) : ∀ (j i : Nat) (left : Int32), i + j = 12 → K (rStk (hI h 63 38) left i j) h → LX12_stuck_10 l E d bc bs x1 left (nI i) h K := by
  intro j
  induction j with
  | zero =>
    intro i left hi k
    have hi : i = 12 := by omega
    subst hi
    exact bX12_stuck_10 S ⟨fun _ => k, fun c => absurd (nI_le (Nat.le_refl 12) (by omega)) c⟩
  | succ j ih =>
    intro i left hi k
    unfold rStk at k
    refine bX12_stuck_10 S ⟨fun c => absurd c (nI_ge (by omega) (by omega)), fun _ => ?_⟩
    rw [bt_in _ (by omega), nI_add]
    cases e : bt (hI h 63 38) i with
    | true =>
      rw [e] at k
      refine ⟨fun _ => ⟨fun c => ih (i + 1) _ (by omega) ?_, fun c => ?_⟩, fun z => absurd z (by decide)⟩
      · rw [if_pos rfl, if_neg c] at k; exact k
      · rw [if_pos rfl, if_pos c] at k; exact k
    | false =>
      rw [e] at k
      refine ⟨fun z => absurd (by simp) z, fun _ => ih (i + 1) _ (by omega) ?_⟩
      rw [if_neg (by simp)] at k; exact k
def rStkV (h : aH) (x : Int32) : Int32 := if 0 ≤ x then rStk (hI h 63 38) x 0 12 else -1
theorem c_stuck {l : Launch} {E : eE} {d bc bs : Nat} {h : aH} {K : Int32 → aH → Prop} {x : Int32} (S : SH h) (k : K (rStkV h x) h) : CI l E d bc bs mX12_stuck [.inr (some (0, 12, 63)), .inl x] h K := by
  unfold rStkV at k
  refine bX12_stuck_0 S ⟨fun c => w_stuck S 12 0 x (by omega) ?_, fun c => ?_⟩
  · rw [if_pos c] at k; exact k
  · rw [if_neg c] at k; exact k
theorem k_isIn {l : Launch} {E : eE} {d bc bs : Nat} {h : aH} {K : Int32 → aH → Prop} {x : Int32} {i : Nat} (S : SH h) (hi : i < 32) (k : K (if bt x i then nI 1 else nI 0) h) : CI l E d bc bs mX11_isIn [.inl x, .inl (nI i)] h K := by
  refine c_isIn S ?_
  rw [bt_in x hi]
  cases e : bt x i with
  | true => rw [e] at k; exact k
  | false => rw [e] at k; exact k
theorem w_kstuck {l : Launch} {E : eE} {d bc bs : Nat} {h : aH} {K : Int32 → aH → Prop} {x1 : Int32} (S : SH h) : ∀ (j i : Nat) (left : Int32), i + j = 12 → K (rStk (hI h 0 13) left i j) h → LX11_stuck_4 l E (d + 1) bc bs x1 left (nI i) h K := by
  intro j
  induction j with
  | zero =>
    intro i left hi k
    have hi : i = 12 := by omega
    subst hi
    exact bX11_stuck_4 S ⟨fun _ => k, fun c => absurd (nI_le (Nat.le_refl 12) (by omega)) c⟩
  | succ j ih =>
    intro i left hi k
    unfold rStk at k
    refine bX11_stuck_4 S ⟨fun c => absurd c (nI_ge (by omega) (by omega)), fun _ => k_isIn S (by omega) ⟨S, ?_⟩⟩
    rw [nI_add]
    cases e : bt (hI h 0 13) i with
    | true =>
      rw [e] at k
      refine ⟨fun z => absurd z (by decide), fun _ => ⟨fun c => ih (i + 1) _ (by omega) ?_, fun c => ?_⟩⟩
      · rw [if_pos rfl, if_neg c] at k; exact k
      · rw [if_pos rfl, if_pos c] at k; exact k
    | false =>
      rw [e] at k
      refine ⟨fun _ => ih (i + 1) _ (by omega) ?_, fun z => absurd rfl z⟩
      rw [if_neg (by simp)] at k; exact k
theorem rStk_neg {x : Int32} : ∀ (j i : Nat) (left : Int32), i + j = 12 → (left.toInt < 0 ∨ 100 < left.toInt) → ((left.toInt < 0 → -2147483648 ≤ left.toInt - j ∨ left.toInt - j < -2147483648)) → (100 < left.toInt → 100 + (j : Int) < left.toInt) → rStk x left i j = -1
  | 0, _, _, _, _, _, _ => rfl
  | j + 1, i, left, hi, hl, hx, hb => by
    have hne : ¬ left = 0 := fun e => by rw [e, ti_z] at hl; omega
    have hr := fb_rng' left
    have em1 : (-1 : Int32).toInt = -1 := by decide
    unfold rStk
    rw [if_neg hne]
    have step : rStk x (left + -1) (i + 1) j = -1 := by
      by_cases g : left.toInt = -2147483648
      · have : (left + -1).toInt = 2147483647 := by
          rw [show left = -2147483648 from Int32.toInt_inj.mp (by rw [g]; decide)]; decide
        exact rStk_neg j (i + 1) _ (by omega) (by omega) (fun _ => by omega) (fun _ => by omega)
      · have : (left + -1).toInt = left.toInt - 1 := by rw [i_add (by omega) (by omega), em1]; omega
        exact rStk_neg j (i + 1) _ (by omega) (by omega) (fun _ => by omega) (fun _ => by omega)
    split
    · exact step
    · exact rStk_neg j (i + 1) left (by omega) hl (fun _ => by omega) (fun _ => by omega)
theorem k_stuck {l : Launch} {E : eE} {d bc bs : Nat} {h : aH} {K : Int32 → aH → Prop} {x : Int32} (V : LV h) (hd : 1 ≤ d) (k : K (rStkV h x) h) : CI l E d bc bs mX11_stuck [.inr (some (0, 11, 0)), .inl x] h K := by
  obtain ⟨d, rfl⟩ : ∃ d', d = d' + 1 := ⟨d - 1, by omega⟩
  refine bX11_stuck_0 V.1.1 (w_kstuck V.1.1 12 0 x (by omega) ?_)
  rw [V.2.1.2.2.2.2.1]
  unfold rStkV at k
  by_cases c : 0 ≤ x
  · rw [if_pos c] at k; exact k
  · rw [if_neg c] at k
    rw [Int32.le_iff_toInt_le, ti_z] at c
    rw [rStk_neg 12 0 x (by omega) (by omega) (fun _ => by omega) (fun _ => by omega)]
    exact k
