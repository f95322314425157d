/-! ===== row and cell: both sides ===== -/
theorem stAA_id (h : aH) (a : Nat) : stAA h a (hA h a) = h := by
  have e : up1 (hA h) a (hA h a) = hA h := by
    funext b
    by_cases g : b = a
    · subst g; simp [up1]
    · rw [up1_ne g]
  show (h.1, h.2.1, up1 (hA h) a (hA h a), h.2.2.2) = h
  rw [e]
theorem stA_stAA (h : aH) (a k : Nat) (v : Int32) (f : Nat → Int32) : stA (stAA h a f) a k v = stAA h a (fun j => if j = k then v else f j) := by
  have e : up2 (up1 (hA h) a f) a k v = up1 (hA h) a (fun j => if j = k then v else f j) := by
    funext b c
    by_cases g : b = a
    · subst g; simp [up1, up2]
    · rw [up2_ne g, up1_ne g, up1_ne g]
  show (h.1, h.2.1, up2 (up1 (hA h) a f) a k v, h.2.2.2) = (h.1, h.2.1, up1 (hA h) a (fun j => if j = k then v else f j), h.2.2.2)
  rw [e]
theorem stA_AA (h : aH) (a k : Nat) (v : Int32) : stA h a k v = stAA h a (fun j => if j = k then v else hA h a j) := by
  have := stA_stAA h a k v (hA h a)
  rw [stAA_id] at this
  exact this
theorem stAA_AA (h : aH) (a : Nat) (f g : Nat → Int32) : stAA (stAA h a f) a g = stAA h a g := by
  have e : up1 (up1 (hA h) a f) a g = up1 (hA h) a g := by
    funext b
    by_cases q : b = a
    · subst q; simp [up1]
    · rw [up1_ne q, up1_ne q, up1_ne q]
  show (h.1, h.2.1, up1 (up1 (hA h) a f) a g, h.2.2.2) = (h.1, h.2.1, up1 (hA h) a g, h.2.2.2)
  rw [e]
theorem hA_AA (h : aH) (a : Nat) (f : Nat → Int32) : hA (stAA h a f) a = f := by
  show up1 (hA h) a f a = f
  simp [up1]
theorem hA_AAn (h : aH) {a b : Nat} (f : Nat → Int32) (g : b ≠ a) : hA (stAA h a f) b = hA h b := up1_ne g
theorem stAA_eq {h : aH} {a : Nat} {f g : Nat → Int32} (e : ∀ j, f j = g j) : stAA h a f = stAA h a g := by rw [show f = g from funext e]
/-- places a to b - 1 are v, the others as they were -/
def fil (f : Nat → Int32) (a b : Nat) (v : Int32) : Nat → Int32 := fun j => if a ≤ j ∧ j < b then v else f j
theorem fil_0 (f : Nat → Int32) (a : Nat) (v : Int32) : fil f a a v = f := by
  funext j
  unfold fil
  rw [if_neg (by omega)]
theorem fil_z (f : Nat → Int32) (a : Nat) (v : Int32) : fil f a (a + 0) v = f := fil_0 f a v
theorem fil_s (f : Nat → Int32) {a b : Nat} (v : Int32) (h : a ≤ b) : (fun j => if j = b then v else fil f a b v j) = fil f a (b + 1) v := by
  funext j
  unfold fil
  by_cases g : j = b
  · rw [if_pos g, if_pos (by omega)]
  · rw [if_neg g]
    by_cases g2 : a ≤ j ∧ j < b
    · rw [if_pos g2, if_pos (by omega)]
    · rw [if_neg g2, if_neg (by omega)]
abbrev rRowOK (h : aH) (x1 x2 : Int32) : Prop := inI x1 (hI h 63 3) ∧ (x2 = -1 ∨ (1 ≤ x2.toInt ∧ x2.toInt ≤ 48))
def rRowH (h : aH) (x1 x2 : Int32) : aH := stAA (stA h 67 x1.toNatClampNeg x2) 68 (fil (hA h 68) (48 * x1.toNatClampNeg) (48 * x1.toNatClampNeg + 48) (nI 0))
theorem w_row {l : Launch} {E : eE} {d bc bs : Nat} {K : Int32 → aH → Prop} {x1 x2 : Int32} {p : Nat} {g : aH} (S : SH g) (e : x1 = nI p) (hp : p < 12) (k : K (nI 1) (stAA g 68 (fil (hA g 68) (48 * p) (48 * p + 48) (nI 0)))) : ∀ (j i : Nat), i + j = 48 → LX12_row_35 l E (d + 1) bc bs x1 x2 (nI i) (stAA g 68 (fil (hA g 68) (48 * p) (48 * p + i) (nI 0))) K := by
  intro j
  induction j with
  | zero =>
    intro i hi
    have hi : i = 48 := by omega
    subst hi
    exact bX12_row_35 S ⟨fun _ => k, fun c => absurd (nI_le (Nat.le_refl 48) (by omega)) c⟩
  | succ j ih =>
    intro i hi
    have e48 : (nI 48 * x1).toInt = 48 * p := by rw [e, i_mul (by rw [ti_48, nI_toInt (by omega)]; omega) (by rw [ti_48, nI_toInt (by omega)]; omega), ti_48, nI_toInt (by omega)]
    have e2 : (nI 48 * x1 + nI i).toInt = 48 * p + i := by rw [i_add (by rw [e48, nI_toInt (by omega)]; omega) (by rw [e48, nI_toInt (by omega)]; omega), e48, nI_toInt (by omega)]
    have e3 := i32_clamp (x := nI 48 * x1 + nI i) (by omega)
    refine bX12_row_35 S ⟨fun c => absurd c (nI_ge (by omega) (by omega)), fun _ => ⟨vp_of (by omega) (by omega), ?_⟩⟩
    rw [show (nI 48 * x1 + nI i).toNatClampNeg = 48 * p + i by omega, stA_stAA, fil_s _ _ (by omega), nI_add]
    exact ih (i + 1) (by omega)
theorem c_row {l : Launch} {E : eE} {d bc bs : Nat} {h : aH} {K : Int32 → aH → Prop} {x1 x2 : Int32} (S : SR h) (hd : 1 ≤ d) (k1 : rRowOK h x1 x2 → K (nI 1) (rRowH h x1 x2)) (k0 : ¬ rRowOK h x1 x2 → K (nI 0) h) : CI l E d bc bs mX12_row [.inr (some (0, 12, 63)), .inl x1, .inl x2] h K := by
  obtain ⟨d, rfl⟩ : ∃ d', d = d' + 1 := ⟨d - 1, by omega⟩
  have hN := S.2.1
  unfold RIn at hN
  have key : rRowOK h x1 x2 → (vp_in x1 12 ∧ LX12_row_35 l E (d + 1) bc bs x1 x2 (nI 0) (stA h 67 x1.toNatClampNeg x2) K) := fun ok => by
    have e := i32_clamp ok.1.1
    have h2 := ok.1.2
    refine ⟨vp_of ok.1.1 (by omega), ?_⟩
    have w := w_row (l := l) (E := E) (d := d) (bc := bc) (bs := bs) (K := K) (g := stA h 67 x1.toNatClampNeg x2) (x2 := x2) S.1 (i32_nn ok.1.1) (by omega) (k1 ok) 48 0 (by omega)
    rw [fil_z, stAA_id] at w
    exact w
  refine bX12_row_0 S.1 ⟨fun c => k0 (fun q => c q.1), fun c => ⟨fun c1 => key ⟨c, Or.inl c1⟩, fun c1 => ⟨fun c2 => k0 ?_, fun c2 => ⟨fun c3 => key ⟨c, Or.inr ?_⟩, fun c3 => k0 ?_⟩⟩⟩⟩
  · simp only [Int32.lt_iff_toInt_lt, Int32.le_iff_toInt_le, ti_z, ti_m1, ti_m24, ti_0, ti_1, ti_2, ti_3, ti_4, ti_5, ti_6, ti_7, ti_8, ti_11, ti_12, ti_15, ti_24, ti_28, ti_31, ti_47, ti_48, ti_52, ti_90, ti_100, ti_127, ti_336, ti_363, ti_364, ti_400, ti_416, ti_576, ti_17471, ti_17472] at c2
    exact fun q => q.2.elim c1 (fun z => by omega)
  · simp only [Int32.lt_iff_toInt_lt, Int32.le_iff_toInt_le, ti_z, ti_m1, ti_m24, ti_0, ti_1, ti_2, ti_3, ti_4, ti_5, ti_6, ti_7, ti_8, ti_11, ti_12, ti_15, ti_24, ti_28, ti_31, ti_47, ti_48, ti_52, ti_90, ti_100, ti_127, ti_336, ti_363, ti_364, ti_400, ti_416, ti_576, ti_17471, ti_17472] at c2 c3; omega
  · simp only [Int32.lt_iff_toInt_lt, Int32.le_iff_toInt_le, ti_z, ti_m1, ti_m24, ti_0, ti_1, ti_2, ti_3, ti_4, ti_5, ti_6, ti_7, ti_8, ti_11, ti_12, ti_15, ti_24, ti_28, ti_31, ti_47, ti_48, ti_52, ti_90, ti_100, ti_127, ti_336, ti_363, ti_364, ti_400, ti_416, ti_576, ti_17471, ti_17472] at c3
    exact fun q => q.2.elim c1 (fun z => by omega)
abbrev rCellOK (h : aH) (x1 x2 x3 : Int32) : Prop := inI x1 (hI h 63 3) ∧ (0 ≤ x2.toInt ∧ x2.toInt < (hA h 67 x1.toNatClampNeg).toInt) ∧ -1 ≤ x3.toInt ∧ x3.toInt ≤ 100
def rCellH (h : aH) (x1 x2 x3 : Int32) : aH := stA h 68 (48 * x1.toNatClampNeg + x2.toNatClampNeg) x3
theorem c_cell {l : Launch} {E : eE} {d bc bs : Nat} {h : aH} {K : Int32 → aH → Prop} {x1 x2 x3 : Int32} (S : SR h) (hd : 1 ≤ d) (k1 : rCellOK h x1 x2 x3 → K (nI 1) (rCellH h x1 x2 x3)) (k0 : ¬ rCellOK h x1 x2 x3 → K (nI 0) h) : CI l E d bc bs mX12_cell [.inr (some (0, 12, 63)), .inl x1, .inl x2, .inl x3] h K := by
  obtain ⟨d, rfl⟩ : ∃ d', d = d' + 1 := ⟨d - 1, by omega⟩
  have hN := S.2.1
  unfold RIn at hN
  refine bX12_cell_0 S.1 ⟨fun c => k0 (fun q => c q.1), fun c => ⟨fun c1 => k0 ?_, fun c1 => ⟨vp_of c.1 (by have := c.2; omega), fun c2 => k0 ?_, fun c2 => ⟨fun c3 => k0 ?_, fun c3 => ⟨fun c4 => ?_, fun c4 => k0 ?_⟩⟩⟩⟩⟩
  · simp only [Int32.lt_iff_toInt_lt, Int32.le_iff_toInt_le, ti_z, ti_m1, ti_m24, ti_0, ti_1, ti_2, ti_3, ti_4, ti_5, ti_6, ti_7, ti_8, ti_11, ti_12, ti_15, ti_24, ti_28, ti_31, ti_47, ti_48, ti_52, ti_90, ti_100, ti_127, ti_336, ti_363, ti_364, ti_400, ti_416, ti_576, ti_17471, ti_17472] at c1; intro q; omega
  · simp only [Int32.lt_iff_toInt_lt, Int32.le_iff_toInt_le, ti_z, ti_m1, ti_m24, ti_0, ti_1, ti_2, ti_3, ti_4, ti_5, ti_6, ti_7, ti_8, ti_11, ti_12, ti_15, ti_24, ti_28, ti_31, ti_47, ti_48, ti_52, ti_90, ti_100, ti_127, ti_336, ti_363, ti_364, ti_400, ti_416, ti_576, ti_17471, ti_17472] at c2; intro q; omega
  · simp only [Int32.lt_iff_toInt_lt, Int32.le_iff_toInt_le, ti_z, ti_m1, ti_m24, ti_0, ti_1, ti_2, ti_3, ti_4, ti_5, ti_6, ti_7, ti_8, ti_11, ti_12, ti_15, ti_24, ti_28, ti_31, ti_47, ti_48, ti_52, ti_90, ti_100, ti_127, ti_336, ti_363, ti_364, ti_400, ti_416, ti_576, ti_17471, ti_17472] at c3; intro q; omega
  · simp only [Int32.lt_iff_toInt_lt, Int32.le_iff_toInt_le, ti_z, ti_m1, ti_m24, ti_0, ti_1, ti_2, ti_3, ti_4, ti_5, ti_6, ti_7, ti_8, ti_11, ti_12, ti_15, ti_24, ti_28, ti_31, ti_47, ti_48, ti_52, ti_90, ti_100, ti_127, ti_336, ti_363, ti_364, ti_400, ti_416, ti_576, ti_17471, ti_17472] at c1 c2 c3 c4
    have e := i32_clamp c.1
    have h3 := c.2
    have hc := (S.2.2.2.1 x1.toNatClampNeg (by omega)).2.2
    have hc2 : (hA h 67 x1.toNatClampNeg).toInt ≤ 48 := by
      rcases hc with q | q
      · rw [q, ti_m1]; omega
      · exact q.2
    have e48 : (nI 48 * x1).toInt = 48 * x1.toInt := by rw [i_mul (by rw [ti_48]; omega) (by rw [ti_48]; omega), ti_48]
    have e2 : (nI 48 * x1 + x2).toInt = 48 * x1.toInt + x2.toInt := by rw [i_add (by rw [e48]; omega) (by rw [e48]; omega), e48]
    have e3 := i32_clamp (x := nI 48 * x1 + x2) (by omega)
    have e4 := i32_clamp (x := x2) (by omega)
    refine ⟨vp_of (by omega) (by omega), ?_⟩
    rw [show (nI 48 * x1 + x2).toNatClampNeg = 48 * x1.toNatClampNeg + x2.toNatClampNeg by omega]
    exact k1 ⟨c, by omega, by omega⟩
  · simp only [Int32.lt_iff_toInt_lt, Int32.le_iff_toInt_le, ti_z, ti_m1, ti_m24, ti_0, ti_1, ti_2, ti_3, ti_4, ti_5, ti_6, ti_7, ti_8, ti_11, ti_12, ti_15, ti_24, ti_28, ti_31, ti_47, ti_48, ti_52, ti_90, ti_100, ti_127, ti_336, ti_363, ti_364, ti_400, ti_416, ti_576, ti_17471, ti_17472] at c4; intro q; omega
/-! the class -/
def kRowH (h : aH) (o a : Nat) (x2 : Int32) : aH := stAA (stI h o 3 (if x2 < nI 0 then nI 0 else x2)) a (fil (hA h a) 0 48 (nI 0))
theorem w_fillB {l : Launch} {E : eE} {d bc bs : Nat} {h : aH} {K : aH → Prop} {a n : Nat} (S : SH h) (hn : n < 1000000) (k : K (stAA h a (fil (hA h a) 0 n (nI 0)))) : ∀ (j i : Nat), i + j = n → LJ7_fill_031fb_5 l E d bc bs n a (nI 0) (nI i) (nI n) (stAA h a (fil (hA h a) 0 i (nI 0))) K := by
  intro j
  induction j with
  | zero =>
    intro i hi
    have hi : i = n := by omega
    subst hi
    exact bJ7_fill_031fb_5 S ⟨fun _ => k, fun c => absurd (nI_le (Nat.le_refl i) (by omega)) c⟩
  | succ j ih =>
    intro i hi
    refine bJ7_fill_031fb_5 S ⟨fun c => absurd c (nI_ge (by omega) (by omega)), fun _ => ⟨vp_in_nI (by omega) (by omega), ?_⟩⟩
    rw [nI_clamp (by omega), stA_stAA, show vp_nar .byte (nI 0) = nI 0 from rfl, fil_s _ _ (by omega), nI_add]
    exact ih (i + 1) (by omega)
theorem c_fillB {l : Launch} {E : eE} {d bc bs : Nat} {h : aH} {K : aH → Prop} {a n : Nat} (S : SH h) (hn : n < 1000000) (k : K (stAA h a (fil (hA h a) 0 n (nI 0)))) : CV l E d bc bs mJ7_fill_031fb [.inr (some (3, n, a)), .inl (nI 0)] h K := by
  have w := w_fillB (l := l) (E := E) (d := d) (bc := bc) (bs := bs) S hn k n 0 (by omega)
  rw [fil_0, stAA_id] at w
  exact bJ7_fill_031fb_0 S w
theorem k_row {l : Launch} {E : eE} {d bc bs : Nat} {h : aH} {K : Int32 → aH → Prop} {x1 x2 : Int32} (S : SK h) (hd : 2 ≤ d) (k1 : rRowOK h x1 x2 → ∀ p o a : Nat, x1 = nI p → (p : Int) < (hI h 63 3).toInt → PeAt h p o a → K (nI 1) (kRowH h o a x2)) (k0 : ¬ rRowOK h x1 x2 → K (nI 0) h) : CI l E d bc bs mX11_row [.inr (some (0, 11, 0)), .inl x1, .inl x2] h K := by
  obtain ⟨d, rfl⟩ : ∃ d', d = d' + 2 := ⟨d - 2, by omega⟩
  have hN := S.n
  unfold RIn at hN
  have R := S.1.1
  refine bX11_row_0 R (k_personAt S (fun c => ⟨R, fun _ => k0 (fun q => c q.1), fun _ e => by cases e⟩) (fun p o a e hj hp => ⟨R, fun e => (by cases e), fun _ _ => ⟨fun c => k0 ?_, fun c => ⟨fun c1 => k0 ?_, fun c1 => ⟨fun c2 => ?_, fun c2 => k0 ?_⟩⟩⟩⟩))
  · intro q
    rcases q.2 with z | z
    · rw [c] at z; exact absurd z (by decide)
    · rw [c, ti_z] at z; omega
  · simp only [Int32.lt_iff_toInt_lt, Int32.le_iff_toInt_le, ti_z, ti_m1, ti_m24, ti_0, ti_1, ti_2, ti_3, ti_4, ti_5, ti_6, ti_7, ti_8, ti_11, ti_12, ti_15, ti_24, ti_28, ti_31, ti_47, ti_48, ti_52, ti_90, ti_100, ti_127, ti_336, ti_363, ti_364, ti_400, ti_416, ti_576, ti_17471, ti_17472] at c1
    exact fun q => q.2.elim (fun z => by rw [z, ti_m1] at c1; omega) (fun z => by omega)
  · simp only [Int32.lt_iff_toInt_lt, Int32.le_iff_toInt_le, ti_z, ti_m1, ti_m24, ti_0, ti_1, ti_2, ti_3, ti_4, ti_5, ti_6, ti_7, ti_8, ti_11, ti_12, ti_15, ti_24, ti_28, ti_31, ti_47, ti_48, ti_52, ti_90, ti_100, ti_127, ti_336, ti_363, ti_364, ti_400, ti_416, ti_576, ti_17471, ti_17472] at c1 c2
    have c' : ¬ x2.toInt = 0 := fun z => c (i32_eq (n := 0) (by decide) z)
    have ok : rRowOK h x1 x2 := ⟨by rw [e]; exact ⟨by rw [nI_toInt (by omega)]; omega, by rw [nI_toInt (by omega)]; exact hj⟩, by
      by_cases z : x2.toInt = -1
      · exact Or.inl (Int32.toInt_inj.mp (by rw [z, ti_m1]))
      · exact Or.inr (by omega)⟩
    refine ⟨o, rfl, c_max R ⟨R, bX6_clearCells_0 R ⟨a, hp.2.2.2.1, c_fillB R (by decide) ⟨R, R, k1 ok p o a e hj hp⟩⟩⟩⟩
  · simp only [Int32.lt_iff_toInt_lt, Int32.le_iff_toInt_le, ti_z, ti_m1, ti_m24, ti_0, ti_1, ti_2, ti_3, ti_4, ti_5, ti_6, ti_7, ti_8, ti_11, ti_12, ti_15, ti_24, ti_28, ti_31, ti_47, ti_48, ti_52, ti_90, ti_100, ti_127, ti_336, ti_363, ti_364, ti_400, ti_416, ti_576, ti_17471, ti_17472] at c2
    exact fun q => q.2.elim (fun z => by rw [z, ti_m1] at c2; omega) (fun z => by omega)
theorem nar_b {x : Int32} (h1 : -1 ≤ x.toInt) (h2 : x.toInt ≤ 100) : vp_nar .byte x.toInt8.toInt32 = x := by
  by_cases z : x.toInt = -1
  · rw [show x = -1 from Int32.toInt_inj.mp (by rw [z, ti_m1])]; rfl
  · have e := i32_nn (x := x) (by omega)
    have e2 := i32_clamp (x := x) (by omega)
    have key : ∀ j, j < 101 → vp_nar .byte (nI j).toInt8.toInt32 = nI j := by decide
    rw [e]
    exact key _ (by omega)
def kCellH (h : aH) (a : Nat) (x2 x3 : Int32) : aH := stA h a x2.toNatClampNeg x3
theorem k_cell {l : Launch} {E : eE} {d bc bs : Nat} {h : aH} {K : Int32 → aH → Prop} {x1 x2 x3 : Int32} (S : SK h) (hd : 1 ≤ d) (k1 : rCellOK h x1 x2 x3 → ∀ p o a : Nat, x1 = nI p → (p : Int) < (hI h 63 3).toInt → PeAt h p o a → K (nI 1) (kCellH h a x2 x3)) (k0 : ¬ rCellOK h x1 x2 x3 → K (nI 0) h) : CI l E d bc bs mX11_cell [.inr (some (0, 11, 0)), .inl x1, .inl x2, .inl x3] h K := by
  obtain ⟨d, rfl⟩ : ∃ d', d = d' + 1 := ⟨d - 1, by omega⟩
  have hN := S.n
  unfold RIn at hN
  have R := S.1.1
  refine bX11_cell_0 R (k_personAt S (fun c => ⟨R, fun _ => k0 (fun q => c q.1), fun _ e => by cases e⟩) (fun p o a e hj hp => ?_))
  have hpc : x1.toNatClampNeg = p := by rw [e, nI_clamp (by omega)]
  have hcc := (S.1.2.2.2.1 p hj).2.2
  refine ⟨R, fun e => (by cases e), fun _ _ => ⟨fun c => k0 ?_, fun c => ⟨o, rfl, fun c1 => k0 ?_, fun c1 => ⟨fun c2 => k0 ?_, fun c2 => ⟨fun c3 => ⟨a, hp.2.2.2.1, ?_⟩, fun c3 => k0 ?_⟩⟩⟩⟩⟩
  · simp only [Int32.lt_iff_toInt_lt, Int32.le_iff_toInt_le, ti_z, ti_m1, ti_m24, ti_0, ti_1, ti_2, ti_3, ti_4, ti_5, ti_6, ti_7, ti_8, ti_11, ti_12, ti_15, ti_24, ti_28, ti_31, ti_47, ti_48, ti_52, ti_90, ti_100, ti_127, ti_336, ti_363, ti_364, ti_400, ti_416, ti_576, ti_17471, ti_17472] at c; intro q; omega
  · rw [hp.2.2.2.2.1] at c1
    intro q
    have q2 := q.2.1
    rw [hpc] at q2
    by_cases z : hA h 67 p = -1
    · rw [z, ti_m1] at q2; omega
    · rw [if_neg z] at c1; simp only [Int32.lt_iff_toInt_lt, Int32.le_iff_toInt_le, ti_z, ti_m1, ti_m24, ti_0, ti_1, ti_2, ti_3, ti_4, ti_5, ti_6, ti_7, ti_8, ti_11, ti_12, ti_15, ti_24, ti_28, ti_31, ti_47, ti_48, ti_52, ti_90, ti_100, ti_127, ti_336, ti_363, ti_364, ti_400, ti_416, ti_576, ti_17471, ti_17472] at c1; omega
  · simp only [Int32.lt_iff_toInt_lt, Int32.le_iff_toInt_le, ti_z, ti_m1, ti_m24, ti_0, ti_1, ti_2, ti_3, ti_4, ti_5, ti_6, ti_7, ti_8, ti_11, ti_12, ti_15, ti_24, ti_28, ti_31, ti_47, ti_48, ti_52, ti_90, ti_100, ti_127, ti_336, ti_363, ti_364, ti_400, ti_416, ti_576, ti_17471, ti_17472] at c2; intro q; omega
  · rw [hp.2.2.2.2.1] at c1
    have z : ¬ hA h 67 p = -1 := fun z => by
      rw [if_pos z] at c1; simp only [Int32.lt_iff_toInt_lt, Int32.le_iff_toInt_le, ti_z, ti_m1, ti_m24, ti_0, ti_1, ti_2, ti_3, ti_4, ti_5, ti_6, ti_7, ti_8, ti_11, ti_12, ti_15, ti_24, ti_28, ti_31, ti_47, ti_48, ti_52, ti_90, ti_100, ti_127, ti_336, ti_363, ti_364, ti_400, ti_416, ti_576, ti_17471, ti_17472] at c c1; omega
    rw [if_neg z] at c1
    simp only [Int32.lt_iff_toInt_lt, Int32.le_iff_toInt_le, ti_z, ti_m1, ti_m24, ti_0, ti_1, ti_2, ti_3, ti_4, ti_5, ti_6, ti_7, ti_8, ti_11, ti_12, ti_15, ti_24, ti_28, ti_31, ti_47, ti_48, ti_52, ti_90, ti_100, ti_127, ti_336, ti_363, ti_364, ti_400, ti_416, ti_576, ti_17471, ti_17472] at c c1 c2 c3
    have hcc := hcc.resolve_left z
    refine ⟨vp_of (by omega) (by omega), ?_⟩
    rw [nar_b (by omega) (by omega)]
    exact k1 ⟨by rw [e]; exact ⟨by rw [nI_toInt (by omega)]; omega, by rw [nI_toInt (by omega)]; exact hj⟩, by rw [hpc]; omega, by omega⟩ p o a e hj hp
  · simp only [Int32.lt_iff_toInt_lt, Int32.le_iff_toInt_le, ti_z, ti_m1, ti_m24, ti_0, ti_1, ti_2, ti_3, ti_4, ti_5, ti_6, ti_7, ti_8, ti_11, ti_12, ti_15, ti_24, ti_28, ti_31, ti_47, ti_48, ti_52, ti_90, ti_100, ti_127, ti_336, ti_363, ti_364, ti_400, ti_416, ti_576, ti_17471, ti_17472] at c3; intro q; omega
