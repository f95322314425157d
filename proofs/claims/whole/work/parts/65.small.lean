/-! ===== choices of a series ===== -/
def fO (chair c : Int32) : Int32 := if chair = -1 then c else tb1.getD c.toNatClampNeg 0
def sO (chair c : Int32) : Int32 := if chair = -1 then -1 else tb2.getD c.toNatClampNeg 0
/-- c is the number of a choice -/
def okC (chair c : Int32) : Prop := 0 ≤ c.toInt ∧ c.toInt < (if chair = -1 then 6 else 15)
theorem k_isSplit {l : Launch} {E : eE} {d bc bs : Nat} {h : aH} {K : Int32 → aH → Prop} {o : Nat} (S : SH h) (k : K (if hI h o 3 = -1 then nI 0 else nI 1) h) : CI l E d bc bs mX9_isSplit [.inr (some (0, 9, o))] h K := by
  refine bX9_isSplit_0 S ⟨fun c => ?_, fun c => ?_⟩
  · rw [if_pos c] at k; exact k
  · rw [if_neg c] at k; exact k
theorem k_firstOf {l : Launch} {E : eE} {d bc bs : Nat} {h : aH} {K : Int32 → aH → Prop} {o : Nat} {c : Int32} (S : SH h) (hd : 1 ≤ d) (hc : okC (hI h o 3) c) (k : K (fO (hI h o 3) c) h) : CI l E d bc bs mX9_firstOf [.inr (some (0, 9, o)), .inl c] h K := by
  obtain ⟨d, rfl⟩ : ∃ d', d = d' + 1 := ⟨d - 1, by omega⟩
  unfold okC at hc
  unfold fO at k
  refine bX9_firstOf_0 S (k_isSplit S ⟨S, fun z => ?_, fun z => ?_⟩)
  · by_cases g : hI h o 3 = -1
    · rw [if_pos g] at k; exact k
    · rw [if_neg g] at z; exact absurd z (by decide)
  · by_cases g : hI h o 3 = -1
    · rw [if_pos g] at z; exact absurd rfl z
    · rw [if_neg g] at k hc
      exact ⟨vp_of hc.1 hc.2, k⟩
theorem k_secondOf {l : Launch} {E : eE} {d bc bs : Nat} {h : aH} {K : Int32 → aH → Prop} {o : Nat} {c : Int32} (S : SH h) (hd : 1 ≤ d) (hc : okC (hI h o 3) c) (k : K (sO (hI h o 3) c) h) : CI l E d bc bs mX9_secondOf [.inr (some (0, 9, o)), .inl c] h K := by
  obtain ⟨d, rfl⟩ : ∃ d', d = d' + 1 := ⟨d - 1, by omega⟩
  unfold okC at hc
  unfold sO at k
  refine bX9_secondOf_0 S (k_isSplit S ⟨S, fun z => ?_, fun z => ?_⟩)
  · by_cases g : hI h o 3 = -1
    · rw [if_pos g] at k; exact k
    · rw [if_neg g] at z; exact absurd z (by decide)
  · by_cases g : hI h o 3 = -1
    · rw [if_pos g] at z; exact absurd rfl z
    · rw [if_neg g] at k hc
      exact ⟨vp_of hc.1 hc.2, k⟩
/-- what the class has chosen is what the reference has planned -/
theorem ChOf.ok {chair c i j : Int32} (ch : ChOf chair c i j) : (c = -1 ↔ i = -1) ∧ (c = -1 → j = -1) ∧ (¬ c = -1 → okC chair c ∧ fO chair c = i ∧ sO chair c = j) := by
  unfold okC fO sO
  have nn : ∀ n : Nat, n < 100 → ¬ nI n = -1 := fun n hn e => by
    have := congrArg Int32.toInt e
    rw [nI_toInt (by omega), ti_m1] at this
    omega
  rcases ch with ⟨rfl, rfl, rfl⟩ | ⟨e, rfl, rfl, n, hn, rfl⟩ | ⟨e, n, hn, rfl, rfl, rfl⟩
  · exact ⟨Iff.rfl, fun _ => rfl, fun z => absurd rfl z⟩
  · refine ⟨Iff.rfl, fun _ => rfl, fun _ => ?_⟩
    rw [if_pos e, if_pos e, if_pos e, nI_toInt (by omega)]
    exact ⟨by omega, rfl, rfl⟩
  · have t1 : ∀ n, n < 15 → ¬ tb1.getD n 0 = -1 := by decide
    refine ⟨⟨fun z => absurd z (nn n (by omega)), fun z => absurd z (t1 n hn)⟩, fun z => absurd z (nn n (by omega)), fun _ => ?_⟩
    rw [if_neg e, if_neg e, if_neg e, nI_toInt (by omega), nI_clamp (by omega)]
    exact ⟨by omega, rfl, rfl⟩
/-- the first slot of option i in week w -/
def rAt (h : aH) (s i w : Nat) : Int32 := nI 336 * nI w + hA h 78 (6 * s + i)
theorem k_startOf {l : Launch} {E : eE} {d bc bs : Nat} {h : aH} {K : Int32 → aH → Prop} {s o i w : Nat} (S : SH h) (hl : SeAt h s o) (hi : (i : Int) < (hA h 77 s).toInt) (h6 : (hA h 77 s).toInt ≤ 6) (k : K (rAt h s i w) h) : CI l E d bc bs mX9_startOf [.inr (some (0, 9, o)), .inl (nI i), .inl (nI w)] h K := by
  refine bX9_startOf_0 S ⟨fun c => ⟨o + 1, hl.1.1.2.2.2.2.2.2.1, vp_in_nI (by omega) (by omega), ?_⟩, fun c => ?_⟩
  · rw [nI_clamp (by omega), hl.1.2.1 i hi, Int32.mul_comm]
    exact k
  · have := congrArg Int32.toInt c
    rw [nI_toInt (by omega), ti_m1] at this
    omega
theorem k_startNo {l : Launch} {E : eE} {d bc bs : Nat} {h : aH} {K : Int32 → aH → Prop} {o : Nat} {x : Int32} (S : SH h) (k : K (-1) h) : CI l E d bc bs mX9_startOf [.inr (some (0, 9, o)), .inl (-1), .inl x] h K :=
  bX9_startOf_0 S ⟨fun c => absurd rfl c, fun _ => k⟩
/-- what is planned -/
abbrev plI (h : aH) (s w : Nat) : Int32 := hA h 80 (104 * s + 2 * w)
abbrev plJ (h : aH) (s w : Nat) : Int32 := hA h 80 (104 * s + 2 * w + 1)
/-- a planned one, in the words of numbers -/
theorem RPl.at {h : aH} (S : RI h) {s w : Nat} (hs : s < 4) (hw : w < 52) : (plI h s w = -1 ∧ plJ h s w = -1) ∨ ((s : Int) < (hI h 63 14).toInt ∧ ∃ i : Nat, plI h s w = nI i ∧ (i : Int) < (hA h 77 s).toInt ∧ 336 * (w : Int) + (hA h 78 (6 * s + i)).toInt + (hA h 74 s).toInt ≤ 17472 ∧ ((hA h 76 s = -1 ∧ plJ h s w = -1) ∨ (¬ hA h 76 s = -1 ∧ ∃ j : Nat, i < j ∧ (j : Int) < (hA h 77 s).toInt ∧ plJ h s w = nI j ∧ 336 * (w : Int) + (hA h 78 (6 * s + j)).toInt + (hA h 74 s).toInt ≤ 17472))) := by
  have := S.2.2.2.2.2.2.2.2 s w hs hw
  unfold RPl at this
  rw [show 2 * (52 * s + w) = 104 * s + 2 * w by omega] at this
  exact this
/-! ===== planned ===== -/
theorem nI_m1 {n : Nat} (hn : n < 2 ^ 31) : ¬ nI n = -1 := fun e => by
  have := congrArg Int32.toInt e
  rw [nI_toInt hn, ti_m1] at this
  omega
def rPlnV (h : aH) (x1 x2 x3 : Int32) : Int32 :=
  if inI x1 (hI h 63 14) ∧ (0 ≤ x2.toInt ∧ x2.toInt < 52) ∧ ¬ plI h x1.toNatClampNeg x2.toNatClampNeg = -1 then
    (if x3 = nI 0 then plI h x1.toNatClampNeg x2.toNatClampNeg else if x3 = nI 1 then plJ h x1.toNatClampNeg x2.toNatClampNeg
     else if x3 = nI 2 then rAt h x1.toNatClampNeg (plI h x1.toNatClampNeg x2.toNatClampNeg).toNatClampNeg x2.toNatClampNeg
     else if x3 = nI 3 then (if plJ h x1.toNatClampNeg x2.toNatClampNeg = -1 then -1 else rAt h x1.toNatClampNeg (plJ h x1.toNatClampNeg x2.toNatClampNeg).toNatClampNeg x2.toNatClampNeg) else -1)
  else -1
theorem c_planned {l : Launch} {E : eE} {d bc bs : Nat} {h : aH} {K : Int32 → aH → Prop} {x1 x2 x3 : Int32} (S : SR h) (hd : 1 ≤ d) (k : K (rPlnV h x1 x2 x3) h) : CI l E d bc bs mX12_planned [.inr (some (0, 12, 63)), .inl x1, .inl x2, .inl x3] h K := by
  obtain ⟨d, rfl⟩ : ∃ d', d = d' + 1 := ⟨d - 1, by omega⟩
  have hN := S.2.1
  unfold RIn at hN
  unfold rPlnV at k
  refine bX12_planned_0 S.1 ⟨fun c => ?_, fun c => ⟨fun c1 => ?_, fun c1 => ?_⟩⟩
  · rw [if_neg (fun q => c q.1)] at k; exact k
  · rw [if_neg (fun q => c1 q.2.1)] at k; exact k
  · have e1 := i32_clamp c.1
    have e2 := i32_clamp c1.1
    have n1 := i32_nn c.1
    have n2 := i32_nn c1.1
    have h3 := c.2
    generalize x1.toNatClampNeg = s at *
    generalize x2.toNatClampNeg = w at *
    have pp := RPl.at S.2 (s := s) (w := w) (by omega) (by omega)
    have hse := S.2.2.2.2.2.2.1 s (by omega)
    have m52 : (nI 52 * x1).toInt = 52 * x1.toInt := by rw [i_mul (by rw [ti_52]; omega) (by rw [ti_52]; omega), ti_52]
    have a52 : (nI 52 * x1 + x2).toInt = 52 * x1.toInt + x2.toInt := by rw [i_add (by omega) (by omega), m52]
    have m2 : (nI 2 * (nI 52 * x1 + x2)).toInt = 2 * (52 * x1.toInt + x2.toInt) := by rw [i_mul (by rw [ti_2]; omega) (by rw [ti_2]; omega), ti_2, a52]
    have c2 := i32_clamp (x := nI 2 * (nI 52 * x1 + x2)) (by omega)
    have cc : (nI 2 * (nI 52 * x1 + x2)).toNatClampNeg = 104 * s + 2 * w := by omega
    have lo : x3 < 0 ∨ ¬ x3 ≤ nI 3 → K (-1) h := fun z => by
      have q : x3.toInt < 0 ∨ 3 < x3.toInt := by simp only [Int32.lt_iff_toInt_lt, Int32.le_iff_toInt_le, ti_z, ti_m1, ti_m24, ti_0, ti_1, ti_2, ti_3, ti_4, ti_5, ti_6, ti_7, ti_8, ti_11, ti_12, ti_15, ti_24, ti_28, ti_31, ti_47, ti_48, ti_52, ti_90, ti_100, ti_127, ti_336, ti_363, ti_364, ti_400, ti_416, ti_576, ti_17471, ti_17472] at z; omega
      by_cases g : plI h s w = -1
      · rw [if_neg (fun y => y.2.2 g)] at k; exact k
      · rw [if_pos ⟨c, c1, g⟩, if_neg (i32_ne (by decide) (by omega)), if_neg (i32_ne (by decide) (by omega)), if_neg (i32_ne (by decide) (by omega)), if_neg (i32_ne (by decide) (by omega))] at k; exact k
    have sl : ∀ j : Nat, (j : Int) < (hA h 77 s).toInt → vp_in (nI 6 * x1 + nI j) 24 ∧ nI 336 * x2 + hA h 78 (nI 6 * x1 + nI j).toNatClampNeg = rAt h s j w := fun j hj => by
      have := hse.2.2.2.1
      have m6 : (nI 6 * x1).toInt = 6 * x1.toInt := by rw [i_mul (by rw [ti_6]; omega) (by rw [ti_6]; omega), ti_6]
      have ej : (nI j).toInt = j := nI_toInt (by omega)
      have a6 : (nI 6 * x1 + nI j).toInt = 6 * x1.toInt + j := by rw [i_add (by omega) (by omega), m6, ej]
      have c6 := i32_clamp (x := nI 6 * x1 + nI j) (by omega)
      refine ⟨vp_of (by omega) (by omega), ?_⟩
      unfold rAt
      rw [show (nI 6 * x1 + nI j).toNatClampNeg = 6 * s + j by omega, n2]
    -- the four questions
    have go : ∀ (q : Nat) (v : Int32), q < 4 → x3 = nI q → x3 - x3 / nI 2 * nI 2 = nI (q % 2) → v = hA h 80 (104 * s + 2 * w + q % 2) → (plI h s w = -1 → K v h) → (¬ plI h s w = -1 → v = -1 → K v h) → (¬ plI h s w = -1 → ¬ v = -1 → 2 ≤ q → ∀ j : Nat, v = nI j → (j : Int) < (hA h 77 s).toInt → K (rAt h s j w) h) → (¬ plI h s w = -1 → ¬ v = -1 → q < 2 → K v h) → (¬ plI h s w = -1 → ¬ v = -1 → ∃ j : Nat, v = nI j ∧ (j : Int) < (hA h 77 s).toInt) →
        (vp_in (nI 2 * (nI 52 * x1 + x2) + (x3 - x3 / nI 2 * nI 2)) 416 ∧ (vp_in (nI 2 * (nI 52 * x1 + x2)) 416 ∧ ((hA h 80 (nI 2 * (nI 52 * x1 + x2)).toNatClampNeg = (-1) → K (hA h 80 (nI 2 * (nI 52 * x1 + x2) + (x3 - x3 / nI 2 * nI 2)).toNatClampNeg) h) ∧ (¬ hA h 80 (nI 2 * (nI 52 * x1 + x2)).toNatClampNeg = (-1) → ((hA h 80 (nI 2 * (nI 52 * x1 + x2) + (x3 - x3 / nI 2 * nI 2)).toNatClampNeg = (-1) → K (hA h 80 (nI 2 * (nI 52 * x1 + x2) + (x3 - x3 / nI 2 * nI 2)).toNatClampNeg) h) ∧ (¬ hA h 80 (nI 2 * (nI 52 * x1 + x2) + (x3 - x3 / nI 2 * nI 2)).toNatClampNeg = (-1) → ((nI 2 ≤ x3 → (vp_in (nI 6 * x1 + hA h 80 (nI 2 * (nI 52 * x1 + x2) + (x3 - x3 / nI 2 * nI 2)).toNatClampNeg) 24 ∧ K (nI 336 * x2 + hA h 78 (nI 6 * x1 + hA h 80 (nI 2 * (nI 52 * x1 + x2) + (x3 - x3 / nI 2 * nI 2)).toNatClampNeg).toNatClampNeg) h)) ∧ (¬ nI 2 ≤ x3 → K (hA h 80 (nI 2 * (nI 52 * x1 + x2) + (x3 - x3 / nI 2 * nI 2)).toNatClampNeg) h)))))))) := by
      intro q v hq e3 em hv k1 k2 k3 k4 k5
      rw [em]
      have eq2 : (nI (q % 2)).toInt = (q % 2 : Nat) := nI_toInt (by omega)
      have a2 : (nI 2 * (nI 52 * x1 + x2) + nI (q % 2)).toInt = 2 * (52 * x1.toInt + x2.toInt) + (q % 2 : Nat) := by rw [i_add (by omega) (by omega), m2, eq2]
      have c3 := i32_clamp (x := nI 2 * (nI 52 * x1 + x2) + nI (q % 2)) (by omega)
      rw [show (nI 2 * (nI 52 * x1 + x2) + nI (q % 2)).toNatClampNeg = 104 * s + 2 * w + q % 2 by omega, cc, ← hv]
      refine ⟨vp_of (by omega) (by omega), vp_of (by omega) (by omega), k1, fun z => ⟨k2 z, fun y => ⟨fun x => ?_, fun x => k4 z y ?_⟩⟩⟩
      · obtain ⟨j, ej, hj⟩ := k5 z y
        rw [ej]
        obtain ⟨s1, s2⟩ := sl j hj
        refine ⟨s1, ?_⟩
        rw [s2]
        rw [e3, Int32.le_iff_toInt_le, ti_2, nI_toInt (by omega)] at x
        exact k3 z y (by omega) j ej hj
      · rw [e3, Int32.le_iff_toInt_le, ti_2, nI_toInt (by omega)] at x
        omega
    refine ⟨fun z => lo (Or.inl z), fun z => ⟨fun y => ?_, fun y => lo (Or.inr y)⟩⟩
    simp only [Int32.lt_iff_toInt_lt, Int32.le_iff_toInt_le, ti_z, ti_m1, ti_m24, ti_0, ti_1, ti_2, ti_3, ti_4, ti_5, ti_6, ti_7, ti_8, ti_11, ti_12, ti_15, ti_24, ti_28, ti_31, ti_47, ti_48, ti_52, ti_90, ti_100, ti_127, ti_336, ti_363, ti_364, ti_400, ti_416, ti_576, ti_17471, ti_17472] at z y
    have e3 := i32_nn (x := x3) (by omega)
    have e3c := i32_clamp (x := x3) (by omega)
    have h4 : x3.toNatClampNeg < 4 := by omega
    generalize x3.toNatClampNeg = q at *
    have md : ∀ q, q < 4 → nI q - nI q / nI 2 * nI 2 = nI (q % 2) := by decide
    refine go q (hA h 80 (104 * s + 2 * w + q % 2)) h4 e3 (by rw [e3]; exact md q h4) rfl (fun y => ?_) (fun y1 y2 => ?_) (fun y1 y2 y3 j ej hj => ?_) (fun y1 y2 y3 => ?_) (fun y1 y2 => ?_)
    · rw [if_neg (fun u => u.2.2 y)] at k
      rcases pp with p | ⟨p0, i, p1, p2⟩
      · rcases (show q % 2 = 0 ∨ q % 2 = 1 by omega) with r | r
        · rw [r]; rw [show hA h 80 (104 * s + 2 * w + 0) = -1 from p.1]; exact k
        · rw [r]; rw [show hA h 80 (104 * s + 2 * w + 1) = -1 from p.2]; exact k
      · exfalso
        have := hse.2.2.2.1
        rw [p1] at y
        exact nI_m1 (by omega) y
    · rw [if_pos ⟨c, c1, y1⟩] at k
      rw [y2]
      rcases (show q = 0 ∨ q = 1 ∨ q = 2 ∨ q = 3 by omega) with rfl | rfl | rfl | rfl
      · exact absurd y2 y1
      · rw [if_neg (by rw [e3]; decide), if_pos e3, show plJ h s w = -1 from y2] at k; exact k
      · exact absurd y2 y1
      · rw [if_neg (by rw [e3]; decide), if_neg (by rw [e3]; decide), if_neg (by rw [e3]; decide), if_pos e3, if_pos (show plJ h s w = -1 from y2)] at k; exact k
    · rw [if_pos ⟨c, c1, y1⟩] at k
      have := hse.2.2.2.1
      rcases (show q = 2 ∨ q = 3 by omega) with rfl | rfl
      · rw [if_neg (by rw [e3]; decide), if_neg (by rw [e3]; decide), if_pos e3, show plI h s w = nI j from ej, nI_clamp (by omega)] at k; exact k
      · rw [if_neg (by rw [e3]; decide), if_neg (by rw [e3]; decide), if_neg (by rw [e3]; decide), if_pos e3, if_neg (show ¬ plJ h s w = -1 from y2), show plJ h s w = nI j from ej, nI_clamp (by omega)] at k; exact k
    · rw [if_pos ⟨c, c1, y1⟩] at k
      rcases (show q = 0 ∨ q = 1 by omega) with rfl | rfl
      · rw [if_pos e3] at k; exact k
      · rw [if_neg (by rw [e3]; decide), if_pos e3] at k; exact k
    · rcases pp with p | ⟨p0, i, p1, p2, p3, p4⟩
      · exact absurd p.1 y1
      · rcases (show q % 2 = 0 ∨ q % 2 = 1 by omega) with r | r
        · rw [r]; exact ⟨i, p1, p2⟩
        · rw [r] at y2 ⊢
          rcases p4 with p4 | ⟨-, j, -, p5, p6, -⟩
          · exact absurd p4.2 y2
          · exact ⟨j, p6, p5⟩
theorem k_planned {l : Launch} {E : eE} {d bc bs : Nat} {h : aH} {K : Int32 → aH → Prop} {x1 x2 x3 : Int32} (V : LV h) (hd : 2 ≤ d) (k : K (rPlnV h x1 x2 x3) h) : CI l E d bc bs mX11_planned [.inr (some (0, 11, 0)), .inl x1, .inl x2, .inl x3] h K := by
  obtain ⟨d, rfl⟩ : ∃ d', d = d' + 1 := ⟨d - 1, by omega⟩
  have S := V.sk
  have R := V.1.1
  have hN := S.n
  unfold RIn at hN
  unfold rPlnV at k
  refine bX11_planned_0 R (k_seriesAt S V.2.1.2.1 (fun c => ⟨R, fun _ => ?_, fun _ e => by cases e⟩) (fun s o e hs hl => ⟨R, fun e => (by cases e), fun _ _ => k_isWeek R ⟨R, fun c1 => ?_, fun c1 => ⟨o, rfl, o + 3, hl.1.1.2.2.2.2.2.2.2.2, vp_of (bI1.mp c1).1 (bI1.mp c1).2, ?_⟩⟩⟩))
  · rw [if_neg (fun q => c q.1)] at k; exact k
  · rw [bI0] at c1
    rw [if_neg (fun q => c1 q.2.1)] at k; exact k
  · rw [bI1] at c1
    have hs1 : inI x1 (hI h 63 14) := by rw [e]; exact ⟨by rw [nI_toInt (by omega)]; omega, by rw [nI_toInt (by omega)]; exact hs⟩
    rw [show x1.toNatClampNeg = s by rw [e, nI_clamp (by omega)]] at k
    have e2 := i32_clamp c1.1
    have n2 := i32_nn c1.1
    have hw : x2.toNatClampNeg < 52 := by omega
    generalize x2.toNatClampNeg = w at *
    obtain ⟨g1, g2, g3⟩ := (hl.1.2.2.2.1 w hw).ok
    have hse := V.1.2.2.2.2.2.2.1 s hs
    have h77 := hse.2.2.2.1
    have pp := RPl.at V.1.2 (s := s) (w := w) (by omega) hw
    have f5 := hl.1.1.2.2.2.2.1
    refine ⟨fun z => ?_, fun z => ?_⟩
    · obtain ⟨o1, o2, o3⟩ := g3 z
      have y1 : ¬ plI h s w = -1 := fun y => z (g1.mpr y)
      rw [if_pos ⟨hs1, c1, y1⟩] at k
      rcases pp with p | ⟨p0, i, p1, p2, p3, p4⟩
      · exact absurd p.1 y1
      refine k_firstOf R (by omega) (by rw [f5]; exact o1) ⟨R, o + 3, hl.1.1.2.2.2.2.2.2.2.2, k_secondOf R (by omega) (by rw [f5]; exact o1) ⟨R, ?_⟩⟩
      rw [f5, o2, o3]
      refine ⟨fun q => ?_, fun q => ?_, fun q => ?_, fun q => ?_, fun q => ?_⟩
      · rw [if_pos q] at k; exact k
      · rw [if_neg (by rw [q]; decide), if_pos q] at k; exact k
      · rw [if_neg (by rw [q]; decide), if_neg (by rw [q]; decide), if_pos q, p1, nI_clamp (by omega)] at k
        rw [show hA h 80 (104 * s + 2 * w) = nI i from p1, n2]
        exact k_startOf R hl p2 (by omega) ⟨R, k⟩
      · rw [if_neg (by rw [q]; decide), if_neg (by rw [q]; decide), if_neg (by rw [q]; decide), if_pos q] at k
        rcases p4 with p4 | ⟨-, j, -, p5, p6, -⟩
        · rw [if_pos p4.2] at k
          rw [show hA h 80 (104 * s + 2 * w + 1) = -1 from p4.2]
          exact k_startNo R ⟨R, k⟩
        · rw [p6, if_neg (nI_m1 (by omega)), nI_clamp (by omega)] at k
          rw [show hA h 80 (104 * s + 2 * w + 1) = nI j from p6, n2]
          exact k_startOf R hl p5 (by omega) ⟨R, k⟩
      · rw [if_neg (i32_ne (by decide) (by omega)), if_neg (i32_ne (by decide) (by omega)), if_neg (i32_ne (by decide) (by omega)), if_neg (i32_ne (by decide) (by omega))] at k; exact k
    · rw [if_neg (fun y => y.2.2 (g1.mp z))] at k; exact k
