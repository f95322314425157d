/-! ===== the law: its cases, its loop ===== -/
theorem q_land {l : Launch} {E : eE} {d bc bs : Nat} {h : aH} {Q : Int32 → aH → Prop} {x3 : Int32} (V : LV h) (hd : 20 ≤ d) (hb : ∀ j, j ≤ 5 → vp_in (x3 + nI j) (exL E 0)) (k : ∀ h1, LV h1 → LL_law_1209 l E (d + 1) bc bs x3 h1 Q) : LL_law_148 l E (d + 1) (bc + 4) (bs + 73) x3 h Q :=
  bL_law_148 V.1.1 ⟨hb 1 (by decide), (e_land V hd).use (fun _ h2 q => ⟨q.1, q.2.use (fun _ h3 r => ⟨r.1, fun _ => k h3 r.2.2, fun c => absurd r.2.1 c⟩)⟩)⟩
theorem q_person {l : Launch} {E : eE} {d bc bs : Nat} {h : aH} {Q : Int32 → aH → Prop} {x3 : Int32} (V : LV h) (hd : 20 ≤ d) (hb : ∀ j, j ≤ 5 → vp_in (x3 + nI j) (exL E 0)) (k : ∀ h1, LV h1 → LL_law_1209 l E (d + 1) bc bs x3 h1 Q) : LL_law_171 l E (d + 1) (bc + 4) (bs + 73) x3 h Q :=
  bL_law_171 V.1.1 ⟨hb 1 (by decide), hb 2 (by decide), (e_person V hd).use (fun _ h2 q => ⟨q.1, q.2.use (fun _ h3 r => ⟨r.1, fun _ => k h3 r.2.2, fun c => absurd r.2.1 c⟩)⟩)⟩
theorem q_row {l : Launch} {E : eE} {d bc bs : Nat} {h : aH} {Q : Int32 → aH → Prop} {x3 : Int32} (V : LV h) (hd : 20 ≤ d) (hb : ∀ j, j ≤ 5 → vp_in (x3 + nI j) (exL E 0)) (k : ∀ h1, LV h1 → LL_law_1209 l E (d + 1) bc bs x3 h1 Q) : LL_law_204 l E (d + 1) (bc + 4) (bs + 73) x3 h Q :=
  bL_law_204 V.1.1 ⟨hb 1 (by decide), hb 2 (by decide), (e_row V hd).use (fun _ h2 q => ⟨q.1, q.2.use (fun _ h3 r => ⟨r.1, fun _ => k h3 r.2.2, fun c => absurd r.2.1 c⟩)⟩)⟩
theorem q_cell {l : Launch} {E : eE} {d bc bs : Nat} {h : aH} {Q : Int32 → aH → Prop} {x3 : Int32} (V : LV h) (hd : 20 ≤ d) (hb : ∀ j, j ≤ 5 → vp_in (x3 + nI j) (exL E 0)) (k : ∀ h1, LV h1 → LL_law_1209 l E (d + 1) bc bs x3 h1 Q) : LL_law_237 l E (d + 1) (bc + 4) (bs + 73) x3 h Q :=
  bL_law_237 V.1.1 ⟨hb 1 (by decide), hb 2 (by decide), hb 3 (by decide), (e_cell V hd).use (fun _ h2 q => ⟨q.1, q.2.use (fun _ h3 r => ⟨r.1, fun _ => k h3 r.2.2, fun c => absurd r.2.1 c⟩)⟩)⟩
theorem q_change {l : Launch} {E : eE} {d bc bs : Nat} {h : aH} {Q : Int32 → aH → Prop} {x3 : Int32} (V : LV h) (hd : 20 ≤ d) (hb : ∀ j, j ≤ 5 → vp_in (x3 + nI j) (exL E 0)) (k : ∀ h1, LV h1 → LL_law_1209 l E (d + 1) bc bs x3 h1 Q) : LL_law_280 l E (d + 1) (bc + 4) (bs + 73) x3 h Q :=
  bL_law_280 V.1.1 ⟨hb 1 (by decide), hb 2 (by decide), hb 3 (by decide), (e_change V hd).use (fun _ h2 q => ⟨q.1, q.2.use (fun _ h3 r => ⟨r.1, fun _ => k h3 r.2.2, fun c => absurd r.2.1 c⟩)⟩)⟩
theorem q_feast {l : Launch} {E : eE} {d bc bs : Nat} {h : aH} {Q : Int32 → aH → Prop} {x3 : Int32} (V : LV h) (hd : 20 ≤ d) (hb : ∀ j, j ≤ 5 → vp_in (x3 + nI j) (exL E 0)) (k : ∀ h1, LV h1 → LL_law_1209 l E (d + 1) bc bs x3 h1 Q) : LL_law_323 l E (d + 1) (bc + 4) (bs + 73) x3 h Q :=
  bL_law_323 V.1.1 ⟨hb 1 (by decide), hb 2 (by decide), (e_feast V hd).use (fun _ h2 q => ⟨q.1, q.2.use (fun _ h3 r => ⟨r.1, fun _ => k h3 r.2.2, fun c => absurd r.2.1 c⟩)⟩)⟩
theorem q_busy {l : Launch} {E : eE} {d bc bs : Nat} {h : aH} {Q : Int32 → aH → Prop} {x3 : Int32} (V : LV h) (hd : 20 ≤ d) (hb : ∀ j, j ≤ 5 → vp_in (x3 + nI j) (exL E 0)) (k : ∀ h1, LV h1 → LL_law_1209 l E (d + 1) bc bs x3 h1 Q) : LL_law_356 l E (d + 1) (bc + 4) (bs + 73) x3 h Q :=
  bL_law_356 V.1.1 ⟨hb 1 (by decide), hb 2 (by decide), hb 3 (by decide), hb 4 (by decide), fun c0 => (e_busy V (Or.inl rfl) hd).use (fun _ h2 q => ⟨q.1, fun _ => q.2.use (fun _ h3 r => ⟨r.1, fun _ => k h3 r.2.2, fun c => absurd r.2.1 c⟩), fun c => absurd c0 c⟩), fun c0 => (e_busy V (Or.inr rfl) hd).use (fun _ h2 q => ⟨q.1, fun c => absurd c c0, fun _ => q.2.use (fun _ h3 r => ⟨r.1, fun _ => k h3 r.2.2, fun c => absurd r.2.1 c⟩)⟩)⟩
theorem q_cant {l : Launch} {E : eE} {d bc bs : Nat} {h : aH} {Q : Int32 → aH → Prop} {x3 : Int32} (V : LV h) (hd : 20 ≤ d) (hb : ∀ j, j ≤ 5 → vp_in (x3 + nI j) (exL E 0)) (k : ∀ h1, LV h1 → LL_law_1209 l E (d + 1) bc bs x3 h1 Q) : LL_law_425 l E (d + 1) (bc + 4) (bs + 73) x3 h Q :=
  bL_law_425 V.1.1 ⟨hb 1 (by decide), hb 2 (by decide), hb 3 (by decide), (e_cant V hd).use (fun _ h2 q => ⟨q.1, q.2.use (fun _ h3 r => ⟨r.1, fun _ => k h3 r.2.2, fun c => absurd r.2.1 c⟩)⟩)⟩
theorem q_series {l : Launch} {E : eE} {d bc bs : Nat} {h : aH} {Q : Int32 → aH → Prop} {x3 : Int32} (V : LV h) (hd : 20 ≤ d) (hb : ∀ j, j ≤ 5 → vp_in (x3 + nI j) (exL E 0)) (k : ∀ h1, LV h1 → LL_law_1209 l E (d + 1) bc bs x3 h1 Q) : LL_law_468 l E (d + 1) (bc + 4) (bs + 73) x3 h Q :=
  bL_law_468 V.1.1 ⟨hb 1 (by decide), hb 2 (by decide), hb 3 (by decide), (e_series V hd).use (fun _ h2 q => ⟨q.1, q.2.use (fun _ h3 r => ⟨r.1, fun _ => k h3 r.2.2, fun c => absurd r.2.1 c⟩)⟩)⟩
theorem q_option {l : Launch} {E : eE} {d bc bs : Nat} {h : aH} {Q : Int32 → aH → Prop} {x3 : Int32} (V : LV h) (hd : 20 ≤ d) (hb : ∀ j, j ≤ 5 → vp_in (x3 + nI j) (exL E 0)) (k : ∀ h1, LV h1 → LL_law_1209 l E (d + 1) bc bs x3 h1 Q) : LL_law_511 l E (d + 1) (bc + 4) (bs + 73) x3 h Q :=
  bL_law_511 V.1.1 ⟨hb 1 (by decide), hb 2 (by decide), (e_option V hd).use (fun _ h2 q => ⟨q.1, q.2.use (fun _ h3 r => ⟨r.1, fun _ => k h3 r.2.2, fun c => absurd r.2.1 c⟩)⟩)⟩
theorem q_role {l : Launch} {E : eE} {d bc bs : Nat} {h : aH} {Q : Int32 → aH → Prop} {x3 : Int32} (V : LV h) (hd : 20 ≤ d) (hb : ∀ j, j ≤ 5 → vp_in (x3 + nI j) (exL E 0)) (k : ∀ h1, LV h1 → LL_law_1209 l E (d + 1) bc bs x3 h1 Q) : LL_law_544 l E (d + 1) (bc + 4) (bs + 73) x3 h Q :=
  bL_law_544 V.1.1 ⟨hb 1 (by decide), hb 2 (by decide), hb 3 (by decide), (e_role V hd).use (fun _ h2 q => ⟨q.1, q.2.use (fun _ h3 r => ⟨r.1, fun _ => k h3 r.2.2, fun c => absurd r.2.1 c⟩)⟩)⟩
theorem q_local {l : Launch} {E : eE} {d bc bs : Nat} {h : aH} {Q : Int32 → aH → Prop} {x3 : Int32} (V : LV h) (hd : 20 ≤ d) (hb : ∀ j, j ≤ 5 → vp_in (x3 + nI j) (exL E 0)) (k : ∀ h1, LV h1 → LL_law_1209 l E (d + 1) bc bs x3 h1 Q) : LL_law_587 l E (d + 1) (bc + 4) (bs + 73) x3 h Q :=
  bL_law_587 V.1.1 ⟨hb 1 (by decide), hb 2 (by decide), hb 3 (by decide), hb 4 (by decide), (e_local V hd).use (fun _ h2 q => ⟨q.1, q.2.use (fun _ h3 r => ⟨r.1, fun _ => k h3 r.2.2, fun c => absurd r.2.1 c⟩)⟩)⟩
theorem q_when {l : Launch} {E : eE} {d bc bs : Nat} {h : aH} {Q : Int32 → aH → Prop} {x3 : Int32} (V : LV h) (hd : 20 ≤ d) (hb : ∀ j, j ≤ 5 → vp_in (x3 + nI j) (exL E 0)) (k : ∀ h1, LV h1 → LL_law_1209 l E (d + 1) bc bs x3 h1 Q) : LL_law_640 l E (d + 1) (bc + 4) (bs + 73) x3 h Q :=
  bL_law_640 V.1.1 ⟨hb 1 (by decide), hb 2 (by decide), hb 3 (by decide), hb 4 (by decide), hb 5 (by decide), (e_when V hd).use (fun _ h2 q => ⟨q.1, q.2.use (fun _ h3 r => ⟨r.1, fun _ => k h3 r.2.2, fun c => absurd r.2.1 c⟩)⟩)⟩
theorem q_can {l : Launch} {E : eE} {d bc bs : Nat} {h : aH} {Q : Int32 → aH → Prop} {x3 : Int32} (V : LV h) (hd : 20 ≤ d) (hb : ∀ j, j ≤ 5 → vp_in (x3 + nI j) (exL E 0)) (k : ∀ h1, LV h1 → LL_law_1209 l E (d + 1) bc bs x3 h1 Q) : LL_law_703 l E (d + 1) (bc + 4) (bs + 73) x3 h Q :=
  bL_law_703 V.1.1 ⟨hb 1 (by decide), hb 2 (by decide), hb 3 (by decide), hb 4 (by decide), (e_can V hd).use (fun _ h2 q => ⟨q.1, q.2.use (fun _ h3 r => ⟨r.1, fun _ => k h3 r.2.2, fun c => absurd r.2.1 c⟩)⟩)⟩
theorem q_cost {l : Launch} {E : eE} {d bc bs : Nat} {h : aH} {Q : Int32 → aH → Prop} {x3 : Int32} (V : LV h) (hd : 20 ≤ d) (hb : ∀ j, j ≤ 5 → vp_in (x3 + nI j) (exL E 0)) (k : ∀ h1, LV h1 → LL_law_1209 l E (d + 1) bc bs x3 h1 Q) : LL_law_756 l E (d + 1) (bc + 4) (bs + 73) x3 h Q :=
  bL_law_756 V.1.1 ⟨hb 1 (by decide), hb 2 (by decide), hb 3 (by decide), hb 4 (by decide), (e_cost V hd).use (fun _ h2 q => ⟨q.1, q.2.use (fun _ h3 r => ⟨r.1, fun _ => k h3 r.2.2, fun c => absurd r.2.1 c⟩)⟩)⟩
theorem q_span {l : Launch} {E : eE} {d bc bs : Nat} {h : aH} {Q : Int32 → aH → Prop} {x3 : Int32} (V : LV h) (hd : 20 ≤ d) (hb : ∀ j, j ≤ 5 → vp_in (x3 + nI j) (exL E 0)) (k : ∀ h1, LV h1 → LL_law_1209 l E (d + 1) bc bs x3 h1 Q) : LL_law_809 l E (d + 1) (bc + 4) (bs + 73) x3 h Q :=
  bL_law_809 V.1.1 ⟨hb 1 (by decide), hb 2 (by decide), hb 3 (by decide), (e_span V hd).use (fun _ h2 q => ⟨q.1, q.2.use (fun _ h3 r => ⟨r.1, fun _ => k h3 r.2.2, fun c => absurd r.2.1 c⟩)⟩)⟩
theorem q_fits {l : Launch} {E : eE} {d bc bs : Nat} {h : aH} {Q : Int32 → aH → Prop} {x3 : Int32} (V : LV h) (hd : 20 ≤ d) (hb : ∀ j, j ≤ 5 → vp_in (x3 + nI j) (exL E 0)) (k : ∀ h1, LV h1 → LL_law_1209 l E (d + 1) bc bs x3 h1 Q) : LL_law_852 l E (d + 1) (bc + 4) (bs + 73) x3 h Q :=
  bL_law_852 V.1.1 ⟨hb 1 (by decide), hb 2 (by decide), hb 3 (by decide), hb 4 (by decide), hb 5 (by decide), (e_fits V hd).use (fun _ h2 q => ⟨q.1, q.2.use (fun _ h3 r => ⟨r.1, fun _ => k h3 r.2.2, fun c => absurd r.2.1 c⟩)⟩)⟩
theorem q_plan {l : Launch} {E : eE} {d bc bs : Nat} {h : aH} {Q : Int32 → aH → Prop} {x3 : Int32} (V : LV h) (hd : 20 ≤ d) (hb : ∀ j, j ≤ 5 → vp_in (x3 + nI j) (exL E 0)) (k : ∀ h1, LV h1 → LL_law_1209 l E (d + 1) bc bs x3 h1 Q) : LL_law_915 l E (d + 1) (bc + 4) (bs + 73) x3 h Q :=
  bL_law_915 V.1.1 ⟨hb 1 (by decide), hb 2 (by decide), hb 3 (by decide), hb 4 (by decide), (e_plan V hd).use (fun _ h2 q => ⟨q.1, q.2.use (fun _ h3 r => ⟨r.1, fun _ => k h3 r.2.2, fun c => absurd r.2.1 c⟩)⟩)⟩
theorem q_stuck {l : Launch} {E : eE} {d bc bs : Nat} {h : aH} {Q : Int32 → aH → Prop} {x3 : Int32} (V : LV h) (hd : 20 ≤ d) (hb : ∀ j, j ≤ 5 → vp_in (x3 + nI j) (exL E 0)) (k : ∀ h1, LV h1 → LL_law_1209 l E (d + 1) bc bs x3 h1 Q) : LL_law_968 l E (d + 1) (bc + 4) (bs + 73) x3 h Q :=
  bL_law_968 V.1.1 ⟨hb 1 (by decide), (e_stuck V hd).use (fun _ h2 q => ⟨q.1, q.2.use (fun _ h3 r => ⟨r.1, fun _ => k h3 r.2.2, fun c => absurd r.2.1 c⟩)⟩)⟩
theorem q_move {l : Launch} {E : eE} {d bc bs : Nat} {h : aH} {Q : Int32 → aH → Prop} {x3 : Int32} (V : LV h) (hd : 20 ≤ d) (hb : ∀ j, j ≤ 5 → vp_in (x3 + nI j) (exL E 0)) (k : ∀ h1, LV h1 → LL_law_1209 l E (d + 1) bc bs x3 h1 Q) : LL_law_991 l E (d + 1) (bc + 4) (bs + 73) x3 h Q :=
  bL_law_991 V.1.1 ⟨hb 1 (by decide), hb 2 (by decide), (e_move V hd).use (fun _ h2 q => ⟨q.1, q.2.use (fun _ h3 r => ⟨r.1, fun _ => k h3 r.2.2, fun c => absurd r.2.1 c⟩)⟩)⟩
theorem q_planned {l : Launch} {E : eE} {d bc bs : Nat} {h : aH} {Q : Int32 → aH → Prop} {x3 : Int32} (V : LV h) (hd : 20 ≤ d) (hb : ∀ j, j ≤ 5 → vp_in (x3 + nI j) (exL E 0)) (k : ∀ h1, LV h1 → LL_law_1209 l E (d + 1) bc bs x3 h1 Q) : LL_law_1024 l E (d + 1) (bc + 4) (bs + 73) x3 h Q :=
  bL_law_1024 V.1.1 ⟨hb 1 (by decide), hb 2 (by decide), hb 3 (by decide), (e_planned V hd).use (fun _ h2 q => ⟨q.1, q.2.use (fun _ h3 r => ⟨r.1, fun _ => k h3 r.2.2, fun c => absurd r.2.1 c⟩)⟩)⟩
theorem q_comes {l : Launch} {E : eE} {d bc bs : Nat} {h : aH} {Q : Int32 → aH → Prop} {x3 : Int32} (V : LV h) (hd : 20 ≤ d) (hb : ∀ j, j ≤ 5 → vp_in (x3 + nI j) (exL E 0)) (k : ∀ h1, LV h1 → LL_law_1209 l E (d + 1) bc bs x3 h1 Q) : LL_law_1067 l E (d + 1) (bc + 4) (bs + 73) x3 h Q :=
  bL_law_1067 V.1.1 ⟨hb 1 (by decide), hb 2 (by decide), hb 3 (by decide), hb 4 (by decide), (e_comes V hd).use (fun _ h2 q => ⟨q.1, q.2.use (fun _ h3 r => ⟨r.1, fun _ => k h3 r.2.2, fun c => absurd r.2.1 c⟩)⟩)⟩
theorem q_sum {l : Launch} {E : eE} {d bc bs : Nat} {h : aH} {Q : Int32 → aH → Prop} {x3 : Int32} (V : LV h) (hd : 20 ≤ d) (hb : ∀ j, j ≤ 5 → vp_in (x3 + nI j) (exL E 0)) (k : ∀ h1, LV h1 → LL_law_1209 l E (d + 1) bc bs x3 h1 Q) : LL_law_1120 l E (d + 1) (bc + 4) (bs + 73) x3 h Q :=
  bL_law_1120 V.1.1 ⟨hb 1 (by decide), hb 2 (by decide), (e_sum V hd).use (fun _ h2 q => ⟨q.1, q.2.use (fun _ h3 r => ⟨r.1, fun _ => k h3 r.2.2, fun c => absurd r.2.1 c⟩)⟩)⟩
theorem q_shifted {l : Launch} {E : eE} {d bc bs : Nat} {h : aH} {Q : Int32 → aH → Prop} {x3 : Int32} (V : LV h) (hd : 20 ≤ d) (hb : ∀ j, j ≤ 5 → vp_in (x3 + nI j) (exL E 0)) (k : ∀ h1, LV h1 → LL_law_1209 l E (d + 1) bc bs x3 h1 Q) : LL_law_1153 l E (d + 1) (bc + 4) (bs + 73) x3 h Q :=
  bL_law_1153 V.1.1 ⟨hb 1 (by decide), hb 2 (by decide), (e_shifted V hd).use (fun _ h2 q => ⟨q.1, q.2.use (fun _ h3 r => ⟨r.1, fun _ => k h3 r.2.2, fun c => absurd r.2.1 c⟩)⟩)⟩
theorem q_count {l : Launch} {E : eE} {d bc bs : Nat} {h : aH} {Q : Int32 → aH → Prop} {x3 : Int32} (V : LV h) (hd : 20 ≤ d) (hb : ∀ j, j ≤ 5 → vp_in (x3 + nI j) (exL E 0)) (k : ∀ h1, LV h1 → LL_law_1209 l E (d + 1) bc bs x3 h1 Q) : LL_law_1186 l E (d + 1) (bc + 4) (bs + 73) x3 h Q :=
  bL_law_1186 V.1.1 ⟨hb 1 (by decide), (e_count V hd).use (fun _ h2 q => ⟨q.1, q.2.use (fun _ h3 r => ⟨r.1, fun _ => k h3 r.2.2, fun c => absurd r.2.1 c⟩)⟩)⟩
theorem law_loop {l : Launch} {E : eE} {d : Nat} {Q : Int32 → aH → Prop} (hE : eL E ≤ 3072) (hd : 20 ≤ d) (kQ : ∀ h, Q (nI 1) h) : ∀ (r i bc bs : Nat) (h : aH), LV h → i ≤ 3072 → eL E < i + 6 * r + 6 → 4 * r ≤ bc → 73 * r ≤ bs → LL_law_18 l E (d + 1) bc bs (nI i) h Q := by
  have eX0 : exL E 0 = eL E := rfl
  intro r
  induction r with
  | zero =>
    intro i bc bs h V hi hr _ _
    refine bL_law_18 V.1.1 ⟨fun _ => kQ h, fun c => absurd ?_ c⟩
    rw [Int32.lt_iff_toInt_lt, i_sub (by rw [nI_toInt (by omega), ti_6]; omega) (by rw [nI_toInt (by omega), ti_6]; omega), nI_toInt (by omega), nI_toInt (by omega), nI_toInt (by omega)]
    omega
  | succ r ih =>
    intro i bc bs h V hi hr hbc hbs
    obtain ⟨bc, rfl⟩ : ∃ b, bc = b + 4 := ⟨bc - 4, by omega⟩
    obtain ⟨bs, rfl⟩ : ∃ b, bs = b + 73 := ⟨bs - 73, by omega⟩
    refine bL_law_18 V.1.1 ⟨fun _ => kQ h, fun c => ?_⟩
    rw [Int32.lt_iff_toInt_lt, i_sub (by rw [nI_toInt (by omega), ti_6]; omega) (by rw [nI_toInt (by omega), ti_6]; omega), nI_toInt (by omega), nI_toInt (by omega), nI_toInt (by omega)] at c
    have hb : ∀ j, j ≤ 5 → vp_in (nI i + nI j) (exL E 0) := fun j hj => by
      rw [nI_add]
      exact vp_in_nI (by omega) (by omega)
    have nx : ∀ (bc bs : Nat) (h1 : aH), 4 * r ≤ bc → 73 * r ≤ bs → LV h1 → LL_law_1209 l E (d + 1) bc bs (nI i) h1 Q := fun bc bs h1 b1 b2 V1 => bL_law_1209 V1.1.1 (by
      rw [nI_add]
      exact ih (i + 6) bc bs h1 V1 (by omega) (by omega) b1 b2)
    have k : ∀ h1, LV h1 → LL_law_1209 l E (d + 1) bc bs (nI i) h1 Q := fun h1 V1 => nx bc bs h1 (by omega) (by omega) V1
    exact ⟨vp_in_nI (by omega) (by omega), fun _ => q_land V hd hb k, fun _ => q_person V hd hb k, fun _ => q_row V hd hb k, fun _ => q_cell V hd hb k, fun _ => q_change V hd hb k, fun _ => q_feast V hd hb k, fun _ => q_busy V hd hb k, fun _ => q_cant V hd hb k, fun _ => q_series V hd hb k, fun _ => q_option V hd hb k, fun _ => q_role V hd hb k, fun _ => q_local V hd hb k, fun _ => q_when V hd hb k, fun _ => q_can V hd hb k, fun _ => q_cost V hd hb k, fun _ => q_span V hd hb k, fun _ => q_fits V hd hb k, fun _ => q_plan V hd hb k, fun _ => q_stuck V hd hb k, fun _ => q_move V hd hb k, fun _ => q_planned V hd hb k, fun _ => q_comes V hd hb k, fun _ => q_sum V hd hb k, fun _ => q_shifted V hd hb k, fun _ => q_count V hd hb k, fun _ => nx (bc + 4) (bs + 73) h (by omega) (by omega) V⟩
