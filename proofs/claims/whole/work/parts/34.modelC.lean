abbrev LX12_reasons_3 (l : Launch) (E : eE) (d bc bs : Nat) (x1 : Int32) (x2 : Int32) (x3 : Int32) (x4 : Int32) (x5 : Int32) (h : aH) (Q : Int32 → aH → Prop) : Prop := TI l E mX12_reasons d bc bs 3 [some (.inr (some (0, 12, 63))), some (.inl x1), some (.inl x2), some (.inl x3), some (.inl x4), some (.inl x5), none] [] h Q

set_option maxRecDepth 20000 in
theorem bX12_reasons_0 {l : Launch} {E : eE} {d bc bs : Nat} {h : aH} {Q : Int32 → aH → Prop} {x1 : Int32} {x2 : Int32} {x3 : Int32} {x4 : Int32} (S : SR h) (H : LX12_reasons_3 l E (d + 1) bc bs x1 x2 x3 x4 (nI 0) h Q) : CI l E (d + 1) bc bs mX12_reasons [.inr (some (0, 12, 63)), .inl x1, .inl x2, .inl x3, .inl x4] h Q := by
  refine CI.of (by decide) rfl ?_
  show TI l E mX12_reasons (d + 1) bc bs 0 [some (.inr (some (0, 12, 63))), some (.inl x1), some (.inl x2), some (.inl x3), some (.inl x4), none, none] [] h Q
  refine z_iconst (pc := 0) (v := (nI 0)) dX12_reasons_0 (by decide) ?_
  refine z_istore (pc := 1) (ls' := [some (.inr (some (0, 12, 63))), some (.inl x1), some (.inl x2), some (.inl x3), some (.inl x4), some (.inl (nI 0)), none]) dX12_reasons_1 rfl rfl ?_
  exact H

set_option maxRecDepth 20000 in
theorem bX12_reasons_3 {l : Launch} {E : eE} {d bc bs : Nat} {h : aH} {Q : Int32 → aH → Prop} {x1 : Int32} {x2 : Int32} {x3 : Int32} {x4 : Int32} {x5 : Int32} (S : SR h) (hd : 1 ≤ d) (H : ((x3 ≤ x5 → Q (nI 0) h) ∧ (¬ x3 ≤ x5 → ((inI x1 (hI h 63 3)) ∧ ((0 ≤ ((x2 + x5)).toInt ∧ ((x2 + x5)).toInt < 17472) ∧ ((0 ≤ (x4).toInt ∧ (x4).toInt ≤ (hI h 63 8).toInt) ∧ (((rReason h x1 (x2 + x5) (x4).toNatClampNeg) ≤ 0 → LX12_reasons_3 l E (d + 1) bc bs x1 x2 x3 x4 (x5 + (nI 1)) h Q) ∧ (¬ (rReason h x1 (x2 + x5) (x4).toNatClampNeg) ≤ 0 → Q (rReason h x1 (x2 + x5) (x4).toNatClampNeg) h)))))))) : LX12_reasons_3 l E (d + 1) bc bs x1 x2 x3 x4 x5 h Q := by
  refine z_iload (pc := 3) dX12_reasons_3 rfl ?_
  refine z_iload_n (pc := 5) dX12_reasons_5 rfl rfl ?_
  refine z_icmp_ge (pc := 6) (tgt := 36) dX12_reasons_6 (by decide) (fun c1 => ?_) (fun c1 => ?_)
  · replace H := H.1 c1
    refine z_iconst (pc := 36) (v := (nI 0)) dX12_reasons_36 (by decide) ?_
    exact z_iret (pc := 37) dX12_reasons_37 rfl rfl ⟨_, rfl, H⟩
  · replace H := H.2 c1
    refine z_aload_n (pc := 9) dX12_reasons_9 rfl rfl ?_
    refine z_iload_n (pc := 10) dX12_reasons_10 rfl rfl ?_
    refine z_iload_n (pc := 11) dX12_reasons_11 rfl rfl ?_
    refine z_iload (pc := 12) dX12_reasons_12 rfl ?_
    refine z_iadd (pc := 14) dX12_reasons_14 ?_
    refine z_iload (pc := 15) dX12_reasons_15 rfl ?_
    have c2 := H.1
    replace H := H.2
    have c3 := H.1
    replace H := H.2
    have c4 := H.1
    replace H := H.2
    refine y_VI (pc := 17) (bc := bc) (bs := bs) (mc := 0) (ms := 0) (As := [.inl x1, .inl (x2 + x5), .inl x4]) (rest := []) dX12_reasons_17 kX12_reason lX12_167 ⟨_, _, rfl⟩ rfl rfl (c_reason S (by omega) c2 c3 c4 ?_)
    refine z_istore (pc := 20) (ls' := [some (.inr (some (0, 12, 63))), some (.inl x1), some (.inl x2), some (.inl x3), some (.inl x4), some (.inl x5), some (.inl (rReason h x1 (x2 + x5) (x4).toNatClampNeg))]) dX12_reasons_20 rfl rfl ?_
    refine z_iload (pc := 22) dX12_reasons_22 rfl ?_
    refine z_if_le (pc := 24) (tgt := 30) dX12_reasons_24 (by decide) (fun c5 => ?_) (fun c5 => ?_)
    · replace H := H.1 c5
      refine z_iinc (pc := 30) (v := (x5 + (nI 1))) (ls' := [some (.inr (some (0, 12, 63))), some (.inl x1), some (.inl x2), some (.inl x3), some (.inl x4), some (.inl (x5 + (nI 1))), some (.inl (rReason h x1 (x2 + x5) (x4).toNatClampNeg))]) dX12_reasons_30 rfl (by rw [show Int32.ofInt (1) = (nI 1) by decide]) rfl ?_
      refine z_goto (pc := 33) (tgt := 3) dX12_reasons_33 (by decide) ?_
      exact z_drop (ls' := [some (.inr (some (0, 12, 63))), some (.inl x1), some (.inl x2), some (.inl x3), some (.inl x4), some (.inl (x5 + (nI 1))), none]) (by simp [dropL]) H
    · replace H := H.2 c5
      refine z_iload (pc := 27) dX12_reasons_27 rfl ?_
      exact z_iret (pc := 29) dX12_reasons_29 rfl rfl ⟨_, rfl, H⟩

set_option maxRecDepth 20000 in
theorem bX12_cost_0 {l : Launch} {E : eE} {d bc bs : Nat} {h : aH} {Q : Int32 → aH → Prop} {x1 : Int32} {x2 : Int32} {x3 : Int32} {x4 : Int32} (S : SR h) (hd : 1 ≤ d) (H : ((¬ (rIsSpan h x1 x2 x3 x4) → Q (-1) h) ∧ ((rIsSpan h x1 x2 x3 x4) → ((inI x1 (hI h 63 3)) ∧ ((0 ≤ (x2).toInt ∧ 1 ≤ (x3).toInt ∧ (x3).toInt ≤ 6 ∧ (x2).toInt + (x3).toInt ≤ 17472) ∧ ((0 ≤ (x4).toInt ∧ (x4).toInt ≤ (hI h 63 8).toInt) ∧ Q (rCosts h x1 x2 (x4).toNatClampNeg (x3).toNatClampNeg) h)))))) : CI l E (d + 1) bc bs mX12_cost [.inr (some (0, 12, 63)), .inl x1, .inl x2, .inl x3, .inl x4] h Q := by
  refine CI.of (by decide) rfl ?_
  show TI l E mX12_cost (d + 1) bc bs 0 [some (.inr (some (0, 12, 63))), some (.inl x1), some (.inl x2), some (.inl x3), some (.inl x4)] [] h Q
  refine z_aload_n (pc := 0) dX12_cost_0 rfl rfl ?_
  refine z_iload_n (pc := 1) dX12_cost_1 rfl rfl ?_
  refine z_iload_n (pc := 2) dX12_cost_2 rfl rfl ?_
  refine z_iload_n (pc := 3) dX12_cost_3 rfl rfl ?_
  refine z_iload (pc := 4) dX12_cost_4 rfl ?_
  refine y_VI (pc := 6) (bc := bc) (bs := bs) (mc := 0) (ms := 0) (As := [.inl x1, .inl x2, .inl x3, .inl x4]) (rest := []) dX12_cost_6 kX12_isSpan lX12_170 ⟨_, _, rfl⟩ rfl rfl (c_isSpan S (by omega) ?_)
  refine z_if_eq (pc := 9) (tgt := 24) dX12_cost_9 (by decide) (fun c1 => ?_) (fun c1 => ?_)
  · replace H := H.1 (bI0.mp c1)
    refine z_iconst (pc := 24) (v := (-1)) dX12_cost_24 (by decide) ?_
    exact z_iret (pc := 25) dX12_cost_25 rfl rfl ⟨_, rfl, H⟩
  · replace H := H.2 (bI1.mp c1)
    refine z_aload_n (pc := 12) dX12_cost_12 rfl rfl ?_
    refine z_iload_n (pc := 13) dX12_cost_13 rfl rfl ?_
    refine z_iload_n (pc := 14) dX12_cost_14 rfl rfl ?_
    refine z_iload_n (pc := 15) dX12_cost_15 rfl rfl ?_
    refine z_iload (pc := 16) dX12_cost_16 rfl ?_
    have c2 := H.1
    replace H := H.2
    have c3 := H.1
    replace H := H.2
    have c4 := H.1
    replace H := H.2
    refine y_VI (pc := 18) (bc := bc) (bs := bs) (mc := 0) (ms := 0) (As := [.inl x1, .inl x2, .inl x3, .inl x4]) (rest := []) dX12_cost_18 kX12_costs lX12_178 ⟨_, _, rfl⟩ rfl rfl (c_costs S (by omega) c2 c3 c4 ?_)
    refine z_goto (pc := 21) (tgt := 25) dX12_cost_21 (by decide) ?_
    exact z_iret (pc := 25) dX12_cost_25 rfl rfl ⟨_, rfl, H⟩
