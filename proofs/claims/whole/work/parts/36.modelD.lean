set_option maxRecDepth 20000 in
theorem bX12_can_0 {l : Launch} {E : eE} {d bc bs : Nat} {h : aH} {Q : Int32 → aH → Prop} {x1 : Int32} {x2 : Int32} {x3 : Int32} {x4 : Int32} (S : SR h) (hd : 2 ≤ d) (H : ((¬ (rIsSpan h x1 x2 x3 x4) → Q (-1) h) ∧ ((rIsSpan h x1 x2 x3 x4) → ((inI x1 (hI h 63 3)) ∧ ((0 ≤ (x2).toInt ∧ 1 ≤ (x3).toInt ∧ (x3).toInt ≤ 6 ∧ (x2).toInt + (x3).toInt ≤ 17472) ∧ ((0 ≤ (x4).toInt ∧ (x4).toInt ≤ (hI h 63 8).toInt) ∧ Q (rReasons h x1 x2 (x4).toNatClampNeg 0 (x3).toNatClampNeg) h)))))) : CI l E (d + 1) bc bs mX12_can [.inr (some (0, 12, 63)), .inl x1, .inl x2, .inl x3, .inl x4] h Q := by
  refine CI.of (by decide) rfl ?_
  show TI l E mX12_can (d + 1) bc bs 0 [some (.inr (some (0, 12, 63))), some (.inl x1), some (.inl x2), some (.inl x3), some (.inl x4)] [] h Q
  refine z_aload_n (pc := 0) dX12_can_0 rfl rfl ?_
  refine z_iload_n (pc := 1) dX12_can_1 rfl rfl ?_
  refine z_iload_n (pc := 2) dX12_can_2 rfl rfl ?_
  refine z_iload_n (pc := 3) dX12_can_3 rfl rfl ?_
  refine z_iload (pc := 4) dX12_can_4 rfl ?_
  refine y_VI (pc := 6) (bc := bc) (bs := bs) (mc := 0) (ms := 0) (As := [.inl x1, .inl x2, .inl x3, .inl x4]) (rest := []) dX12_can_6 kX12_isSpan lX12_170 ⟨_, _, rfl⟩ rfl rfl (c_isSpan S (by omega) ?_)
  refine z_if_eq (pc := 9) (tgt := 24) dX12_can_9 (by decide) (fun c1 => ?_) (fun c1 => ?_)
  · replace H := H.1 (bI0.mp c1)
    refine z_iconst (pc := 24) (v := (-1)) dX12_can_24 (by decide) ?_
    exact z_iret (pc := 25) dX12_can_25 rfl rfl ⟨_, rfl, H⟩
  · replace H := H.2 (bI1.mp c1)
    refine z_aload_n (pc := 12) dX12_can_12 rfl rfl ?_
    refine z_iload_n (pc := 13) dX12_can_13 rfl rfl ?_
    refine z_iload_n (pc := 14) dX12_can_14 rfl rfl ?_
    refine z_iload_n (pc := 15) dX12_can_15 rfl rfl ?_
    refine z_iload (pc := 16) dX12_can_16 rfl ?_
    have c2 := H.1
    replace H := H.2
    have c3 := H.1
    replace H := H.2
    have c4 := H.1
    replace H := H.2
    refine y_VI (pc := 18) (bc := bc) (bs := bs) (mc := 0) (ms := 0) (As := [.inl x1, .inl x2, .inl x3, .inl x4]) (rest := []) dX12_can_18 kX12_reasons lX12_174 ⟨_, _, rfl⟩ rfl rfl (c_reasons S (by omega) c2 c3 c4 ?_)
    refine z_goto (pc := 21) (tgt := 25) dX12_can_21 (by decide) ?_
    exact z_iret (pc := 25) dX12_can_25 rfl rfl ⟨_, rfl, H⟩
