set_option maxRecDepth 20000 in
theorem bX12_isLand_0 {l : Launch} {E : eE} {d bc bs : Nat} {h : aH} {Q : Int32 → aH → Prop} {x1 : Int32} (S : SH h) (H : ((x1 < 0 → Q (nI 0) h) ∧ (¬ x1 < 0 → (((hI h 63 1) ≤ x1 → Q (nI 0) h) ∧ (¬ (hI h 63 1) ≤ x1 → Q (nI 1) h))))) : CI l E d bc bs mX12_isLand [.inr (some (0, 12, 63)), .inl x1] h Q := by
  refine CI.of (by decide) rfl ?_
  show TI l E mX12_isLand d bc bs 0 [some (.inr (some (0, 12, 63))), some (.inl x1)] [] h Q
  refine z_iload_n (pc := 0) dX12_isLand_0 rfl rfl ?_
  refine z_if_lt (pc := 1) (tgt := 16) dX12_isLand_1 (by decide) (fun c1 => ?_) (fun c1 => ?_)
  · replace H := H.1 c1
    refine z_iconst (pc := 16) (v := (nI 0)) dX12_isLand_16 (by decide) ?_
    exact z_iret (pc := 17) dX12_isLand_17 rfl rfl ⟨_, rfl, H⟩
  · replace H := H.2 c1
    refine z_iload_n (pc := 4) dX12_isLand_4 rfl rfl ?_
    refine z_aload_n (pc := 5) dX12_isLand_5 rfl rfl ?_
    refine z_geti (pc := 6) dX12_isLand_6 fX12_120 rfl ?_
    refine z_icmp_ge (pc := 9) (tgt := 16) dX12_isLand_9 (by decide) (fun c2 => ?_) (fun c2 => ?_)
    · replace H := H.1 c2
      refine z_iconst (pc := 16) (v := (nI 0)) dX12_isLand_16 (by decide) ?_
      exact z_iret (pc := 17) dX12_isLand_17 rfl rfl ⟨_, rfl, H⟩
    · replace H := H.2 c2
      refine z_iconst (pc := 12) (v := (nI 1)) dX12_isLand_12 (by decide) ?_
      refine z_goto (pc := 13) (tgt := 17) dX12_isLand_13 (by decide) ?_
      exact z_iret (pc := 17) dX12_isLand_17 rfl rfl ⟨_, rfl, H⟩

set_option maxRecDepth 20000 in
theorem bX12_isPerson_0 {l : Launch} {E : eE} {d bc bs : Nat} {h : aH} {Q : Int32 → aH → Prop} {x1 : Int32} (S : SH h) (H : ((x1 < 0 → Q (nI 0) h) ∧ (¬ x1 < 0 → (((hI h 63 3) ≤ x1 → Q (nI 0) h) ∧ (¬ (hI h 63 3) ≤ x1 → Q (nI 1) h))))) : CI l E d bc bs mX12_isPerson [.inr (some (0, 12, 63)), .inl x1] h Q := by
  refine CI.of (by decide) rfl ?_
  show TI l E mX12_isPerson d bc bs 0 [some (.inr (some (0, 12, 63))), some (.inl x1)] [] h Q
  refine z_iload_n (pc := 0) dX12_isPerson_0 rfl rfl ?_
  refine z_if_lt (pc := 1) (tgt := 16) dX12_isPerson_1 (by decide) (fun c1 => ?_) (fun c1 => ?_)
  · replace H := H.1 c1
    refine z_iconst (pc := 16) (v := (nI 0)) dX12_isPerson_16 (by decide) ?_
    exact z_iret (pc := 17) dX12_isPerson_17 rfl rfl ⟨_, rfl, H⟩
  · replace H := H.2 c1
    refine z_iload_n (pc := 4) dX12_isPerson_4 rfl rfl ?_
    refine z_aload_n (pc := 5) dX12_isPerson_5 rfl rfl ?_
    refine z_geti (pc := 6) dX12_isPerson_6 fX12_123 rfl ?_
    refine z_icmp_ge (pc := 9) (tgt := 16) dX12_isPerson_9 (by decide) (fun c2 => ?_) (fun c2 => ?_)
    · replace H := H.1 c2
      refine z_iconst (pc := 16) (v := (nI 0)) dX12_isPerson_16 (by decide) ?_
      exact z_iret (pc := 17) dX12_isPerson_17 rfl rfl ⟨_, rfl, H⟩
    · replace H := H.2 c2
      refine z_iconst (pc := 12) (v := (nI 1)) dX12_isPerson_12 (by decide) ?_
      refine z_goto (pc := 13) (tgt := 17) dX12_isPerson_13 (by decide) ?_
      exact z_iret (pc := 17) dX12_isPerson_17 rfl rfl ⟨_, rfl, H⟩

set_option maxRecDepth 20000 in
theorem bX12_isSeries_0 {l : Launch} {E : eE} {d bc bs : Nat} {h : aH} {Q : Int32 → aH → Prop} {x1 : Int32} (S : SH h) (H : ((x1 < 0 → Q (nI 0) h) ∧ (¬ x1 < 0 → (((hI h 63 14) ≤ x1 → Q (nI 0) h) ∧ (¬ (hI h 63 14) ≤ x1 → Q (nI 1) h))))) : CI l E d bc bs mX12_isSeries [.inr (some (0, 12, 63)), .inl x1] h Q := by
  refine CI.of (by decide) rfl ?_
  show TI l E mX12_isSeries d bc bs 0 [some (.inr (some (0, 12, 63))), some (.inl x1)] [] h Q
  refine z_iload_n (pc := 0) dX12_isSeries_0 rfl rfl ?_
  refine z_if_lt (pc := 1) (tgt := 16) dX12_isSeries_1 (by decide) (fun c1 => ?_) (fun c1 => ?_)
  · replace H := H.1 c1
    refine z_iconst (pc := 16) (v := (nI 0)) dX12_isSeries_16 (by decide) ?_
    exact z_iret (pc := 17) dX12_isSeries_17 rfl rfl ⟨_, rfl, H⟩
  · replace H := H.2 c1
    refine z_iload_n (pc := 4) dX12_isSeries_4 rfl rfl ?_
    refine z_aload_n (pc := 5) dX12_isSeries_5 rfl rfl ?_
    refine z_geti (pc := 6) dX12_isSeries_6 fX12_126 rfl ?_
    refine z_icmp_ge (pc := 9) (tgt := 16) dX12_isSeries_9 (by decide) (fun c2 => ?_) (fun c2 => ?_)
    · replace H := H.1 c2
      refine z_iconst (pc := 16) (v := (nI 0)) dX12_isSeries_16 (by decide) ?_
      exact z_iret (pc := 17) dX12_isSeries_17 rfl rfl ⟨_, rfl, H⟩
    · replace H := H.2 c2
      refine z_iconst (pc := 12) (v := (nI 1)) dX12_isSeries_12 (by decide) ?_
      refine z_goto (pc := 13) (tgt := 17) dX12_isSeries_13 (by decide) ?_
      exact z_iret (pc := 17) dX12_isSeries_17 rfl rfl ⟨_, rfl, H⟩

set_option maxRecDepth 20000 in
theorem bX12_isWeek_0 {l : Launch} {E : eE} {d bc bs : Nat} {h : aH} {Q : Int32 → aH → Prop} {x0 : Int32} (S : SH h) (H : ((x0 < 0 → Q (nI 0) h) ∧ (¬ x0 < 0 → (((nI 52) ≤ x0 → Q (nI 0) h) ∧ (¬ (nI 52) ≤ x0 → Q (nI 1) h))))) : CI l E d bc bs mX12_isWeek [.inl x0] h Q := by
  refine CI.of (by decide) rfl ?_
  show TI l E mX12_isWeek d bc bs 0 [some (.inl x0)] [] h Q
  refine z_iload_n (pc := 0) dX12_isWeek_0 rfl rfl ?_
  refine z_if_lt (pc := 1) (tgt := 14) dX12_isWeek_1 (by decide) (fun c1 => ?_) (fun c1 => ?_)
  · replace H := H.1 c1
    refine z_iconst (pc := 14) (v := (nI 0)) dX12_isWeek_14 (by decide) ?_
    exact z_iret (pc := 15) dX12_isWeek_15 rfl rfl ⟨_, rfl, H⟩
  · replace H := H.2 c1
    refine z_iload_n (pc := 4) dX12_isWeek_4 rfl rfl ?_
    refine z_bipush (pc := 5) (v := (nI 52)) dX12_isWeek_5 (by decide) ?_
    refine z_icmp_ge (pc := 7) (tgt := 14) dX12_isWeek_7 (by decide) (fun c2 => ?_) (fun c2 => ?_)
    · replace H := H.1 c2
      refine z_iconst (pc := 14) (v := (nI 0)) dX12_isWeek_14 (by decide) ?_
      exact z_iret (pc := 15) dX12_isWeek_15 rfl rfl ⟨_, rfl, H⟩
    · replace H := H.2 c2
      refine z_iconst (pc := 10) (v := (nI 1)) dX12_isWeek_10 (by decide) ?_
      refine z_goto (pc := 11) (tgt := 15) dX12_isWeek_11 (by decide) ?_
      exact z_iret (pc := 15) dX12_isWeek_15 rfl rfl ⟨_, rfl, H⟩

set_option maxRecDepth 20000 in
theorem bX12_isKnown_0 {l : Launch} {E : eE} {d bc bs : Nat} {h : aH} {Q : Int32 → aH → Prop} {x1 : Int32} (S : SH h) (H : ((x1 < 0 → Q (nI 0) h) ∧ (¬ x1 < 0 → (((hI h 63 8) < x1 → Q (nI 0) h) ∧ (¬ (hI h 63 8) < x1 → Q (nI 1) h))))) : CI l E d bc bs mX12_isKnown [.inr (some (0, 12, 63)), .inl x1] h Q := by
  refine CI.of (by decide) rfl ?_
  show TI l E mX12_isKnown d bc bs 0 [some (.inr (some (0, 12, 63))), some (.inl x1)] [] h Q
  refine z_iload_n (pc := 0) dX12_isKnown_0 rfl rfl ?_
  refine z_if_lt (pc := 1) (tgt := 16) dX12_isKnown_1 (by decide) (fun c1 => ?_) (fun c1 => ?_)
  · replace H := H.1 c1
    refine z_iconst (pc := 16) (v := (nI 0)) dX12_isKnown_16 (by decide) ?_
    exact z_iret (pc := 17) dX12_isKnown_17 rfl rfl ⟨_, rfl, H⟩
  · replace H := H.2 c1
    refine z_iload_n (pc := 4) dX12_isKnown_4 rfl rfl ?_
    refine z_aload_n (pc := 5) dX12_isKnown_5 rfl rfl ?_
    refine z_geti (pc := 6) dX12_isKnown_6 fX12_129 rfl ?_
    refine z_icmp_gt (pc := 9) (tgt := 16) dX12_isKnown_9 (by decide) (fun c2 => ?_) (fun c2 => ?_)
    · replace H := H.1 c2
      refine z_iconst (pc := 16) (v := (nI 0)) dX12_isKnown_16 (by decide) ?_
      exact z_iret (pc := 17) dX12_isKnown_17 rfl rfl ⟨_, rfl, H⟩
    · replace H := H.2 c2
      refine z_iconst (pc := 12) (v := (nI 1)) dX12_isKnown_12 (by decide) ?_
      refine z_goto (pc := 13) (tgt := 17) dX12_isKnown_13 (by decide) ?_
      exact z_iret (pc := 17) dX12_isKnown_17 rfl rfl ⟨_, rfl, H⟩

set_option maxRecDepth 20000 in
theorem bX12_isOffset_0 {l : Launch} {E : eE} {d bc bs : Nat} {h : aH} {Q : Int32 → aH → Prop} {x0 : Int32} (S : SH h) (H : ((x0 < (-24) → Q (nI 0) h) ∧ (¬ x0 < (-24) → (((nI 28) < x0 → Q (nI 0) h) ∧ (¬ (nI 28) < x0 → Q (nI 1) h))))) : CI l E d bc bs mX12_isOffset [.inl x0] h Q := by
  refine CI.of (by decide) rfl ?_
  show TI l E mX12_isOffset d bc bs 0 [some (.inl x0)] [] h Q
  refine z_iload_n (pc := 0) dX12_isOffset_0 rfl rfl ?_
  refine z_bipush (pc := 1) (v := (-24)) dX12_isOffset_1 (by decide) ?_
  refine z_icmp_lt (pc := 3) (tgt := 16) dX12_isOffset_3 (by decide) (fun c1 => ?_) (fun c1 => ?_)
  · replace H := H.1 c1
    refine z_iconst (pc := 16) (v := (nI 0)) dX12_isOffset_16 (by decide) ?_
    exact z_iret (pc := 17) dX12_isOffset_17 rfl rfl ⟨_, rfl, H⟩
  · replace H := H.2 c1
    refine z_iload_n (pc := 6) dX12_isOffset_6 rfl rfl ?_
    refine z_bipush (pc := 7) (v := (nI 28)) dX12_isOffset_7 (by decide) ?_
    refine z_icmp_gt (pc := 9) (tgt := 16) dX12_isOffset_9 (by decide) (fun c2 => ?_) (fun c2 => ?_)
    · replace H := H.1 c2
      refine z_iconst (pc := 16) (v := (nI 0)) dX12_isOffset_16 (by decide) ?_
      exact z_iret (pc := 17) dX12_isOffset_17 rfl rfl ⟨_, rfl, H⟩
    · replace H := H.2 c2
      refine z_iconst (pc := 12) (v := (nI 1)) dX12_isOffset_12 (by decide) ?_
      refine z_goto (pc := 13) (tgt := 17) dX12_isOffset_13 (by decide) ?_
      exact z_iret (pc := 17) dX12_isOffset_17 rfl rfl ⟨_, rfl, H⟩

set_option maxRecDepth 20000 in
theorem bX12_down_0 {l : Launch} {E : eE} {d bc bs : Nat} {h : aH} {Q : Int32 → aH → Prop} {x0 : Int32} {x1 : Int32} (S : SH h) (H : (¬ x1 = 0 ∧ (¬ x1 = 0 ∧ ((0 ≤ (x0 - x0 / x1 * x1) → Q (x0 / x1) h) ∧ (¬ 0 ≤ (x0 - x0 / x1 * x1) → Q ((x0 / x1) - (nI 1)) h))))) : CI l E d bc bs mX12_down [.inl x0, .inl x1] h Q := by
  refine CI.of (by decide) rfl ?_
  show TI l E mX12_down d bc bs 0 [some (.inl x0), some (.inl x1), none] [] h Q
  refine z_iload_n (pc := 0) dX12_down_0 rfl rfl ?_
  refine z_iload_n (pc := 1) dX12_down_1 rfl rfl ?_
  refine z_idiv (pc := 2) dX12_down_2 H.1 ?_
  replace H := H.2
  refine z_istore_n (pc := 3) (ls' := [some (.inl x0), some (.inl x1), some (.inl (x0 / x1))]) dX12_down_3 rfl rfl rfl ?_
  refine z_iload_n (pc := 4) dX12_down_4 rfl rfl ?_
  refine z_iload_n (pc := 5) dX12_down_5 rfl rfl ?_
  refine z_irem (pc := 6) dX12_down_6 H.1 ?_
  replace H := H.2
  refine z_if_ge (pc := 7) (tgt := 16) dX12_down_7 (by decide) (fun c1 => ?_) (fun c1 => ?_)
  · replace H := H.1 c1
    refine z_iload_n (pc := 16) dX12_down_16 rfl rfl ?_
    exact z_iret (pc := 17) dX12_down_17 rfl rfl ⟨_, rfl, H⟩
  · replace H := H.2 c1
    refine z_iload_n (pc := 10) dX12_down_10 rfl rfl ?_
    refine z_iconst (pc := 11) (v := (nI 1)) dX12_down_11 (by decide) ?_
    refine z_isub (pc := 12) dX12_down_12 ?_
    refine z_goto (pc := 13) (tgt := 17) dX12_down_13 (by decide) ?_
    exact z_iret (pc := 17) dX12_down_17 rfl rfl ⟨_, rfl, H⟩

abbrev LX12_offsetAt_6 (l : Launch) (E : eE) (d bc bs : Nat) (x1 : Int32) (x2 : Int32) (x3 : Int32) (x4 : Int32) (x5 : Int32) (h : aH) (Q : Int32 → aH → Prop) : Prop := TI l E mX12_offsetAt d bc bs 6 [some (.inr (some (0, 12, 63))), some (.inl x1), some (.inl x2), some (.inl x3), some (.inl x4), some (.inl x5)] [] h Q

set_option maxRecDepth 20000 in
theorem bX12_offsetAt_0 {l : Launch} {E : eE} {d bc bs : Nat} {h : aH} {Q : Int32 → aH → Prop} {x1 : Int32} {x2 : Int32} {x3 : Int32} (S : SH h) (H : LX12_offsetAt_6 l E d bc bs x1 x2 x3 (-1) (nI 0) h Q) : CI l E d bc bs mX12_offsetAt [.inr (some (0, 12, 63)), .inl x1, .inl x2, .inl x3] h Q := by
  refine CI.of (by decide) rfl ?_
  show TI l E mX12_offsetAt d bc bs 0 [some (.inr (some (0, 12, 63))), some (.inl x1), some (.inl x2), some (.inl x3), none, none] [] h Q
  refine z_iconst (pc := 0) (v := (-1)) dX12_offsetAt_0 (by decide) ?_
  refine z_istore (pc := 1) (ls' := [some (.inr (some (0, 12, 63))), some (.inl x1), some (.inl x2), some (.inl x3), some (.inl (-1)), none]) dX12_offsetAt_1 rfl rfl ?_
  refine z_iconst (pc := 3) (v := (nI 0)) dX12_offsetAt_3 (by decide) ?_
  refine z_istore (pc := 4) (ls' := [some (.inr (some (0, 12, 63))), some (.inl x1), some (.inl x2), some (.inl x3), some (.inl (-1)), some (.inl (nI 0))]) dX12_offsetAt_4 rfl rfl ?_
  exact H

set_option maxRecDepth 20000 in
theorem bX12_offsetAt_6 {l : Launch} {E : eE} {d bc bs : Nat} {h : aH} {Q : Int32 → aH → Prop} {x1 : Int32} {x2 : Int32} {x3 : Int32} {x4 : Int32} {x5 : Int32} (S : SH h) (H : ((x3 ≤ x5 → ((¬ x4 = (-1) → (vp_in x4 400 ∧ Q (hA h 72 (x4).toNatClampNeg) h)) ∧ (x4 = (-1) → (vp_in x1 8 ∧ Q (hA h 64 (x1).toNatClampNeg) h)))) ∧ (¬ x3 ≤ x5 → (vp_in x5 400 ∧ ((¬ (hA h 69 (x5).toNatClampNeg) = 0 → LX12_offsetAt_6 l E d bc bs x1 x2 x3 x4 (x5 + (nI 1)) h Q) ∧ ((hA h 69 (x5).toNatClampNeg) = 0 → ((¬ (hA h 70 (x5).toNatClampNeg) = x1 → LX12_offsetAt_6 l E d bc bs x1 x2 x3 x4 (x5 + (nI 1)) h Q) ∧ ((hA h 70 (x5).toNatClampNeg) = x1 → ((x2 < (hA h 71 (x5).toNatClampNeg) → LX12_offsetAt_6 l E d bc bs x1 x2 x3 x4 (x5 + (nI 1)) h Q) ∧ (¬ x2 < (hA h 71 (x5).toNatClampNeg) → ((x4 = (-1) → LX12_offsetAt_6 l E d bc bs x1 x2 x3 x5 (x5 + (nI 1)) h Q) ∧ (¬ x4 = (-1) → (vp_in x4 400 ∧ (((hA h 71 (x5).toNatClampNeg) < (hA h 71 (x4).toNatClampNeg) → LX12_offsetAt_6 l E d bc bs x1 x2 x3 x4 (x5 + (nI 1)) h Q) ∧ (¬ (hA h 71 (x5).toNatClampNeg) < (hA h 71 (x4).toNatClampNeg) → LX12_offsetAt_6 l E d bc bs x1 x2 x3 x5 (x5 + (nI 1)) h Q))))))))))))))) : LX12_offsetAt_6 l E d bc bs x1 x2 x3 x4 x5 h Q := by
  refine z_iload (pc := 6) dX12_offsetAt_6 rfl ?_
  refine z_iload_n (pc := 8) dX12_offsetAt_8 rfl rfl ?_
  refine z_icmp_ge (pc := 9) (tgt := 77) dX12_offsetAt_9 (by decide) (fun c1 => ?_) (fun c1 => ?_)
  · replace H := H.1 c1
    refine z_iload (pc := 77) dX12_offsetAt_77 rfl ?_
    refine z_iconst (pc := 79) (v := (-1)) dX12_offsetAt_79 (by decide) ?_
    refine z_icmp_ne (pc := 80) (tgt := 92) dX12_offsetAt_80 (by decide) (fun c2 => ?_) (fun c2 => ?_)
    · replace H := H.1 c2
      refine z_aload_n (pc := 92) dX12_offsetAt_92 rfl rfl ?_
      refine z_getk (pc := 93) dX12_offsetAt_93 fX12_38 rfl (s_63_12 S) ?_
      refine z_iload (pc := 96) dX12_offsetAt_96 rfl ?_
      have c3 := H.1
      replace H := H.2
      refine z_iald (pc := 98) dX12_offsetAt_98 c3 ?_
      exact z_iret (pc := 99) dX12_offsetAt_99 rfl rfl ⟨_, rfl, H⟩
    · replace H := H.2 c2
      refine z_aload_n (pc := 83) dX12_offsetAt_83 rfl rfl ?_
      refine z_getk (pc := 84) dX12_offsetAt_84 fX12_13 rfl (s_63_2 S) ?_
      refine z_iload_n (pc := 87) dX12_offsetAt_87 rfl rfl ?_
      have c4 := H.1
      replace H := H.2
      refine z_iald (pc := 88) dX12_offsetAt_88 c4 ?_
      refine z_goto (pc := 89) (tgt := 99) dX12_offsetAt_89 (by decide) ?_
      exact z_iret (pc := 99) dX12_offsetAt_99 rfl rfl ⟨_, rfl, H⟩
  · replace H := H.2 c1
    refine z_aload_n (pc := 12) dX12_offsetAt_12 rfl rfl ?_
    refine z_getk (pc := 13) dX12_offsetAt_13 fX12_29 rfl (s_63_9 S) ?_
    refine z_iload (pc := 16) dX12_offsetAt_16 rfl ?_
    have c5 := H.1
    replace H := H.2
    refine z_iald (pc := 18) dX12_offsetAt_18 c5 ?_
    refine z_if_ne (pc := 19) (tgt := 71) dX12_offsetAt_19 (by decide) (fun c6 => ?_) (fun c6 => ?_)
    · replace H := H.1 c6
      refine z_iinc (pc := 71) (v := (x5 + (nI 1))) (ls' := [some (.inr (some (0, 12, 63))), some (.inl x1), some (.inl x2), some (.inl x3), some (.inl x4), some (.inl (x5 + (nI 1)))]) dX12_offsetAt_71 rfl (by rw [show Int32.ofInt (1) = (nI 1) by decide]) rfl ?_
      refine z_goto (pc := 74) (tgt := 6) dX12_offsetAt_74 (by decide) ?_
      exact H
    · replace H := H.2 c6
      refine z_aload_n (pc := 22) dX12_offsetAt_22 rfl rfl ?_
      refine z_getk (pc := 23) dX12_offsetAt_23 fX12_32 rfl (s_63_10 S) ?_
      refine z_iload (pc := 26) dX12_offsetAt_26 rfl ?_
      refine z_iald (pc := 28) dX12_offsetAt_28 c5 ?_
      refine z_iload_n (pc := 29) dX12_offsetAt_29 rfl rfl ?_
      refine z_icmp_ne (pc := 30) (tgt := 71) dX12_offsetAt_30 (by decide) (fun c7 => ?_) (fun c7 => ?_)
      · replace H := H.1 c7
        refine z_iinc (pc := 71) (v := (x5 + (nI 1))) (ls' := [some (.inr (some (0, 12, 63))), some (.inl x1), some (.inl x2), some (.inl x3), some (.inl x4), some (.inl (x5 + (nI 1)))]) dX12_offsetAt_71 rfl (by rw [show Int32.ofInt (1) = (nI 1) by decide]) rfl ?_
        refine z_goto (pc := 74) (tgt := 6) dX12_offsetAt_74 (by decide) ?_
        exact H
      · replace H := H.2 c7
        refine z_aload_n (pc := 33) dX12_offsetAt_33 rfl rfl ?_
        refine z_getk (pc := 34) dX12_offsetAt_34 fX12_35 rfl (s_63_11 S) ?_
        refine z_iload (pc := 37) dX12_offsetAt_37 rfl ?_
        refine z_iald (pc := 39) dX12_offsetAt_39 c5 ?_
        refine z_iload_n (pc := 40) dX12_offsetAt_40 rfl rfl ?_
        refine z_icmp_gt (pc := 41) (tgt := 71) dX12_offsetAt_41 (by decide) (fun c8 => ?_) (fun c8 => ?_)
        · replace H := H.1 c8
          refine z_iinc (pc := 71) (v := (x5 + (nI 1))) (ls' := [some (.inr (some (0, 12, 63))), some (.inl x1), some (.inl x2), some (.inl x3), some (.inl x4), some (.inl (x5 + (nI 1)))]) dX12_offsetAt_71 rfl (by rw [show Int32.ofInt (1) = (nI 1) by decide]) rfl ?_
          refine z_goto (pc := 74) (tgt := 6) dX12_offsetAt_74 (by decide) ?_
          exact H
        · replace H := H.2 c8
          refine z_iload (pc := 44) dX12_offsetAt_44 rfl ?_
          refine z_iconst (pc := 46) (v := (-1)) dX12_offsetAt_46 (by decide) ?_
          refine z_icmp_eq (pc := 47) (tgt := 67) dX12_offsetAt_47 (by decide) (fun c9 => ?_) (fun c9 => ?_)
          · replace H := H.1 c9
            refine z_iload (pc := 67) dX12_offsetAt_67 rfl ?_
            refine z_istore (pc := 69) (ls' := [some (.inr (some (0, 12, 63))), some (.inl x1), some (.inl x2), some (.inl x3), some (.inl x5), some (.inl x5)]) dX12_offsetAt_69 rfl rfl ?_
            refine z_iinc (pc := 71) (v := (x5 + (nI 1))) (ls' := [some (.inr (some (0, 12, 63))), some (.inl x1), some (.inl x2), some (.inl x3), some (.inl x5), some (.inl (x5 + (nI 1)))]) dX12_offsetAt_71 rfl (by rw [show Int32.ofInt (1) = (nI 1) by decide]) rfl ?_
            refine z_goto (pc := 74) (tgt := 6) dX12_offsetAt_74 (by decide) ?_
            exact H
          · replace H := H.2 c9
            refine z_aload_n (pc := 50) dX12_offsetAt_50 rfl rfl ?_
            refine z_getk (pc := 51) dX12_offsetAt_51 fX12_35 rfl (s_63_11 S) ?_
            refine z_iload (pc := 54) dX12_offsetAt_54 rfl ?_
            refine z_iald (pc := 56) dX12_offsetAt_56 c5 ?_
            refine z_aload_n (pc := 57) dX12_offsetAt_57 rfl rfl ?_
            refine z_getk (pc := 58) dX12_offsetAt_58 fX12_35 rfl (s_63_11 S) ?_
            refine z_iload (pc := 61) dX12_offsetAt_61 rfl ?_
            have c10 := H.1
            replace H := H.2
            refine z_iald (pc := 63) dX12_offsetAt_63 c10 ?_
            refine z_icmp_lt (pc := 64) (tgt := 71) dX12_offsetAt_64 (by decide) (fun c11 => ?_) (fun c11 => ?_)
            · replace H := H.1 c11
              refine z_iinc (pc := 71) (v := (x5 + (nI 1))) (ls' := [some (.inr (some (0, 12, 63))), some (.inl x1), some (.inl x2), some (.inl x3), some (.inl x4), some (.inl (x5 + (nI 1)))]) dX12_offsetAt_71 rfl (by rw [show Int32.ofInt (1) = (nI 1) by decide]) rfl ?_
              refine z_goto (pc := 74) (tgt := 6) dX12_offsetAt_74 (by decide) ?_
              exact H
            · replace H := H.2 c11
              refine z_iload (pc := 67) dX12_offsetAt_67 rfl ?_
              refine z_istore (pc := 69) (ls' := [some (.inr (some (0, 12, 63))), some (.inl x1), some (.inl x2), some (.inl x3), some (.inl x5), some (.inl x5)]) dX12_offsetAt_69 rfl rfl ?_
              refine z_iinc (pc := 71) (v := (x5 + (nI 1))) (ls' := [some (.inr (some (0, 12, 63))), some (.inl x1), some (.inl x2), some (.inl x3), some (.inl x5), some (.inl (x5 + (nI 1)))]) dX12_offsetAt_71 rfl (by rw [show Int32.ofInt (1) = (nI 1) by decide]) rfl ?_
              refine z_goto (pc := 74) (tgt := 6) dX12_offsetAt_74 (by decide) ?_
              exact H

abbrev LX12_bits_4 (l : Launch) (E : eE) (d bc bs : Nat) (x0 : Int32) (x1 : Int32) (x2 : Int32) (h : aH) (Q : Int32 → aH → Prop) : Prop := TI l E mX12_bits d bc bs 4 [some (.inl x0), some (.inl x1), some (.inl x2)] [] h Q

set_option maxRecDepth 20000 in
theorem bX12_bits_0 {l : Launch} {E : eE} {d bc bs : Nat} {h : aH} {Q : Int32 → aH → Prop} {x0 : Int32} (S : SH h) (H : LX12_bits_4 l E d bc bs x0 (nI 0) (nI 0) h Q) : CI l E d bc bs mX12_bits [.inl x0] h Q := by
  refine CI.of (by decide) rfl ?_
  show TI l E mX12_bits d bc bs 0 [some (.inl x0), none, none] [] h Q
  refine z_iconst (pc := 0) (v := (nI 0)) dX12_bits_0 (by decide) ?_
  refine z_istore_n (pc := 1) (ls' := [some (.inl x0), some (.inl (nI 0)), none]) dX12_bits_1 rfl rfl rfl ?_
  refine z_iconst (pc := 2) (v := (nI 0)) dX12_bits_2 (by decide) ?_
  refine z_istore_n (pc := 3) (ls' := [some (.inl x0), some (.inl (nI 0)), some (.inl (nI 0))]) dX12_bits_3 rfl rfl rfl ?_
  exact H

set_option maxRecDepth 20000 in
theorem bX12_bits_4 {l : Launch} {E : eE} {d bc bs : Nat} {h : aH} {Q : Int32 → aH → Prop} {x0 : Int32} {x1 : Int32} {x2 : Int32} (S : SH h) (H : (((nI 12) ≤ x2 → Q x1 h) ∧ (¬ (nI 12) ≤ x2 → LX12_bits_4 l E d bc bs x0 (x1 + ((x0 >>> (x2 &&& 31)) &&& (nI 1))) (x2 + (nI 1)) h Q))) : LX12_bits_4 l E d bc bs x0 x1 x2 h Q := by
  refine z_iload_n (pc := 4) dX12_bits_4 rfl rfl ?_
  refine z_bipush (pc := 5) (v := (nI 12)) dX12_bits_5 (by decide) ?_
  refine z_icmp_ge (pc := 7) (tgt := 24) dX12_bits_7 (by decide) (fun c1 => ?_) (fun c1 => ?_)
  · replace H := H.1 c1
    refine z_iload_n (pc := 24) dX12_bits_24 rfl rfl ?_
    exact z_iret (pc := 25) dX12_bits_25 rfl rfl ⟨_, rfl, H⟩
  · replace H := H.2 c1
    refine z_iload_n (pc := 10) dX12_bits_10 rfl rfl ?_
    refine z_iload_n (pc := 11) dX12_bits_11 rfl rfl ?_
    refine z_iload_n (pc := 12) dX12_bits_12 rfl rfl ?_
    refine z_ishr (pc := 13) dX12_bits_13 ?_
    refine z_iconst (pc := 14) (v := (nI 1)) dX12_bits_14 (by decide) ?_
    refine z_iand (pc := 15) dX12_bits_15 ?_
    refine z_iadd (pc := 16) dX12_bits_16 ?_
    refine z_istore_n (pc := 17) (ls' := [some (.inl x0), some (.inl (x1 + ((x0 >>> (x2 &&& 31)) &&& (nI 1)))), some (.inl x2)]) dX12_bits_17 rfl rfl rfl ?_
    refine z_iinc (pc := 18) (v := (x2 + (nI 1))) (ls' := [some (.inl x0), some (.inl (x1 + ((x0 >>> (x2 &&& 31)) &&& (nI 1)))), some (.inl (x2 + (nI 1)))]) dX12_bits_18 rfl (by rw [show Int32.ofInt (1) = (nI 1) by decide]) rfl ?_
    refine z_goto (pc := 21) (tgt := 4) dX12_bits_21 (by decide) ?_
    exact H
