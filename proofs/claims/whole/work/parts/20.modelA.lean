set_option maxRecDepth 20000 in
theorem bX12_isLand_0 {l : Launch} {E : eE} {d bc bs : Nat} {h : aH} {Q : Int32 → aH → Prop} {x1 : Int32} (S : SH h) (H : ((x1 < 0 → Q (nI 0) h) ∧ (¬ x1 < 0 → (((hI h 63 1) ≤ x1 → Q (nI 0) h) ∧ (¬ (hI h 63 1) ≤ x1 → Q (nI 1) h))))) : CI l E d bc bs mX12_isLand [.inr (some (0, 12, 63)), .inl x1] h Q := by
  refine CI.of (by decide) rfl ?_
  show TI l E mX12_isLand d bc bs 0 [some (.inr (some (0, 12, 63))), some (.inl x1)] [] h Q
  refine z_iload_n (pc := 0) dX12_isLand_0 rfl rfl ?_
  refine z_if_lt (pc := 1) (tgt := 16) dX12_isLand_1 (by decide) (fun c1 => ?_) (fun c1 => ?_)
  · replace H := H.1 c1
    refine z_iconst (pc := 16) (v := (nI 0)) dX12_isLand_16 (by decide) ?_
    exact z_iret (pc := 17) dX12_isLand_17 rfl rfl ⟨_, rfl, H⟩
  · replace H := H.2 c1
    refine z_iload_n (pc := 4) dX12_isLand_4 rfl rfl ?_
    refine z_aload_n (pc := 5) dX12_isLand_5 rfl rfl ?_
    refine z_geti (pc := 6) dX12_isLand_6 fX12_120 rfl ?_
    refine z_icmp_ge (pc := 9) (tgt := 16) dX12_isLand_9 (by decide) (fun c2 => ?_) (fun c2 => ?_)
    · replace H := H.1 c2
      refine z_iconst (pc := 16) (v := (nI 0)) dX12_isLand_16 (by decide) ?_
      exact z_iret (pc := 17) dX12_isLand_17 rfl rfl ⟨_, rfl, H⟩
    · replace H := H.2 c2
      refine z_iconst (pc := 12) (v := (nI 1)) dX12_isLand_12 (by decide) ?_
      refine z_goto (pc := 13) (tgt := 17) dX12_isLand_13 (by decide) ?_
      exact z_iret (pc := 17) dX12_isLand_17 rfl rfl ⟨_, rfl, H⟩

set_option maxRecDepth 20000 in
theorem bX12_isPerson_0 {l : Launch} {E : eE} {d bc bs : Nat} {h : aH} {Q : Int32 → aH → Prop} {x1 : Int32} (S : SH h) (H : ((x1 < 0 → Q (nI 0) h) ∧ (¬ x1 < 0 → (((hI h 63 3) ≤ x1 → Q (nI 0) h) ∧ (¬ (hI h 63 3) ≤ x1 → Q (nI 1) h))))) : CI l E d bc bs mX12_isPerson [.inr (some (0, 12, 63)), .inl x1] h Q := by
  refine CI.of (by decide) rfl ?_
  show TI l E mX12_isPerson d bc bs 0 [some (.inr (some (0, 12, 63))), some (.inl x1)] [] h Q
  refine z_iload_n (pc := 0) dX12_isPerson_0 rfl rfl ?_
  refine z_if_lt (pc := 1) (tgt := 16) dX12_isPerson_1 (by decide) (fun c1 => ?_) (fun c1 => ?_)
  · replace H := H.1 c1
    refine z_iconst (pc := 16) (v := (nI 0)) dX12_isPerson_16 (by decide) ?_
    exact z_iret (pc := 17) dX12_isPerson_17 rfl rfl ⟨_, rfl, H⟩
  · replace H := H.2 c1
    refine z_iload_n (pc := 4) dX12_isPerson_4 rfl rfl ?_
    refine z_aload_n (pc := 5) dX12_isPerson_5 rfl rfl ?_
    refine z_geti (pc := 6) dX12_isPerson_6 fX12_123 rfl ?_
    refine z_icmp_ge (pc := 9) (tgt := 16) dX12_isPerson_9 (by decide) (fun c2 => ?_) (fun c2 => ?_)
    · replace H := H.1 c2
      refine z_iconst (pc := 16) (v := (nI 0)) dX12_isPerson_16 (by decide) ?_
      exact z_iret (pc := 17) dX12_isPerson_17 rfl rfl ⟨_, rfl, H⟩
    · replace H := H.2 c2
      refine z_iconst (pc := 12) (v := (nI 1)) dX12_isPerson_12 (by decide) ?_
      refine z_goto (pc := 13) (tgt := 17) dX12_isPerson_13 (by decide) ?_
      exact z_iret (pc := 17) dX12_isPerson_17 rfl rfl ⟨_, rfl, H⟩

set_option maxRecDepth 20000 in
theorem bX12_isSeries_0 {l : Launch} {E : eE} {d bc bs : Nat} {h : aH} {Q : Int32 → aH → Prop} {x1 : Int32} (S : SH h) (H : ((x1 < 0 → Q (nI 0) h) ∧ (¬ x1 < 0 → (((hI h 63 14) ≤ x1 → Q (nI 0) h) ∧ (¬ (hI h 63 14) ≤ x1 → Q (nI 1) h))))) : CI l E d bc bs mX12_isSeries [.inr (some (0, 12, 63)), .inl x1] h Q := by
  refine CI.of (by decide) rfl ?_
  show TI l E mX12_isSeries d bc bs 0 [some (.inr (some (0, 12, 63))), some (.inl x1)] [] h Q
  refine z_iload_n (pc := 0) dX12_isSeries_0 rfl rfl ?_
  refine z_if_lt (pc := 1) (tgt := 16) dX12_isSeries_1 (by decide) (fun c1 => ?_) (fun c1 => ?_)
  · replace H := H.1 c1
    refine z_iconst (pc := 16) (v := (nI 0)) dX12_isSeries_16 (by decide) ?_
    exact z_iret (pc := 17) dX12_isSeries_17 rfl rfl ⟨_, rfl, H⟩
  · replace H := H.2 c1
    refine z_iload_n (pc := 4) dX12_isSeries_4 rfl rfl ?_
    refine z_aload_n (pc := 5) dX12_isSeries_5 rfl rfl ?_
    refine z_geti (pc := 6) dX12_isSeries_6 fX12_126 rfl ?_
    refine z_icmp_ge (pc := 9) (tgt := 16) dX12_isSeries_9 (by decide) (fun c2 => ?_) (fun c2 => ?_)
    · replace H := H.1 c2
      refine z_iconst (pc := 16) (v := (nI 0)) dX12_isSeries_16 (by decide) ?_
      exact z_iret (pc := 17) dX12_isSeries_17 rfl rfl ⟨_, rfl, H⟩
    · replace H := H.2 c2
      refine z_iconst (pc := 12) (v := (nI 1)) dX12_isSeries_12 (by decide) ?_
      refine z_goto (pc := 13) (tgt := 17) dX12_isSeries_13 (by decide) ?_
      exact z_iret (pc := 17) dX12_isSeries_17 rfl rfl ⟨_, rfl, H⟩

set_option maxRecDepth 20000 in
theorem bX12_isWeek_0 {l : Launch} {E : eE} {d bc bs : Nat} {h : aH} {Q : Int32 → aH → Prop} {x0 : Int32} (S : SH h) (H : ((x0 < 0 → Q (nI 0) h) ∧ (¬ x0 < 0 → (((nI 52) ≤ x0 → Q (nI 0) h) ∧ (¬ (nI 52) ≤ x0 → Q (nI 1) h))))) : CI l E d bc bs mX12_isWeek [.inl x0] h Q := by
  refine CI.of (by decide) rfl ?_
  show TI l E mX12_isWeek d bc bs 0 [some (.inl x0)] [] h Q
  refine z_iload_n (pc := 0) dX12_isWeek_0 rfl rfl ?_
  refine z_if_lt (pc := 1) (tgt := 14) dX12_isWeek_1 (by decide) (fun c1 => ?_) (fun c1 => ?_)
  · replace H := H.1 c1
    refine z_iconst (pc := 14) (v := (nI 0)) dX12_isWeek_14 (by decide) ?_
    exact z_iret (pc := 15) dX12_isWeek_15 rfl rfl ⟨_, rfl, H⟩
  · replace H := H.2 c1
    refine z_iload_n (pc := 4) dX12_isWeek_4 rfl rfl ?_
    refine z_bipush (pc := 5) (v := (nI 52)) dX12_isWeek_5 (by decide) ?_
    refine z_icmp_ge (pc := 7) (tgt := 14) dX12_isWeek_7 (by decide) (fun c2 => ?_) (fun c2 => ?_)
    · replace H := H.1 c2
      refine z_iconst (pc := 14) (v := (nI 0)) dX12_isWeek_14 (by decide) ?_
      exact z_iret (pc := 15) dX12_isWeek_15 rfl rfl ⟨_, rfl, H⟩
    · replace H := H.2 c2
      refine z_iconst (pc := 10) (v := (nI 1)) dX12_isWeek_10 (by decide) ?_
      refine z_goto (pc := 11) (tgt := 15) dX12_isWeek_11 (by decide) ?_
      exact z_iret (pc := 15) dX12_isWeek_15 rfl rfl ⟨_, rfl, H⟩

set_option maxRecDepth 20000 in
theorem bX12_isKnown_0 {l : Launch} {E : eE} {d bc bs : Nat} {h : aH} {Q : Int32 → aH → Prop} {x1 : Int32} (S : SH h) (H : ((x1 < 0 → Q (nI 0) h) ∧ (¬ x1 < 0 → (((hI h 63 8) < x1 → Q (nI 0) h) ∧ (¬ (hI h 63 8) < x1 → Q (nI 1) h))))) : CI l E d bc bs mX12_isKnown [.inr (some (0, 12, 63)), .inl x1] h Q := by
  refine CI.of (by decide) rfl ?_
  show TI l E mX12_isKnown d bc bs 0 [some (.inr (some (0, 12, 63))), some (.inl x1)] [] h Q
  refine z_iload_n (pc := 0) dX12_isKnown_0 rfl rfl ?_
  refine z_if_lt (pc := 1) (tgt := 16) dX12_isKnown_1 (by decide) (fun c1 => ?_) (fun c1 => ?_)
  · replace H := H.1 c1
    refine z_iconst (pc := 16) (v := (nI 0)) dX12_isKnown_16 (by decide) ?_
    exact z_iret (pc := 17) dX12_isKnown_17 rfl rfl ⟨_, rfl, H⟩
  · replace H := H.2 c1
    refine z_iload_n (pc := 4) dX12_isKnown_4 rfl rfl ?_
    refine z_aload_n (pc := 5) dX12_isKnown_5 rfl rfl ?_
    refine z_geti (pc := 6) dX12_isKnown_6 fX12_129 rfl ?_
    refine z_icmp_gt (pc := 9) (tgt := 16) dX12_isKnown_9 (by decide) (fun c2 => ?_) (fun c2 => ?_)
    · replace H := H.1 c2
      refine z_iconst (pc := 16) (v := (nI 0)) dX12_isKnown_16 (by decide) ?_
      exact z_iret (pc := 17) dX12_isKnown_17 rfl rfl ⟨_, rfl, H⟩
    · replace H := H.2 c2
      refine z_iconst (pc := 12) (v := (nI 1)) dX12_isKnown_12 (by decide) ?_
      refine z_goto (pc := 13) (tgt := 17) dX12_isKnown_13 (by decide) ?_
      exact z_iret (pc := 17) dX12_isKnown_17 rfl rfl ⟨_, rfl, H⟩

set_option maxRecDepth 20000 in
theorem bX12_isOffset_0 {l : Launch} {E : eE} {d bc bs : Nat} {h : aH} {Q : Int32 → aH → Prop} {x0 : Int32} (S : SH h) (H : ((x0 < (-24) → Q (nI 0) h) ∧ (¬ x0 < (-24) → (((nI 28) < x0 → Q (nI 0) h) ∧ (¬ (nI 28) < x0 → Q (nI 1) h))))) : CI l E d bc bs mX12_isOffset [.inl x0] h Q := by
  refine CI.of (by decide) rfl ?_
  show TI l E mX12_isOffset d bc bs 0 [some (.inl x0)] [] h Q
  refine z_iload_n (pc := 0) dX12_isOffset_0 rfl rfl ?_
  refine z_bipush (pc := 1) (v := (-24)) dX12_isOffset_1 (by decide) ?_
  refine z_icmp_lt (pc := 3) (tgt := 16) dX12_isOffset_3 (by decide) (fun c1 => ?_) (fun c1 => ?_)
  · replace H := H.1 c1
    refine z_iconst (pc := 16) (v := (nI 0)) dX12_isOffset_16 (by decide) ?_
    exact z_iret (pc := 17) dX12_isOffset_17 rfl rfl ⟨_, rfl, H⟩
  · replace H := H.2 c1
    refine z_iload_n (pc := 6) dX12_isOffset_6 rfl rfl ?_
    refine z_bipush (pc := 7) (v := (nI 28)) dX12_isOffset_7 (by decide) ?_
    refine z_icmp_gt (pc := 9) (tgt := 16) dX12_isOffset_9 (by decide) (fun c2 => ?_) (fun c2 => ?_)
    · replace H := H.1 c2
      refine z_iconst (pc := 16) (v := (nI 0)) dX12_isOffset_16 (by decide) ?_
      exact z_iret (pc := 17) dX12_isOffset_17 rfl rfl ⟨_, rfl, H⟩
    · replace H := H.2 c2
      refine z_iconst (pc := 12) (v := (nI 1)) dX12_isOffset_12 (by decide) ?_
      refine z_goto (pc := 13) (tgt := 17) dX12_isOffset_13 (by decide) ?_
      exact z_iret (pc := 17) dX12_isOffset_17 rfl rfl ⟨_, rfl, H⟩

set_option maxRecDepth 20000 in
theorem bX12_fact_0 {l : Launch} {E : eE} {d bc bs : Nat} {h : aH} {Q : Int32 → aH → Prop} {x1 : Int32} {x2 : Int32} {x3 : Int32} {x4 : Int32} {x5 : Int32} (S : SH h) (H : (vp_in (hI h 63 8) 400 ∧ Q (((hI h 63 8) + (nI 1)) - (nI 1)) (stI (stA (stA (stA (stA (stA h 69 ((hI h 63 8)).toNatClampNeg x1) 70 ((hI h 63 8)).toNatClampNeg x2) 71 ((hI h 63 8)).toNatClampNeg x3) 72 ((hI h 63 8)).toNatClampNeg x4) 73 ((hI h 63 8)).toNatClampNeg (vp_nar .boolean x5)) 63 8 ((hI h 63 8) + (nI 1))))) : CI l E d bc bs mX12_fact [.inr (some (0, 12, 63)), .inl x1, .inl x2, .inl x3, .inl x4, .inl x5] h Q := by
  refine CI.of (by decide) rfl ?_
  show TI l E mX12_fact d bc bs 0 [some (.inr (some (0, 12, 63))), some (.inl x1), some (.inl x2), some (.inl x3), some (.inl x4), some (.inl x5)] [] h Q
  refine z_aload_n (pc := 0) dX12_fact_0 rfl rfl ?_
  refine z_getk (pc := 1) dX12_fact_1 fX12_29 rfl (s_63_9 S) ?_
  refine z_aload_n (pc := 4) dX12_fact_4 rfl rfl ?_
  refine z_geti (pc := 5) dX12_fact_5 fX12_129 rfl ?_
  refine z_iload_n (pc := 8) dX12_fact_8 rfl rfl ?_
  have c1 := H.1
  replace H := H.2
  refine z_iast (pc := 9) dX12_fact_9 c1 ?_
  refine z_aload_n (pc := 10) dX12_fact_10 rfl rfl ?_
  refine z_getk (pc := 11) dX12_fact_11 fX12_32 rfl (s_63_10 S) ?_
  refine z_aload_n (pc := 14) dX12_fact_14 rfl rfl ?_
  refine z_geti (pc := 15) dX12_fact_15 fX12_129 rfl ?_
  refine z_iload_n (pc := 18) dX12_fact_18 rfl rfl ?_
  refine z_iast (pc := 19) dX12_fact_19 c1 ?_
  refine z_aload_n (pc := 20) dX12_fact_20 rfl rfl ?_
  refine z_getk (pc := 21) dX12_fact_21 fX12_35 rfl (s_63_11 S) ?_
  refine z_aload_n (pc := 24) dX12_fact_24 rfl rfl ?_
  refine z_geti (pc := 25) dX12_fact_25 fX12_129 rfl ?_
  refine z_iload_n (pc := 28) dX12_fact_28 rfl rfl ?_
  refine z_iast (pc := 29) dX12_fact_29 c1 ?_
  refine z_aload_n (pc := 30) dX12_fact_30 rfl rfl ?_
  refine z_getk (pc := 31) dX12_fact_31 fX12_38 rfl (s_63_12 S) ?_
  refine z_aload_n (pc := 34) dX12_fact_34 rfl rfl ?_
  refine z_geti (pc := 35) dX12_fact_35 fX12_129 rfl ?_
  refine z_iload (pc := 38) dX12_fact_38 rfl ?_
  refine z_iast (pc := 40) dX12_fact_40 c1 ?_
  refine z_aload_n (pc := 41) dX12_fact_41 rfl rfl ?_
  refine z_getk (pc := 42) dX12_fact_42 fX12_41 rfl (s_63_13 S) ?_
  refine z_aload_n (pc := 45) dX12_fact_45 rfl rfl ?_
  refine z_geti (pc := 46) dX12_fact_46 fX12_129 rfl ?_
  refine z_iload (pc := 49) dX12_fact_49 rfl ?_
  refine z_zast (pc := 51) dX12_fact_51 c1 ?_
  refine z_aload_n (pc := 52) dX12_fact_52 rfl rfl ?_
  refine z_dup (pc := 53) dX12_fact_53 ?_
  refine z_geti (pc := 54) dX12_fact_54 fX12_129 rfl ?_
  refine z_iconst (pc := 57) (v := (nI 1)) dX12_fact_57 (by decide) ?_
  refine z_iadd (pc := 58) dX12_fact_58 ?_
  refine z_puti (pc := 59) dX12_fact_59 fX12_129 (uX12_8 _) rfl rfl rfl ?_
  refine z_aload_n (pc := 62) dX12_fact_62 rfl rfl ?_
  refine z_geti (pc := 63) dX12_fact_63 fX12_129 rfl ?_
  refine z_iconst (pc := 66) (v := (nI 1)) dX12_fact_66 (by decide) ?_
  refine z_isub (pc := 67) dX12_fact_67 ?_
  exact z_iret (pc := 68) dX12_fact_68 rfl rfl ⟨_, rfl, H⟩

abbrev LX12_offsetAt_6 (l : Launch) (E : eE) (d bc bs : Nat) (x1 : Int32) (x2 : Int32) (x3 : Int32) (x4 : Int32) (x5 : Int32) (h : aH) (Q : Int32 → aH → Prop) : Prop := TI l E mX12_offsetAt d bc bs 6 [some (.inr (some (0, 12, 63))), some (.inl x1), some (.inl x2), some (.inl x3), some (.inl x4), some (.inl x5)] [] h Q

set_option maxRecDepth 20000 in
theorem bX12_offsetAt_0 {l : Launch} {E : eE} {d bc bs : Nat} {h : aH} {Q : Int32 → aH → Prop} {x1 : Int32} {x2 : Int32} {x3 : Int32} (S : SH h) (H : LX12_offsetAt_6 l E d bc bs x1 x2 x3 (-1) (nI 0) h Q) : CI l E d bc bs mX12_offsetAt [.inr (some (0, 12, 63)), .inl x1, .inl x2, .inl x3] h Q := by
  refine CI.of (by decide) rfl ?_
  show TI l E mX12_offsetAt d bc bs 0 [some (.inr (some (0, 12, 63))), some (.inl x1), some (.inl x2), some (.inl x3), none, none] [] h Q
  refine z_iconst (pc := 0) (v := (-1)) dX12_offsetAt_0 (by decide) ?_
  refine z_istore (pc := 1) (ls' := [some (.inr (some (0, 12, 63))), some (.inl x1), some (.inl x2), some (.inl x3), some (.inl (-1)), none]) dX12_offsetAt_1 rfl rfl ?_
  refine z_iconst (pc := 3) (v := (nI 0)) dX12_offsetAt_3 (by decide) ?_
  refine z_istore (pc := 4) (ls' := [some (.inr (some (0, 12, 63))), some (.inl x1), some (.inl x2), some (.inl x3), some (.inl (-1)), some (.inl (nI 0))]) dX12_offsetAt_4 rfl rfl ?_
  exact H

set_option maxRecDepth 20000 in
theorem bX12_offsetAt_6 {l : Launch} {E : eE} {d bc bs : Nat} {h : aH} {Q : Int32 → aH → Prop} {x1 : Int32} {x2 : Int32} {x3 : Int32} {x4 : Int32} {x5 : Int32} (S : SH h) (H : ((x3 ≤ x5 → ((¬ x4 = (-1) → (vp_in x4 400 ∧ Q (hA h 72 (x4).toNatClampNeg) h)) ∧ (x4 = (-1) → (vp_in x1 8 ∧ Q (hA h 64 (x1).toNatClampNeg) h)))) ∧ (¬ x3 ≤ x5 → (vp_in x5 400 ∧ ((¬ (hA h 69 (x5).toNatClampNeg) = 0 → LX12_offsetAt_6 l E d bc bs x1 x2 x3 x4 (x5 + (nI 1)) h Q) ∧ ((hA h 69 (x5).toNatClampNeg) = 0 → ((¬ (hA h 70 (x5).toNatClampNeg) = x1 → LX12_offsetAt_6 l E d bc bs x1 x2 x3 x4 (x5 + (nI 1)) h Q) ∧ ((hA h 70 (x5).toNatClampNeg) = x1 → ((x2 < (hA h 71 (x5).toNatClampNeg) → LX12_offsetAt_6 l E d bc bs x1 x2 x3 x4 (x5 + (nI 1)) h Q) ∧ (¬ x2 < (hA h 71 (x5).toNatClampNeg) → ((x4 = (-1) → LX12_offsetAt_6 l E d bc bs x1 x2 x3 x5 (x5 + (nI 1)) h Q) ∧ (¬ x4 = (-1) → (vp_in x4 400 ∧ (((hA h 71 (x5).toNatClampNeg) < (hA h 71 (x4).toNatClampNeg) → LX12_offsetAt_6 l E d bc bs x1 x2 x3 x4 (x5 + (nI 1)) h Q) ∧ (¬ (hA h 71 (x5).toNatClampNeg) < (hA h 71 (x4).toNatClampNeg) → LX12_offsetAt_6 l E d bc bs x1 x2 x3 x5 (x5 + (nI 1)) h Q))))))))))))))) : LX12_offsetAt_6 l E d bc bs x1 x2 x3 x4 x5 h Q := by
  refine z_iload (pc := 6) dX12_offsetAt_6 rfl ?_
  refine z_iload_n (pc := 8) dX12_offsetAt_8 rfl rfl ?_
  refine z_icmp_ge (pc := 9) (tgt := 77) dX12_offsetAt_9 (by decide) (fun c1 => ?_) (fun c1 => ?_)
  · replace H := H.1 c1
    refine z_iload (pc := 77) dX12_offsetAt_77 rfl ?_
    refine z_iconst (pc := 79) (v := (-1)) dX12_offsetAt_79 (by decide) ?_
    refine z_icmp_ne (pc := 80) (tgt := 92) dX12_offsetAt_80 (by decide) (fun c2 => ?_) (fun c2 => ?_)
    · replace H := H.1 c2
      refine z_aload_n (pc := 92) dX12_offsetAt_92 rfl rfl ?_
      refine z_getk (pc := 93) dX12_offsetAt_93 fX12_38 rfl (s_63_12 S) ?_
      refine z_iload (pc := 96) dX12_offsetAt_96 rfl ?_
      have c3 := H.1
      replace H := H.2
      refine z_iald (pc := 98) dX12_offsetAt_98 c3 ?_
      exact z_iret (pc := 99) dX12_offsetAt_99 rfl rfl ⟨_, rfl, H⟩
    · replace H := H.2 c2
      refine z_aload_n (pc := 83) dX12_offsetAt_83 rfl rfl ?_
      refine z_getk (pc := 84) dX12_offsetAt_84 fX12_13 rfl (s_63_2 S) ?_
      refine z_iload_n (pc := 87) dX12_offsetAt_87 rfl rfl ?_
      have c4 := H.1
      replace H := H.2
      refine z_iald (pc := 88) dX12_offsetAt_88 c4 ?_
      refine z_goto (pc := 89) (tgt := 99) dX12_offsetAt_89 (by decide) ?_
      exact z_iret (pc := 99) dX12_offsetAt_99 rfl rfl ⟨_, rfl, H⟩
  · replace H := H.2 c1
    refine z_aload_n (pc := 12) dX12_offsetAt_12 rfl rfl ?_
    refine z_getk (pc := 13) dX12_offsetAt_13 fX12_29 rfl (s_63_9 S) ?_
    refine z_iload (pc := 16) dX12_offsetAt_16 rfl ?_
    have c5 := H.1
    replace H := H.2
    refine z_iald (pc := 18) dX12_offsetAt_18 c5 ?_
    refine z_if_ne (pc := 19) (tgt := 71) dX12_offsetAt_19 (by decide) (fun c6 => ?_) (fun c6 => ?_)
    · replace H := H.1 c6
      refine z_iinc (pc := 71) (v := (x5 + (nI 1))) (ls' := [some (.inr (some (0, 12, 63))), some (.inl x1), some (.inl x2), some (.inl x3), some (.inl x4), some (.inl (x5 + (nI 1)))]) dX12_offsetAt_71 rfl (by rw [show Int32.ofInt (1) = (nI 1) by decide]) rfl ?_
      refine z_goto (pc := 74) (tgt := 6) dX12_offsetAt_74 (by decide) ?_
      exact H
    · replace H := H.2 c6
      refine z_aload_n (pc := 22) dX12_offsetAt_22 rfl rfl ?_
      refine z_getk (pc := 23) dX12_offsetAt_23 fX12_32 rfl (s_63_10 S) ?_
      refine z_iload (pc := 26) dX12_offsetAt_26 rfl ?_
      refine z_iald (pc := 28) dX12_offsetAt_28 c5 ?_
      refine z_iload_n (pc := 29) dX12_offsetAt_29 rfl rfl ?_
      refine z_icmp_ne (pc := 30) (tgt := 71) dX12_offsetAt_30 (by decide) (fun c7 => ?_) (fun c7 => ?_)
      · replace H := H.1 c7
        refine z_iinc (pc := 71) (v := (x5 + (nI 1))) (ls' := [some (.inr (some (0, 12, 63))), some (.inl x1), some (.inl x2), some (.inl x3), some (.inl x4), some (.inl (x5 + (nI 1)))]) dX12_offsetAt_71 rfl (by rw [show Int32.ofInt (1) = (nI 1) by decide]) rfl ?_
        refine z_goto (pc := 74) (tgt := 6) dX12_offsetAt_74 (by decide) ?_
        exact H
      · replace H := H.2 c7
        refine z_aload_n (pc := 33) dX12_offsetAt_33 rfl rfl ?_
        refine z_getk (pc := 34) dX12_offsetAt_34 fX12_35 rfl (s_63_11 S) ?_
        refine z_iload (pc := 37) dX12_offsetAt_37 rfl ?_
        refine z_iald (pc := 39) dX12_offsetAt_39 c5 ?_
        refine z_iload_n (pc := 40) dX12_offsetAt_40 rfl rfl ?_
        refine z_icmp_gt (pc := 41) (tgt := 71) dX12_offsetAt_41 (by decide) (fun c8 => ?_) (fun c8 => ?_)
        · replace H := H.1 c8
          refine z_iinc (pc := 71) (v := (x5 + (nI 1))) (ls' := [some (.inr (some (0, 12, 63))), some (.inl x1), some (.inl x2), some (.inl x3), some (.inl x4), some (.inl (x5 + (nI 1)))]) dX12_offsetAt_71 rfl (by rw [show Int32.ofInt (1) = (nI 1) by decide]) rfl ?_
          refine z_goto (pc := 74) (tgt := 6) dX12_offsetAt_74 (by decide) ?_
          exact H
        · replace H := H.2 c8
          refine z_iload (pc := 44) dX12_offsetAt_44 rfl ?_
          refine z_iconst (pc := 46) (v := (-1)) dX12_offsetAt_46 (by decide) ?_
          refine z_icmp_eq (pc := 47) (tgt := 67) dX12_offsetAt_47 (by decide) (fun c9 => ?_) (fun c9 => ?_)
          · replace H := H.1 c9
            refine z_iload (pc := 67) dX12_offsetAt_67 rfl ?_
            refine z_istore (pc := 69) (ls' := [some (.inr (some (0, 12, 63))), some (.inl x1), some (.inl x2), some (.inl x3), some (.inl x5), some (.inl x5)]) dX12_offsetAt_69 rfl rfl ?_
            refine z_iinc (pc := 71) (v := (x5 + (nI 1))) (ls' := [some (.inr (some (0, 12, 63))), some (.inl x1), some (.inl x2), some (.inl x3), some (.inl x5), some (.inl (x5 + (nI 1)))]) dX12_offsetAt_71 rfl (by rw [show Int32.ofInt (1) = (nI 1) by decide]) rfl ?_
            refine z_goto (pc := 74) (tgt := 6) dX12_offsetAt_74 (by decide) ?_
            exact H
          · replace H := H.2 c9
            refine z_aload_n (pc := 50) dX12_offsetAt_50 rfl rfl ?_
            refine z_getk (pc := 51) dX12_offsetAt_51 fX12_35 rfl (s_63_11 S) ?_
            refine z_iload (pc := 54) dX12_offsetAt_54 rfl ?_
            refine z_iald (pc := 56) dX12_offsetAt_56 c5 ?_
            refine z_aload_n (pc := 57) dX12_offsetAt_57 rfl rfl ?_
            refine z_getk (pc := 58) dX12_offsetAt_58 fX12_35 rfl (s_63_11 S) ?_
            refine z_iload (pc := 61) dX12_offsetAt_61 rfl ?_
            have c10 := H.1
            replace H := H.2
            refine z_iald (pc := 63) dX12_offsetAt_63 c10 ?_
            refine z_icmp_lt (pc := 64) (tgt := 71) dX12_offsetAt_64 (by decide) (fun c11 => ?_) (fun c11 => ?_)
            · replace H := H.1 c11
              refine z_iinc (pc := 71) (v := (x5 + (nI 1))) (ls' := [some (.inr (some (0, 12, 63))), some (.inl x1), some (.inl x2), some (.inl x3), some (.inl x4), some (.inl (x5 + (nI 1)))]) dX12_offsetAt_71 rfl (by rw [show Int32.ofInt (1) = (nI 1) by decide]) rfl ?_
              refine z_goto (pc := 74) (tgt := 6) dX12_offsetAt_74 (by decide) ?_
              exact H
            · replace H := H.2 c11
              refine z_iload (pc := 67) dX12_offsetAt_67 rfl ?_
              refine z_istore (pc := 69) (ls' := [some (.inr (some (0, 12, 63))), some (.inl x1), some (.inl x2), some (.inl x3), some (.inl x5), some (.inl x5)]) dX12_offsetAt_69 rfl rfl ?_
              refine z_iinc (pc := 71) (v := (x5 + (nI 1))) (ls' := [some (.inr (some (0, 12, 63))), some (.inl x1), some (.inl x2), some (.inl x3), some (.inl x5), some (.inl (x5 + (nI 1)))]) dX12_offsetAt_71 rfl (by rw [show Int32.ofInt (1) = (nI 1) by decide]) rfl ?_
              refine z_goto (pc := 74) (tgt := 6) dX12_offsetAt_74 (by decide) ?_
              exact H

set_option maxRecDepth 20000 in
theorem bX12_down_0 {l : Launch} {E : eE} {d bc bs : Nat} {h : aH} {Q : Int32 → aH → Prop} {x0 : Int32} {x1 : Int32} (S : SH h) (H : (¬ x1 = 0 ∧ (¬ x1 = 0 ∧ ((0 ≤ (x0 - x0 / x1 * x1) → Q (x0 / x1) h) ∧ (¬ 0 ≤ (x0 - x0 / x1 * x1) → Q ((x0 / x1) - (nI 1)) h))))) : CI l E d bc bs mX12_down [.inl x0, .inl x1] h Q := by
  refine CI.of (by decide) rfl ?_
  show TI l E mX12_down d bc bs 0 [some (.inl x0), some (.inl x1), none] [] h Q
  refine z_iload_n (pc := 0) dX12_down_0 rfl rfl ?_
  refine z_iload_n (pc := 1) dX12_down_1 rfl rfl ?_
  refine z_idiv (pc := 2) dX12_down_2 H.1 ?_
  replace H := H.2
  refine z_istore_n (pc := 3) (ls' := [some (.inl x0), some (.inl x1), some (.inl (x0 / x1))]) dX12_down_3 rfl rfl rfl ?_
  refine z_iload_n (pc := 4) dX12_down_4 rfl rfl ?_
  refine z_iload_n (pc := 5) dX12_down_5 rfl rfl ?_
  refine z_irem (pc := 6) dX12_down_6 H.1 ?_
  replace H := H.2
  refine z_if_ge (pc := 7) (tgt := 16) dX12_down_7 (by decide) (fun c1 => ?_) (fun c1 => ?_)
  · replace H := H.1 c1
    refine z_iload_n (pc := 16) dX12_down_16 rfl rfl ?_
    exact z_iret (pc := 17) dX12_down_17 rfl rfl ⟨_, rfl, H⟩
  · replace H := H.2 c1
    refine z_iload_n (pc := 10) dX12_down_10 rfl rfl ?_
    refine z_iconst (pc := 11) (v := (nI 1)) dX12_down_11 (by decide) ?_
    refine z_isub (pc := 12) dX12_down_12 ?_
    refine z_goto (pc := 13) (tgt := 17) dX12_down_13 (by decide) ?_
    exact z_iret (pc := 17) dX12_down_17 rfl rfl ⟨_, rfl, H⟩

set_option maxRecDepth 20000 in
theorem bX12_costAt_0 {l : Launch} {E : eE} {d bc bs : Nat} {h : aH} {Q : Int32 → aH → Prop} {x1 : Int32} {x2 : Int32} (S : SH h) (H : (vp_in x1 12 ∧ ((¬ (hA h 67 (x1).toNatClampNeg) = (-1) → (((hA h 67 (x1).toNatClampNeg) ≤ x2 → (vp_in (((nI 48) * x1) + ((hA h 67 (x1).toNatClampNeg) - (nI 1))) 576 ∧ Q (hA h 68 ((((nI 48) * x1) + ((hA h 67 (x1).toNatClampNeg) - (nI 1)))).toNatClampNeg) h)) ∧ (¬ (hA h 67 (x1).toNatClampNeg) ≤ x2 → (vp_in (((nI 48) * x1) + x2) 576 ∧ Q (hA h 68 ((((nI 48) * x1) + x2)).toNatClampNeg) h)))) ∧ ((hA h 67 (x1).toNatClampNeg) = (-1) → Q (nI 0) h)))) : CI l E d bc bs mX12_costAt [.inr (some (0, 12, 63)), .inl x1, .inl x2] h Q := by
  refine CI.of (by decide) rfl ?_
  show TI l E mX12_costAt d bc bs 0 [some (.inr (some (0, 12, 63))), some (.inl x1), some (.inl x2)] [] h Q
  refine z_aload_n (pc := 0) dX12_costAt_0 rfl rfl ?_
  refine z_getk (pc := 1) dX12_costAt_1 fX12_23 rfl (s_63_6 S) ?_
  refine z_iload_n (pc := 4) dX12_costAt_4 rfl rfl ?_
  have c1 := H.1
  replace H := H.2
  refine z_iald (pc := 5) dX12_costAt_5 c1 ?_
  refine z_iconst (pc := 6) (v := (-1)) dX12_costAt_6 (by decide) ?_
  refine z_icmp_ne (pc := 7) (tgt := 12) dX12_costAt_7 (by decide) (fun c2 => ?_) (fun c2 => ?_)
  · replace H := H.1 c2
    refine z_aload_n (pc := 12) dX12_costAt_12 rfl rfl ?_
    refine z_getk (pc := 13) dX12_costAt_13 fX12_26 rfl (s_63_7 S) ?_
    refine z_bipush (pc := 16) (v := (nI 48)) dX12_costAt_16 (by decide) ?_
    refine z_iload_n (pc := 18) dX12_costAt_18 rfl rfl ?_
    refine z_imul (pc := 19) dX12_costAt_19 ?_
    refine z_iload_n (pc := 20) dX12_costAt_20 rfl rfl ?_
    refine z_aload_n (pc := 21) dX12_costAt_21 rfl rfl ?_
    refine z_getk (pc := 22) dX12_costAt_22 fX12_23 rfl (s_63_6 S) ?_
    refine z_iload_n (pc := 25) dX12_costAt_25 rfl rfl ?_
    refine z_iald (pc := 26) dX12_costAt_26 c1 ?_
    refine z_icmp_ge (pc := 27) (tgt := 34) dX12_costAt_27 (by decide) (fun c3 => ?_) (fun c3 => ?_)
    · replace H := H.1 c3
      refine z_aload_n (pc := 34) dX12_costAt_34 rfl rfl ?_
      refine z_getk (pc := 35) dX12_costAt_35 fX12_23 rfl (s_63_6 S) ?_
      refine z_iload_n (pc := 38) dX12_costAt_38 rfl rfl ?_
      refine z_iald (pc := 39) dX12_costAt_39 c1 ?_
      refine z_iconst (pc := 40) (v := (nI 1)) dX12_costAt_40 (by decide) ?_
      refine z_isub (pc := 41) dX12_costAt_41 ?_
      refine z_iadd (pc := 42) dX12_costAt_42 ?_
      have c4 := H.1
      replace H := H.2
      refine z_iald (pc := 43) dX12_costAt_43 c4 ?_
      exact z_iret (pc := 44) dX12_costAt_44 rfl rfl ⟨_, rfl, H⟩
    · replace H := H.2 c3
      refine z_iload_n (pc := 30) dX12_costAt_30 rfl rfl ?_
      refine z_goto (pc := 31) (tgt := 42) dX12_costAt_31 (by decide) ?_
      refine z_iadd (pc := 42) dX12_costAt_42 ?_
      have c5 := H.1
      replace H := H.2
      refine z_iald (pc := 43) dX12_costAt_43 c5 ?_
      exact z_iret (pc := 44) dX12_costAt_44 rfl rfl ⟨_, rfl, H⟩
  · replace H := H.2 c2
    refine z_iconst (pc := 10) (v := (nI 0)) dX12_costAt_10 (by decide) ?_
    exact z_iret (pc := 11) dX12_costAt_11 rfl rfl ⟨_, rfl, H⟩

set_option maxRecDepth 20000 in
theorem bX12_slotOf_0 {l : Launch} {E : eE} {d bc bs : Nat} {h : aH} {Q : Int32 → aH → Prop} {x1 : Int32} {x2 : Int32} (S : SH h) (H : (vp_in (((nI 6) * x1) + x2) 24 ∧ Q (((nI 336) * (hI h 63 22)) + (hA h 78 ((((nI 6) * x1) + x2)).toNatClampNeg)) h)) : CI l E d bc bs mX12_slotOf [.inr (some (0, 12, 63)), .inl x1, .inl x2] h Q := by
  refine CI.of (by decide) rfl ?_
  show TI l E mX12_slotOf d bc bs 0 [some (.inr (some (0, 12, 63))), some (.inl x1), some (.inl x2)] [] h Q
  refine z_sipush (pc := 0) (v := (nI 336)) dX12_slotOf_0 (by decide) ?_
  refine z_aload_n (pc := 3) dX12_slotOf_3 rfl rfl ?_
  refine z_geti (pc := 4) dX12_slotOf_4 fX12_181 rfl ?_
  refine z_imul (pc := 7) dX12_slotOf_7 ?_
  refine z_aload_n (pc := 8) dX12_slotOf_8 rfl rfl ?_
  refine z_getk (pc := 9) dX12_slotOf_9 fX12_57 rfl (s_63_19 S) ?_
  refine z_bipush (pc := 12) (v := (nI 6)) dX12_slotOf_12 (by decide) ?_
  refine z_iload_n (pc := 14) dX12_slotOf_14 rfl rfl ?_
  refine z_imul (pc := 15) dX12_slotOf_15 ?_
  refine z_iload_n (pc := 16) dX12_slotOf_16 rfl rfl ?_
  refine z_iadd (pc := 17) dX12_slotOf_17 ?_
  have c1 := H.1
  replace H := H.2
  refine z_iald (pc := 18) dX12_slotOf_18 c1 ?_
  refine z_iadd (pc := 19) dX12_slotOf_19 ?_
  exact z_iret (pc := 20) dX12_slotOf_20 rfl rfl ⟨_, rfl, H⟩

abbrev LX12_takesWeek_12 (l : Launch) (E : eE) (d bc bs : Nat) (x1 : Int32) (x2 : Int32) (x3 : Int32) (h : aH) (Q : aH → Prop) : Prop := TV l E mX12_takesWeek d bc bs 12 [some (.inr (some (0, 12, 63))), some (.inl x1), some (.inl x2), some (.inl x3)] [] h Q

set_option maxRecDepth 20000 in
theorem bX12_takesWeek_0 {l : Launch} {E : eE} {d bc bs : Nat} {h : aH} {Q : aH → Prop} {x1 : Int32} {x2 : Int32} (S : SH h) (H : LX12_takesWeek_12 l E d bc bs x1 x2 (nI 0) (stI (stI h 63 22 x1) 63 23 x2) Q) : CV l E d bc bs mX12_takesWeek [.inr (some (0, 12, 63)), .inl x1, .inl x2] h Q := by
  refine CV.of (by decide) rfl ?_
  show TV l E mX12_takesWeek d bc bs 0 [some (.inr (some (0, 12, 63))), some (.inl x1), some (.inl x2), none] [] h Q
  refine z_aload_n (pc := 0) dX12_takesWeek_0 rfl rfl ?_
  refine z_iload_n (pc := 1) dX12_takesWeek_1 rfl rfl ?_
  refine z_puti (pc := 2) dX12_takesWeek_2 fX12_181 (uX12_22 _) rfl rfl rfl ?_
  refine z_aload_n (pc := 5) dX12_takesWeek_5 rfl rfl ?_
  refine z_iload_n (pc := 6) dX12_takesWeek_6 rfl rfl ?_
  refine z_puti (pc := 7) dX12_takesWeek_7 fX12_187 (uX12_23 _) rfl rfl rfl ?_
  refine z_iconst (pc := 10) (v := (nI 0)) dX12_takesWeek_10 (by decide) ?_
  refine z_istore_n (pc := 11) (ls' := [some (.inr (some (0, 12, 63))), some (.inl x1), some (.inl x2), some (.inl (nI 0))]) dX12_takesWeek_11 rfl rfl rfl ?_
  exact H

set_option maxRecDepth 20000 in
theorem bX12_takesWeek_12 {l : Launch} {E : eE} {d bc bs : Nat} {h : aH} {Q : aH → Prop} {x1 : Int32} {x2 : Int32} {x3 : Int32} (S : SH h) (H : (((nI 4) ≤ x3 → Q h) ∧ (¬ (nI 4) ≤ x3 → (vp_in ((nI 2) * (((nI 52) * x3) + x1)) 416 ∧ (vp_in x3 4 ∧ (vp_in (((nI 2) * (((nI 52) * x3) + x1)) + (nI 1)) 416 ∧ LX12_takesWeek_12 l E d bc bs x1 x2 (x3 + (nI 1)) (stA (stA h 81 (x3).toNatClampNeg (hA h 80 (((nI 2) * (((nI 52) * x3) + x1))).toNatClampNeg)) 82 (x3).toNatClampNeg (hA h 80 ((((nI 2) * (((nI 52) * x3) + x1)) + (nI 1))).toNatClampNeg)) Q)))))) : LX12_takesWeek_12 l E d bc bs x1 x2 x3 h Q := by
  refine z_iload_n (pc := 12) dX12_takesWeek_12 rfl rfl ?_
  refine z_iconst (pc := 13) (v := (nI 4)) dX12_takesWeek_13 (by decide) ?_
  refine z_icmp_ge (pc := 14) (tgt := 63) dX12_takesWeek_14 (by decide) (fun c1 => ?_) (fun c1 => ?_)
  · replace H := H.1 c1
    exact z_ret (pc := 63) dX12_takesWeek_63 rfl ⟨rfl, H⟩
  · replace H := H.2 c1
    refine z_aload_n (pc := 17) dX12_takesWeek_17 rfl rfl ?_
    refine z_getk (pc := 18) dX12_takesWeek_18 fX12_66 rfl (s_63_24 S) ?_
    refine z_iload_n (pc := 21) dX12_takesWeek_21 rfl rfl ?_
    refine z_aload_n (pc := 22) dX12_takesWeek_22 rfl rfl ?_
    refine z_getk (pc := 23) dX12_takesWeek_23 fX12_63 rfl (s_63_21 S) ?_
    refine z_iconst (pc := 26) (v := (nI 2)) dX12_takesWeek_26 (by decide) ?_
    refine z_bipush (pc := 27) (v := (nI 52)) dX12_takesWeek_27 (by decide) ?_
    refine z_iload_n (pc := 29) dX12_takesWeek_29 rfl rfl ?_
    refine z_imul (pc := 30) dX12_takesWeek_30 ?_
    refine z_iload_n (pc := 31) dX12_takesWeek_31 rfl rfl ?_
    refine z_iadd (pc := 32) dX12_takesWeek_32 ?_
    refine z_imul (pc := 33) dX12_takesWeek_33 ?_
    have c2 := H.1
    replace H := H.2
    refine z_iald (pc := 34) dX12_takesWeek_34 c2 ?_
    have c3 := H.1
    replace H := H.2
    refine z_iast (pc := 35) dX12_takesWeek_35 c3 ?_
    refine z_aload_n (pc := 36) dX12_takesWeek_36 rfl rfl ?_
    refine z_getk (pc := 37) dX12_takesWeek_37 fX12_69 rfl (s_63_25 S) ?_
    refine z_iload_n (pc := 40) dX12_takesWeek_40 rfl rfl ?_
    refine z_aload_n (pc := 41) dX12_takesWeek_41 rfl rfl ?_
    refine z_getk (pc := 42) dX12_takesWeek_42 fX12_63 rfl (s_63_21 S) ?_
    refine z_iconst (pc := 45) (v := (nI 2)) dX12_takesWeek_45 (by decide) ?_
    refine z_bipush (pc := 46) (v := (nI 52)) dX12_takesWeek_46 (by decide) ?_
    refine z_iload_n (pc := 48) dX12_takesWeek_48 rfl rfl ?_
    refine z_imul (pc := 49) dX12_takesWeek_49 ?_
    refine z_iload_n (pc := 50) dX12_takesWeek_50 rfl rfl ?_
    refine z_iadd (pc := 51) dX12_takesWeek_51 ?_
    refine z_imul (pc := 52) dX12_takesWeek_52 ?_
    refine z_iconst (pc := 53) (v := (nI 1)) dX12_takesWeek_53 (by decide) ?_
    refine z_iadd (pc := 54) dX12_takesWeek_54 ?_
    have c4 := H.1
    replace H := H.2
    refine z_iald (pc := 55) dX12_takesWeek_55 c4 ?_
    refine z_iast (pc := 56) dX12_takesWeek_56 c3 ?_
    refine z_iinc (pc := 57) (v := (x3 + (nI 1))) (ls' := [some (.inr (some (0, 12, 63))), some (.inl x1), some (.inl x2), some (.inl (x3 + (nI 1)))]) dX12_takesWeek_57 rfl (by rw [show Int32.ofInt (1) = (nI 1) by decide]) rfl ?_
    refine z_goto (pc := 60) (tgt := 12) dX12_takesWeek_60 (by decide) ?_
    exact H

set_option maxRecDepth 20000 in
theorem bX12_isPair_0 {l : Launch} {E : eE} {d bc bs : Nat} {h : aH} {Q : Int32 → aH → Prop} {x1 : Int32} {x2 : Int32} {x3 : Int32} (S : SH h) (H : ((x2 < 0 → Q (nI 0) h) ∧ (¬ x2 < 0 → (vp_in x1 4 ∧ ((x2 < (hA h 77 (x1).toNatClampNeg) → ((¬ (hA h 76 (x1).toNatClampNeg) = (-1) → ((x3 ≤ x2 → Q (nI 0) h) ∧ (¬ x3 ≤ x2 → (((hA h 77 (x1).toNatClampNeg) ≤ x3 → Q (nI 0) h) ∧ (¬ (hA h 77 (x1).toNatClampNeg) ≤ x3 → Q (nI 1) h))))) ∧ ((hA h 76 (x1).toNatClampNeg) = (-1) → ((¬ x3 = (-1) → Q (nI 0) h) ∧ (x3 = (-1) → Q (nI 1) h))))) ∧ (¬ x2 < (hA h 77 (x1).toNatClampNeg) → Q (nI 0) h)))))) : CI l E d bc bs mX12_isPair [.inr (some (0, 12, 63)), .inl x1, .inl x2, .inl x3] h Q := by
  refine CI.of (by decide) rfl ?_
  show TI l E mX12_isPair d bc bs 0 [some (.inr (some (0, 12, 63))), some (.inl x1), some (.inl x2), some (.inl x3)] [] h Q
  refine z_iload_n (pc := 0) dX12_isPair_0 rfl rfl ?_
  refine z_if_lt (pc := 1) (tgt := 14) dX12_isPair_1 (by decide) (fun c1 => ?_) (fun c1 => ?_)
  · replace H := H.1 c1
    refine z_iconst (pc := 14) (v := (nI 0)) dX12_isPair_14 (by decide) ?_
    exact z_iret (pc := 15) dX12_isPair_15 rfl rfl ⟨_, rfl, H⟩
  · replace H := H.2 c1
    refine z_iload_n (pc := 4) dX12_isPair_4 rfl rfl ?_
    refine z_aload_n (pc := 5) dX12_isPair_5 rfl rfl ?_
    refine z_getk (pc := 6) dX12_isPair_6 fX12_54 rfl (s_63_18 S) ?_
    refine z_iload_n (pc := 9) dX12_isPair_9 rfl rfl ?_
    have c2 := H.1
    replace H := H.2
    refine z_iald (pc := 10) dX12_isPair_10 c2 ?_
    refine z_icmp_lt (pc := 11) (tgt := 16) dX12_isPair_11 (by decide) (fun c3 => ?_) (fun c3 => ?_)
    · replace H := H.1 c3
      refine z_aload_n (pc := 16) dX12_isPair_16 rfl rfl ?_
      refine z_getk (pc := 17) dX12_isPair_17 fX12_51 rfl (s_63_17 S) ?_
      refine z_iload_n (pc := 20) dX12_isPair_20 rfl rfl ?_
      refine z_iald (pc := 21) dX12_isPair_21 c2 ?_
      refine z_iconst (pc := 22) (v := (-1)) dX12_isPair_22 (by decide) ?_
      refine z_icmp_ne (pc := 23) (tgt := 39) dX12_isPair_23 (by decide) (fun c4 => ?_) (fun c4 => ?_)
      · replace H := H.1 c4
        refine z_iload_n (pc := 39) dX12_isPair_39 rfl rfl ?_
        refine z_iload_n (pc := 40) dX12_isPair_40 rfl rfl ?_
        refine z_icmp_ge (pc := 41) (tgt := 58) dX12_isPair_41 (by decide) (fun c5 => ?_) (fun c5 => ?_)
        · replace H := H.1 c5
          refine z_iconst (pc := 58) (v := (nI 0)) dX12_isPair_58 (by decide) ?_
          exact z_iret (pc := 59) dX12_isPair_59 rfl rfl ⟨_, rfl, H⟩
        · replace H := H.2 c5
          refine z_iload_n (pc := 44) dX12_isPair_44 rfl rfl ?_
          refine z_aload_n (pc := 45) dX12_isPair_45 rfl rfl ?_
          refine z_getk (pc := 46) dX12_isPair_46 fX12_54 rfl (s_63_18 S) ?_
          refine z_iload_n (pc := 49) dX12_isPair_49 rfl rfl ?_
          refine z_iald (pc := 50) dX12_isPair_50 c2 ?_
          refine z_icmp_ge (pc := 51) (tgt := 58) dX12_isPair_51 (by decide) (fun c6 => ?_) (fun c6 => ?_)
          · replace H := H.1 c6
            refine z_iconst (pc := 58) (v := (nI 0)) dX12_isPair_58 (by decide) ?_
            exact z_iret (pc := 59) dX12_isPair_59 rfl rfl ⟨_, rfl, H⟩
          · replace H := H.2 c6
            refine z_iconst (pc := 54) (v := (nI 1)) dX12_isPair_54 (by decide) ?_
            refine z_goto (pc := 55) (tgt := 59) dX12_isPair_55 (by decide) ?_
            exact z_iret (pc := 59) dX12_isPair_59 rfl rfl ⟨_, rfl, H⟩
      · replace H := H.2 c4
        refine z_iload_n (pc := 26) dX12_isPair_26 rfl rfl ?_
        refine z_iconst (pc := 27) (v := (-1)) dX12_isPair_27 (by decide) ?_
        refine z_icmp_ne (pc := 28) (tgt := 35) dX12_isPair_28 (by decide) (fun c7 => ?_) (fun c7 => ?_)
        · replace H := H.1 c7
          refine z_iconst (pc := 35) (v := (nI 0)) dX12_isPair_35 (by decide) ?_
          refine z_goto (pc := 36) (tgt := 59) dX12_isPair_36 (by decide) ?_
          exact z_iret (pc := 59) dX12_isPair_59 rfl rfl ⟨_, rfl, H⟩
        · replace H := H.2 c7
          refine z_iconst (pc := 31) (v := (nI 1)) dX12_isPair_31 (by decide) ?_
          refine z_goto (pc := 32) (tgt := 59) dX12_isPair_32 (by decide) ?_
          exact z_iret (pc := 59) dX12_isPair_59 rfl rfl ⟨_, rfl, H⟩
    · replace H := H.2 c3
      refine z_iconst (pc := 14) (v := (nI 0)) dX12_isPair_14 (by decide) ?_
      exact z_iret (pc := 15) dX12_isPair_15 rfl rfl ⟨_, rfl, H⟩

abbrev LX12_lists_9 (l : Launch) (E : eE) (d bc bs : Nat) (x1 : Int32) (x2 : Int32) (h : aH) (Q : aH → Prop) : Prop := TV l E mX12_lists d bc bs 9 [some (.inr (some (0, 12, 63))), some (.inl x1), some (.inl x2), none, none] [] h Q

abbrev LX12_lists_37 (l : Launch) (E : eE) (d bc bs : Nat) (x1 : Int32) (x2 : Int32) (x3 : Int32) (h : aH) (Q : aH → Prop) : Prop := TV l E mX12_lists d bc bs 37 [some (.inr (some (0, 12, 63))), some (.inl x1), some (.inl x2), some (.inl x3), none] [] h Q

set_option maxRecDepth 20000 in
theorem bX12_lists_0 {l : Launch} {E : eE} {d bc bs : Nat} {h : aH} {Q : aH → Prop} {x1 : Int32} (S : SH h) (H : (vp_in x1 4 ∧ LX12_lists_9 l E d bc bs x1 (nI 0) (stA h 87 (x1).toNatClampNeg (nI 0)) Q)) : CV l E d bc bs mX12_lists [.inr (some (0, 12, 63)), .inl x1] h Q := by
  refine CV.of (by decide) rfl ?_
  show TV l E mX12_lists d bc bs 0 [some (.inr (some (0, 12, 63))), some (.inl x1), none, none, none] [] h Q
  refine z_aload_n (pc := 0) dX12_lists_0 rfl rfl ?_
  refine z_getk (pc := 1) dX12_lists_1 fX12_84 rfl (s_63_30 S) ?_
  refine z_iload_n (pc := 4) dX12_lists_4 rfl rfl ?_
  refine z_iconst (pc := 5) (v := (nI 0)) dX12_lists_5 (by decide) ?_
  have c1 := H.1
  replace H := H.2
  refine z_iast (pc := 6) dX12_lists_6 c1 ?_
  refine z_iconst (pc := 7) (v := (nI 0)) dX12_lists_7 (by decide) ?_
  refine z_istore_n (pc := 8) (ls' := [some (.inr (some (0, 12, 63))), some (.inl x1), some (.inl (nI 0)), none, none]) dX12_lists_8 rfl rfl rfl ?_
  exact H

set_option maxRecDepth 20000 in
theorem bX12_lists_9 {l : Launch} {E : eE} {d bc bs : Nat} {h : aH} {Q : aH → Prop} {x1 : Int32} {x2 : Int32} (S : SH h) (H : (vp_in x1 4 ∧ (((hA h 77 (x1).toNatClampNeg) ≤ x2 → Q h) ∧ (¬ (hA h 77 (x1).toNatClampNeg) ≤ x2 → ((¬ (hA h 76 (x1).toNatClampNeg) = (-1) → LX12_lists_37 l E d bc bs x1 x2 (x2 + (nI 1)) h Q) ∧ ((hA h 76 (x1).toNatClampNeg) = (-1) → LX12_lists_37 l E d bc bs x1 x2 (-1) h Q)))))) : LX12_lists_9 l E d bc bs x1 x2 h Q := by
  refine z_iload_n (pc := 9) dX12_lists_9 rfl rfl ?_
  refine z_aload_n (pc := 10) dX12_lists_10 rfl rfl ?_
  refine z_getk (pc := 11) dX12_lists_11 fX12_54 rfl (s_63_18 S) ?_
  refine z_iload_n (pc := 14) dX12_lists_14 rfl rfl ?_
  have c1 := H.1
  replace H := H.2
  refine z_iald (pc := 15) dX12_lists_15 c1 ?_
  refine z_icmp_ge (pc := 16) (tgt := 111) dX12_lists_16 (by decide) (fun c2 => ?_) (fun c2 => ?_)
  · replace H := H.1 c2
    exact z_ret (pc := 111) dX12_lists_111 rfl ⟨rfl, H⟩
  · replace H := H.2 c2
    refine z_aload_n (pc := 19) dX12_lists_19 rfl rfl ?_
    refine z_getk (pc := 20) dX12_lists_20 fX12_51 rfl (s_63_17 S) ?_
    refine z_iload_n (pc := 23) dX12_lists_23 rfl rfl ?_
    refine z_iald (pc := 24) dX12_lists_24 c1 ?_
    refine z_iconst (pc := 25) (v := (-1)) dX12_lists_25 (by decide) ?_
    refine z_icmp_ne (pc := 26) (tgt := 33) dX12_lists_26 (by decide) (fun c3 => ?_) (fun c3 => ?_)
    · replace H := H.1 c3
      refine z_iload_n (pc := 33) dX12_lists_33 rfl rfl ?_
      refine z_iconst (pc := 34) (v := (nI 1)) dX12_lists_34 (by decide) ?_
      refine z_iadd (pc := 35) dX12_lists_35 ?_
      refine z_istore_n (pc := 36) (ls' := [some (.inr (some (0, 12, 63))), some (.inl x1), some (.inl x2), some (.inl (x2 + (nI 1))), none]) dX12_lists_36 rfl rfl rfl ?_
      exact H
    · replace H := H.2 c3
      refine z_iconst (pc := 29) (v := (-1)) dX12_lists_29 (by decide) ?_
      refine z_goto (pc := 30) (tgt := 36) dX12_lists_30 (by decide) ?_
      refine z_istore_n (pc := 36) (ls' := [some (.inr (some (0, 12, 63))), some (.inl x1), some (.inl x2), some (.inl (-1)), none]) dX12_lists_36 rfl rfl rfl ?_
      exact H

set_option maxRecDepth 20000 in
theorem bX12_lists_37 {l : Launch} {E : eE} {d bc bs : Nat} {h : aH} {Q : aH → Prop} {x1 : Int32} {x2 : Int32} {x3 : Int32} (S : SH h) (H : (vp_in x1 4 ∧ (((hA h 77 (x1).toNatClampNeg) ≤ x3 → LX12_lists_9 l E d bc bs x1 (x2 + (nI 1)) h Q) ∧ (¬ (hA h 77 (x1).toNatClampNeg) ≤ x3 → (vp_in (((nI 15) * x1) + (hA h 87 (x1).toNatClampNeg)) 60 ∧ ((¬ (hA h 76 (x1).toNatClampNeg) = (-1) → LX12_lists_37 l E d bc bs x1 x2 (x3 + (nI 1)) (stA (stA (stA h 85 ((((nI 15) * x1) + (hA h 87 (x1).toNatClampNeg))).toNatClampNeg x2) 86 ((((nI 15) * x1) + (hA h 87 (x1).toNatClampNeg))).toNatClampNeg x3) 87 (x1).toNatClampNeg ((hA h 87 (x1).toNatClampNeg) + (nI 1))) Q) ∧ ((hA h 76 (x1).toNatClampNeg) = (-1) → LX12_lists_9 l E d bc bs x1 (x2 + (nI 1)) (stA (stA (stA h 85 ((((nI 15) * x1) + (hA h 87 (x1).toNatClampNeg))).toNatClampNeg x2) 86 ((((nI 15) * x1) + (hA h 87 (x1).toNatClampNeg))).toNatClampNeg x3) 87 (x1).toNatClampNeg ((hA h 87 (x1).toNatClampNeg) + (nI 1))) Q))))))) : LX12_lists_37 l E d bc bs x1 x2 x3 h Q := by
  refine z_iload_n (pc := 37) dX12_lists_37 rfl rfl ?_
  refine z_aload_n (pc := 38) dX12_lists_38 rfl rfl ?_
  refine z_getk (pc := 39) dX12_lists_39 fX12_54 rfl (s_63_18 S) ?_
  refine z_iload_n (pc := 42) dX12_lists_42 rfl rfl ?_
  have c1 := H.1
  replace H := H.2
  refine z_iald (pc := 43) dX12_lists_43 c1 ?_
  refine z_icmp_ge (pc := 44) (tgt := 105) dX12_lists_44 (by decide) (fun c2 => ?_) (fun c2 => ?_)
  · replace H := H.1 c2
    refine z_iinc (pc := 105) (v := (x2 + (nI 1))) (ls' := [some (.inr (some (0, 12, 63))), some (.inl x1), some (.inl (x2 + (nI 1))), some (.inl x3), none]) dX12_lists_105 rfl (by rw [show Int32.ofInt (1) = (nI 1) by decide]) rfl ?_
    refine z_goto (pc := 108) (tgt := 9) dX12_lists_108 (by decide) ?_
    exact z_drop (ls' := [some (.inr (some (0, 12, 63))), some (.inl x1), some (.inl (x2 + (nI 1))), none, none]) (by simp [dropL]) H
  · replace H := H.2 c2
    refine z_bipush (pc := 47) (v := (nI 15)) dX12_lists_47 (by decide) ?_
    refine z_iload_n (pc := 49) dX12_lists_49 rfl rfl ?_
    refine z_imul (pc := 50) dX12_lists_50 ?_
    refine z_aload_n (pc := 51) dX12_lists_51 rfl rfl ?_
    refine z_getk (pc := 52) dX12_lists_52 fX12_84 rfl (s_63_30 S) ?_
    refine z_iload_n (pc := 55) dX12_lists_55 rfl rfl ?_
    refine z_iald (pc := 56) dX12_lists_56 c1 ?_
    refine z_iadd (pc := 57) dX12_lists_57 ?_
    refine z_istore (pc := 58) (ls' := [some (.inr (some (0, 12, 63))), some (.inl x1), some (.inl x2), some (.inl x3), some (.inl (((nI 15) * x1) + (hA h 87 (x1).toNatClampNeg)))]) dX12_lists_58 rfl rfl ?_
    refine z_aload_n (pc := 60) dX12_lists_60 rfl rfl ?_
    refine z_getk (pc := 61) dX12_lists_61 fX12_78 rfl (s_63_28 S) ?_
    refine z_iload (pc := 64) dX12_lists_64 rfl ?_
    refine z_iload_n (pc := 66) dX12_lists_66 rfl rfl ?_
    have c3 := H.1
    replace H := H.2
    refine z_iast (pc := 67) dX12_lists_67 c3 ?_
    refine z_aload_n (pc := 68) dX12_lists_68 rfl rfl ?_
    refine z_getk (pc := 69) dX12_lists_69 fX12_81 rfl (s_63_29 S) ?_
    refine z_iload (pc := 72) dX12_lists_72 rfl ?_
    refine z_iload_n (pc := 74) dX12_lists_74 rfl rfl ?_
    refine z_iast (pc := 75) dX12_lists_75 c3 ?_
    refine z_aload_n (pc := 76) dX12_lists_76 rfl rfl ?_
    refine z_getk (pc := 77) dX12_lists_77 fX12_84 rfl (s_63_30 S) ?_
    refine z_iload_n (pc := 80) dX12_lists_80 rfl rfl ?_
    refine z_dup2 (pc := 81) dX12_lists_81 ?_
    refine z_iald (pc := 82) dX12_lists_82 c1 ?_
    refine z_iconst (pc := 83) (v := (nI 1)) dX12_lists_83 (by decide) ?_
    refine z_iadd (pc := 84) dX12_lists_84 ?_
    refine z_iast (pc := 85) dX12_lists_85 c1 ?_
    refine z_aload_n (pc := 86) dX12_lists_86 rfl rfl ?_
    refine z_getk (pc := 87) dX12_lists_87 fX12_51 rfl (s_63_17 S) ?_
    refine z_iload_n (pc := 90) dX12_lists_90 rfl rfl ?_
    refine z_iald (pc := 91) dX12_lists_91 c1 ?_
    refine z_iconst (pc := 92) (v := (-1)) dX12_lists_92 (by decide) ?_
    refine z_icmp_ne (pc := 93) (tgt := 99) dX12_lists_93 (by decide) (fun c4 => ?_) (fun c4 => ?_)
    · replace H := H.1 c4
      refine z_iinc (pc := 99) (v := (x3 + (nI 1))) (ls' := [some (.inr (some (0, 12, 63))), some (.inl x1), some (.inl x2), some (.inl (x3 + (nI 1))), some (.inl (((nI 15) * x1) + (hA h 87 (x1).toNatClampNeg)))]) dX12_lists_99 rfl (by rw [show Int32.ofInt (1) = (nI 1) by decide]) rfl ?_
      refine z_goto (pc := 102) (tgt := 37) dX12_lists_102 (by decide) ?_
      exact z_drop (ls' := [some (.inr (some (0, 12, 63))), some (.inl x1), some (.inl x2), some (.inl (x3 + (nI 1))), none]) (by simp [dropL]) H
    · replace H := H.2 c4
      refine z_goto (pc := 96) (tgt := 105) dX12_lists_96 (by decide) ?_
      refine z_iinc (pc := 105) (v := (x2 + (nI 1))) (ls' := [some (.inr (some (0, 12, 63))), some (.inl x1), some (.inl (x2 + (nI 1))), some (.inl x3), some (.inl (((nI 15) * x1) + (hA h 87 (x1).toNatClampNeg)))]) dX12_lists_105 rfl (by rw [show Int32.ofInt (1) = (nI 1) by decide]) rfl ?_
      refine z_goto (pc := 108) (tgt := 9) dX12_lists_108 (by decide) ?_
      exact z_drop (ls' := [some (.inr (some (0, 12, 63))), some (.inl x1), some (.inl (x2 + (nI 1))), none, none]) (by simp [dropL]) H

abbrev LX12_sorts_2 (l : Launch) (E : eE) (d bc bs : Nat) (x1 : Int32) (h : aH) (Q : aH → Prop) : Prop := TV l E mX12_sorts d bc bs 2 [some (.inr (some (0, 12, 63))), some (.inl x1), none] [] h Q

abbrev LX12_sorts_12 (l : Launch) (E : eE) (d bc bs : Nat) (x1 : Int32) (x2 : Int32) (h : aH) (Q : aH → Prop) : Prop := TV l E mX12_sorts d bc bs 12 [some (.inr (some (0, 12, 63))), some (.inl x1), some (.inl x2)] [] h Q

set_option maxRecDepth 20000 in
theorem bX12_sorts_0 {l : Launch} {E : eE} {d bc bs : Nat} {h : aH} {Q : aH → Prop}  (S : SH h) (H : LX12_sorts_2 l E d bc bs (nI 0) h Q) : CV l E d bc bs mX12_sorts [.inr (some (0, 12, 63))] h Q := by
  refine CV.of (by decide) rfl ?_
  show TV l E mX12_sorts d bc bs 0 [some (.inr (some (0, 12, 63))), none, none] [] h Q
  refine z_iconst (pc := 0) (v := (nI 0)) dX12_sorts_0 (by decide) ?_
  refine z_istore_n (pc := 1) (ls' := [some (.inr (some (0, 12, 63))), some (.inl (nI 0)), none]) dX12_sorts_1 rfl rfl rfl ?_
  exact H

set_option maxRecDepth 20000 in
theorem bX12_sorts_2 {l : Launch} {E : eE} {d bc bs : Nat} {h : aH} {Q : aH → Prop} {x1 : Int32} (S : SH h) (H : (((hI h 63 3) ≤ x1 → Q h) ∧ (¬ (hI h 63 3) ≤ x1 → LX12_sorts_12 l E d bc bs x1 x1 h Q))) : LX12_sorts_2 l E d bc bs x1 h Q := by
  refine z_iload_n (pc := 2) dX12_sorts_2 rfl rfl ?_
  refine z_aload_n (pc := 3) dX12_sorts_3 rfl rfl ?_
  refine z_geti (pc := 4) dX12_sorts_4 fX12_123 rfl ?_
  refine z_icmp_ge (pc := 7) (tgt := 71) dX12_sorts_7 (by decide) (fun c1 => ?_) (fun c1 => ?_)
  · replace H := H.1 c1
    exact z_ret (pc := 71) dX12_sorts_71 rfl ⟨rfl, H⟩
  · replace H := H.2 c1
    refine z_iload_n (pc := 10) dX12_sorts_10 rfl rfl ?_
    refine z_istore_n (pc := 11) (ls' := [some (.inr (some (0, 12, 63))), some (.inl x1), some (.inl x1)]) dX12_sorts_11 rfl rfl rfl ?_
    exact H

set_option maxRecDepth 20000 in
theorem bX12_sorts_12 {l : Launch} {E : eE} {d bc bs : Nat} {h : aH} {Q : aH → Prop} {x1 : Int32} {x2 : Int32} (S : SH h) (H : ((x2 ≤ 0 → (vp_in x1 12 ∧ (vp_in x2 12 ∧ LX12_sorts_2 l E d bc bs (x1 + (nI 1)) (stA h 89 (x2).toNatClampNeg (hA h 88 (x1).toNatClampNeg)) Q))) ∧ (¬ x2 ≤ 0 → (vp_in (x2 - (nI 1)) 12 ∧ (vp_in x1 12 ∧ (((hA h 88 (x1).toNatClampNeg) ≤ (hA h 89 ((x2 - (nI 1))).toNatClampNeg) → (vp_in x2 12 ∧ LX12_sorts_2 l E d bc bs (x1 + (nI 1)) (stA h 89 (x2).toNatClampNeg (hA h 88 (x1).toNatClampNeg)) Q)) ∧ (¬ (hA h 88 (x1).toNatClampNeg) ≤ (hA h 89 ((x2 - (nI 1))).toNatClampNeg) → (vp_in x2 12 ∧ LX12_sorts_12 l E d bc bs x1 (x2 + (-1)) (stA h 89 (x2).toNatClampNeg (hA h 89 ((x2 - (nI 1))).toNatClampNeg)) Q)))))))) : LX12_sorts_12 l E d bc bs x1 x2 h Q := by
  refine z_iload_n (pc := 12) dX12_sorts_12 rfl rfl ?_
  refine z_if_le (pc := 13) (tgt := 53) dX12_sorts_13 (by decide) (fun c1 => ?_) (fun c1 => ?_)
  · replace H := H.1 c1
    refine z_aload_n (pc := 53) dX12_sorts_53 rfl rfl ?_
    refine z_getk (pc := 54) dX12_sorts_54 fX12_90 rfl (s_63_32 S) ?_
    refine z_iload_n (pc := 57) dX12_sorts_57 rfl rfl ?_
    refine z_aload_n (pc := 58) dX12_sorts_58 rfl rfl ?_
    refine z_getk (pc := 59) dX12_sorts_59 fX12_87 rfl (s_63_31 S) ?_
    refine z_iload_n (pc := 62) dX12_sorts_62 rfl rfl ?_
    have c2 := H.1
    replace H := H.2
    refine z_iald (pc := 63) dX12_sorts_63 c2 ?_
    have c3 := H.1
    replace H := H.2
    refine z_iast (pc := 64) dX12_sorts_64 c3 ?_
    refine z_iinc (pc := 65) (v := (x1 + (nI 1))) (ls' := [some (.inr (some (0, 12, 63))), some (.inl (x1 + (nI 1))), some (.inl x2)]) dX12_sorts_65 rfl (by rw [show Int32.ofInt (1) = (nI 1) by decide]) rfl ?_
    refine z_goto (pc := 68) (tgt := 2) dX12_sorts_68 (by decide) ?_
    exact z_drop (ls' := [some (.inr (some (0, 12, 63))), some (.inl (x1 + (nI 1))), none]) (by simp [dropL]) H
  · replace H := H.2 c1
    refine z_aload_n (pc := 16) dX12_sorts_16 rfl rfl ?_
    refine z_getk (pc := 17) dX12_sorts_17 fX12_90 rfl (s_63_32 S) ?_
    refine z_iload_n (pc := 20) dX12_sorts_20 rfl rfl ?_
    refine z_iconst (pc := 21) (v := (nI 1)) dX12_sorts_21 (by decide) ?_
    refine z_isub (pc := 22) dX12_sorts_22 ?_
    have c4 := H.1
    replace H := H.2
    refine z_iald (pc := 23) dX12_sorts_23 c4 ?_
    refine z_aload_n (pc := 24) dX12_sorts_24 rfl rfl ?_
    refine z_getk (pc := 25) dX12_sorts_25 fX12_87 rfl (s_63_31 S) ?_
    refine z_iload_n (pc := 28) dX12_sorts_28 rfl rfl ?_
    have c5 := H.1
    replace H := H.2
    refine z_iald (pc := 29) dX12_sorts_29 c5 ?_
    refine z_icmp_ge (pc := 30) (tgt := 53) dX12_sorts_30 (by decide) (fun c6 => ?_) (fun c6 => ?_)
    · replace H := H.1 c6
      refine z_aload_n (pc := 53) dX12_sorts_53 rfl rfl ?_
      refine z_getk (pc := 54) dX12_sorts_54 fX12_90 rfl (s_63_32 S) ?_
      refine z_iload_n (pc := 57) dX12_sorts_57 rfl rfl ?_
      refine z_aload_n (pc := 58) dX12_sorts_58 rfl rfl ?_
      refine z_getk (pc := 59) dX12_sorts_59 fX12_87 rfl (s_63_31 S) ?_
      refine z_iload_n (pc := 62) dX12_sorts_62 rfl rfl ?_
      refine z_iald (pc := 63) dX12_sorts_63 c5 ?_
      have c7 := H.1
      replace H := H.2
      refine z_iast (pc := 64) dX12_sorts_64 c7 ?_
      refine z_iinc (pc := 65) (v := (x1 + (nI 1))) (ls' := [some (.inr (some (0, 12, 63))), some (.inl (x1 + (nI 1))), some (.inl x2)]) dX12_sorts_65 rfl (by rw [show Int32.ofInt (1) = (nI 1) by decide]) rfl ?_
      refine z_goto (pc := 68) (tgt := 2) dX12_sorts_68 (by decide) ?_
      exact z_drop (ls' := [some (.inr (some (0, 12, 63))), some (.inl (x1 + (nI 1))), none]) (by simp [dropL]) H
    · replace H := H.2 c6
      refine z_aload_n (pc := 33) dX12_sorts_33 rfl rfl ?_
      refine z_getk (pc := 34) dX12_sorts_34 fX12_90 rfl (s_63_32 S) ?_
      refine z_iload_n (pc := 37) dX12_sorts_37 rfl rfl ?_
      refine z_aload_n (pc := 38) dX12_sorts_38 rfl rfl ?_
      refine z_getk (pc := 39) dX12_sorts_39 fX12_90 rfl (s_63_32 S) ?_
      refine z_iload_n (pc := 42) dX12_sorts_42 rfl rfl ?_
      refine z_iconst (pc := 43) (v := (nI 1)) dX12_sorts_43 (by decide) ?_
      refine z_isub (pc := 44) dX12_sorts_44 ?_
      refine z_iald (pc := 45) dX12_sorts_45 c4 ?_
      have c8 := H.1
      replace H := H.2
      refine z_iast (pc := 46) dX12_sorts_46 c8 ?_
      refine z_iinc (pc := 47) (v := (x2 + (-1))) (ls' := [some (.inr (some (0, 12, 63))), some (.inl x1), some (.inl (x2 + (-1)))]) dX12_sorts_47 rfl (by rw [show Int32.ofInt (-1) = (-1) by decide]) rfl ?_
      refine z_goto (pc := 50) (tgt := 12) dX12_sorts_50 (by decide) ?_
      exact H

abbrev LX12_isLess_2 (l : Launch) (E : eE) (d bc bs : Nat) (x1 : Int32) (h : aH) (Q : Int32 → aH → Prop) : Prop := TI l E mX12_isLess d bc bs 2 [some (.inr (some (0, 12, 63))), some (.inl x1)] [] h Q

set_option maxRecDepth 20000 in
theorem bX12_isLess_0 {l : Launch} {E : eE} {d bc bs : Nat} {h : aH} {Q : Int32 → aH → Prop}  (S : SH h) (H : LX12_isLess_2 l E d bc bs (nI 0) h Q) : CI l E d bc bs mX12_isLess [.inr (some (0, 12, 63))] h Q := by
  refine CI.of (by decide) rfl ?_
  show TI l E mX12_isLess d bc bs 0 [some (.inr (some (0, 12, 63))), none] [] h Q
  refine z_iconst (pc := 0) (v := (nI 0)) dX12_isLess_0 (by decide) ?_
  refine z_istore_n (pc := 1) (ls' := [some (.inr (some (0, 12, 63))), some (.inl (nI 0))]) dX12_isLess_1 rfl rfl rfl ?_
  exact H

set_option maxRecDepth 20000 in
theorem bX12_isLess_2 {l : Launch} {E : eE} {d bc bs : Nat} {h : aH} {Q : Int32 → aH → Prop} {x1 : Int32} (S : SH h) (H : (((hI h 63 3) ≤ x1 → Q (nI 0) h) ∧ (¬ (hI h 63 3) ≤ x1 → (vp_in x1 12 ∧ (((hA h 89 (x1).toNatClampNeg) = (hA h 90 (x1).toNatClampNeg) → LX12_isLess_2 l E d bc bs (x1 + (nI 1)) h Q) ∧ (¬ (hA h 89 (x1).toNatClampNeg) = (hA h 90 (x1).toNatClampNeg) → (((hA h 90 (x1).toNatClampNeg) ≤ (hA h 89 (x1).toNatClampNeg) → Q (nI 0) h) ∧ (¬ (hA h 90 (x1).toNatClampNeg) ≤ (hA h 89 (x1).toNatClampNeg) → Q (nI 1) h)))))))) : LX12_isLess_2 l E d bc bs x1 h Q := by
  refine z_iload_n (pc := 2) dX12_isLess_2 rfl rfl ?_
  refine z_aload_n (pc := 3) dX12_isLess_3 rfl rfl ?_
  refine z_geti (pc := 4) dX12_isLess_4 fX12_123 rfl ?_
  refine z_icmp_ge (pc := 7) (tgt := 52) dX12_isLess_7 (by decide) (fun c1 => ?_) (fun c1 => ?_)
  · replace H := H.1 c1
    refine z_iconst (pc := 52) (v := (nI 0)) dX12_isLess_52 (by decide) ?_
    exact z_iret (pc := 53) dX12_isLess_53 rfl rfl ⟨_, rfl, H⟩
  · replace H := H.2 c1
    refine z_aload_n (pc := 10) dX12_isLess_10 rfl rfl ?_
    refine z_getk (pc := 11) dX12_isLess_11 fX12_90 rfl (s_63_32 S) ?_
    refine z_iload_n (pc := 14) dX12_isLess_14 rfl rfl ?_
    have c2 := H.1
    replace H := H.2
    refine z_iald (pc := 15) dX12_isLess_15 c2 ?_
    refine z_aload_n (pc := 16) dX12_isLess_16 rfl rfl ?_
    refine z_getk (pc := 17) dX12_isLess_17 fX12_93 rfl (s_63_33 S) ?_
    refine z_iload_n (pc := 20) dX12_isLess_20 rfl rfl ?_
    refine z_iald (pc := 21) dX12_isLess_21 c2 ?_
    refine z_icmp_eq (pc := 22) (tgt := 46) dX12_isLess_22 (by decide) (fun c3 => ?_) (fun c3 => ?_)
    · replace H := H.1 c3
      refine z_iinc (pc := 46) (v := (x1 + (nI 1))) (ls' := [some (.inr (some (0, 12, 63))), some (.inl (x1 + (nI 1)))]) dX12_isLess_46 rfl (by rw [show Int32.ofInt (1) = (nI 1) by decide]) rfl ?_
      refine z_goto (pc := 49) (tgt := 2) dX12_isLess_49 (by decide) ?_
      exact H
    · replace H := H.2 c3
      refine z_aload_n (pc := 25) dX12_isLess_25 rfl rfl ?_
      refine z_getk (pc := 26) dX12_isLess_26 fX12_90 rfl (s_63_32 S) ?_
      refine z_iload_n (pc := 29) dX12_isLess_29 rfl rfl ?_
      refine z_iald (pc := 30) dX12_isLess_30 c2 ?_
      refine z_aload_n (pc := 31) dX12_isLess_31 rfl rfl ?_
      refine z_getk (pc := 32) dX12_isLess_32 fX12_93 rfl (s_63_33 S) ?_
      refine z_iload_n (pc := 35) dX12_isLess_35 rfl rfl ?_
      refine z_iald (pc := 36) dX12_isLess_36 c2 ?_
      refine z_icmp_ge (pc := 37) (tgt := 44) dX12_isLess_37 (by decide) (fun c4 => ?_) (fun c4 => ?_)
      · replace H := H.1 c4
        refine z_iconst (pc := 44) (v := (nI 0)) dX12_isLess_44 (by decide) ?_
        exact z_iret (pc := 45) dX12_isLess_45 rfl rfl ⟨_, rfl, H⟩
      · replace H := H.2 c4
        refine z_iconst (pc := 40) (v := (nI 1)) dX12_isLess_40 (by decide) ?_
        refine z_goto (pc := 41) (tgt := 45) dX12_isLess_41 (by decide) ?_
        exact z_iret (pc := 45) dX12_isLess_45 rfl rfl ⟨_, rfl, H⟩

abbrev LX12_isBest_2 (l : Launch) (E : eE) (d bc bs : Nat) (x1 : Int32) (h : aH) (Q : aH → Prop) : Prop := TV l E mX12_isBest d bc bs 2 [some (.inr (some (0, 12, 63))), some (.inl x1)] [] h Q

set_option maxRecDepth 20000 in
theorem bX12_isBest_0 {l : Launch} {E : eE} {d bc bs : Nat} {h : aH} {Q : aH → Prop}  (S : SH h) (H : LX12_isBest_2 l E d bc bs (nI 0) h Q) : CV l E d bc bs mX12_isBest [.inr (some (0, 12, 63))] h Q := by
  refine CV.of (by decide) rfl ?_
  show TV l E mX12_isBest d bc bs 0 [some (.inr (some (0, 12, 63))), none] [] h Q
  refine z_iconst (pc := 0) (v := (nI 0)) dX12_isBest_0 (by decide) ?_
  refine z_istore_n (pc := 1) (ls' := [some (.inr (some (0, 12, 63))), some (.inl (nI 0))]) dX12_isBest_1 rfl rfl rfl ?_
  exact H

set_option maxRecDepth 20000 in
theorem bX12_isBest_2 {l : Launch} {E : eE} {d bc bs : Nat} {h : aH} {Q : aH → Prop} {x1 : Int32} (S : SH h) (H : (((hI h 63 3) ≤ x1 → Q h) ∧ (¬ (hI h 63 3) ≤ x1 → (vp_in x1 12 ∧ LX12_isBest_2 l E d bc bs (x1 + (nI 1)) (stA h 90 (x1).toNatClampNeg (hA h 89 (x1).toNatClampNeg)) Q)))) : LX12_isBest_2 l E d bc bs x1 h Q := by
  refine z_iload_n (pc := 2) dX12_isBest_2 rfl rfl ?_
  refine z_aload_n (pc := 3) dX12_isBest_3 rfl rfl ?_
  refine z_geti (pc := 4) dX12_isBest_4 fX12_123 rfl ?_
  refine z_icmp_ge (pc := 7) (tgt := 28) dX12_isBest_7 (by decide) (fun c1 => ?_) (fun c1 => ?_)
  · replace H := H.1 c1
    exact z_ret (pc := 28) dX12_isBest_28 rfl ⟨rfl, H⟩
  · replace H := H.2 c1
    refine z_aload_n (pc := 10) dX12_isBest_10 rfl rfl ?_
    refine z_getk (pc := 11) dX12_isBest_11 fX12_93 rfl (s_63_33 S) ?_
    refine z_iload_n (pc := 14) dX12_isBest_14 rfl rfl ?_
    refine z_aload_n (pc := 15) dX12_isBest_15 rfl rfl ?_
    refine z_getk (pc := 16) dX12_isBest_16 fX12_90 rfl (s_63_32 S) ?_
    refine z_iload_n (pc := 19) dX12_isBest_19 rfl rfl ?_
    have c2 := H.1
    replace H := H.2
    refine z_iald (pc := 20) dX12_isBest_20 c2 ?_
    refine z_iast (pc := 21) dX12_isBest_21 c2 ?_
    refine z_iinc (pc := 22) (v := (x1 + (nI 1))) (ls' := [some (.inr (some (0, 12, 63))), some (.inl (x1 + (nI 1)))]) dX12_isBest_22 rfl (by rw [show Int32.ofInt (1) = (nI 1) by decide]) rfl ?_
    refine z_goto (pc := 25) (tgt := 2) dX12_isBest_25 (by decide) ?_
    exact H

abbrev LX12_bits_4 (l : Launch) (E : eE) (d bc bs : Nat) (x0 : Int32) (x1 : Int32) (x2 : Int32) (h : aH) (Q : Int32 → aH → Prop) : Prop := TI l E mX12_bits d bc bs 4 [some (.inl x0), some (.inl x1), some (.inl x2)] [] h Q

set_option maxRecDepth 20000 in
theorem bX12_bits_0 {l : Launch} {E : eE} {d bc bs : Nat} {h : aH} {Q : Int32 → aH → Prop} {x0 : Int32} (S : SH h) (H : LX12_bits_4 l E d bc bs x0 (nI 0) (nI 0) h Q) : CI l E d bc bs mX12_bits [.inl x0] h Q := by
  refine CI.of (by decide) rfl ?_
  show TI l E mX12_bits d bc bs 0 [some (.inl x0), none, none] [] h Q
  refine z_iconst (pc := 0) (v := (nI 0)) dX12_bits_0 (by decide) ?_
  refine z_istore_n (pc := 1) (ls' := [some (.inl x0), some (.inl (nI 0)), none]) dX12_bits_1 rfl rfl rfl ?_
  refine z_iconst (pc := 2) (v := (nI 0)) dX12_bits_2 (by decide) ?_
  refine z_istore_n (pc := 3) (ls' := [some (.inl x0), some (.inl (nI 0)), some (.inl (nI 0))]) dX12_bits_3 rfl rfl rfl ?_
  exact H

set_option maxRecDepth 20000 in
theorem bX12_bits_4 {l : Launch} {E : eE} {d bc bs : Nat} {h : aH} {Q : Int32 → aH → Prop} {x0 : Int32} {x1 : Int32} {x2 : Int32} (S : SH h) (H : (((nI 12) ≤ x2 → Q x1 h) ∧ (¬ (nI 12) ≤ x2 → LX12_bits_4 l E d bc bs x0 (x1 + ((x0 >>> (x2 &&& 31)) &&& (nI 1))) (x2 + (nI 1)) h Q))) : LX12_bits_4 l E d bc bs x0 x1 x2 h Q := by
  refine z_iload_n (pc := 4) dX12_bits_4 rfl rfl ?_
  refine z_bipush (pc := 5) (v := (nI 12)) dX12_bits_5 (by decide) ?_
  refine z_icmp_ge (pc := 7) (tgt := 24) dX12_bits_7 (by decide) (fun c1 => ?_) (fun c1 => ?_)
  · replace H := H.1 c1
    refine z_iload_n (pc := 24) dX12_bits_24 rfl rfl ?_
    exact z_iret (pc := 25) dX12_bits_25 rfl rfl ⟨_, rfl, H⟩
  · replace H := H.2 c1
    refine z_iload_n (pc := 10) dX12_bits_10 rfl rfl ?_
    refine z_iload_n (pc := 11) dX12_bits_11 rfl rfl ?_
    refine z_iload_n (pc := 12) dX12_bits_12 rfl rfl ?_
    refine z_ishr (pc := 13) dX12_bits_13 ?_
    refine z_iconst (pc := 14) (v := (nI 1)) dX12_bits_14 (by decide) ?_
    refine z_iand (pc := 15) dX12_bits_15 ?_
    refine z_iadd (pc := 16) dX12_bits_16 ?_
    refine z_istore_n (pc := 17) (ls' := [some (.inl x0), some (.inl (x1 + ((x0 >>> (x2 &&& 31)) &&& (nI 1)))), some (.inl x2)]) dX12_bits_17 rfl rfl rfl ?_
    refine z_iinc (pc := 18) (v := (x2 + (nI 1))) (ls' := [some (.inl x0), some (.inl (x1 + ((x0 >>> (x2 &&& 31)) &&& (nI 1)))), some (.inl (x2 + (nI 1)))]) dX12_bits_18 rfl (by rw [show Int32.ofInt (1) = (nI 1) by decide]) rfl ?_
    refine z_goto (pc := 21) (tgt := 4) dX12_bits_21 (by decide) ?_
    exact H

abbrev LX12_stuck_10 (l : Launch) (E : eE) (d bc bs : Nat) (x1 : Int32) (x2 : Int32) (x3 : Int32) (h : aH) (Q : Int32 → aH → Prop) : Prop := TI l E mX12_stuck d bc bs 10 [some (.inr (some (0, 12, 63))), some (.inl x1), some (.inl x2), some (.inl x3)] [] h Q

set_option maxRecDepth 20000 in
theorem bX12_stuck_0 {l : Launch} {E : eE} {d bc bs : Nat} {h : aH} {Q : Int32 → aH → Prop} {x1 : Int32} (S : SH h) (H : ((0 ≤ x1 → LX12_stuck_10 l E d bc bs x1 x1 (nI 0) h Q) ∧ (¬ 0 ≤ x1 → Q (-1) h))) : CI l E d bc bs mX12_stuck [.inr (some (0, 12, 63)), .inl x1] h Q := by
  refine CI.of (by decide) rfl ?_
  show TI l E mX12_stuck d bc bs 0 [some (.inr (some (0, 12, 63))), some (.inl x1), none, none] [] h Q
  refine z_iload_n (pc := 0) dX12_stuck_0 rfl rfl ?_
  refine z_if_ge (pc := 1) (tgt := 6) dX12_stuck_1 (by decide) (fun c1 => ?_) (fun c1 => ?_)
  · replace H := H.1 c1
    refine z_iload_n (pc := 6) dX12_stuck_6 rfl rfl ?_
    refine z_istore_n (pc := 7) (ls' := [some (.inr (some (0, 12, 63))), some (.inl x1), some (.inl x1), none]) dX12_stuck_7 rfl rfl rfl ?_
    refine z_iconst (pc := 8) (v := (nI 0)) dX12_stuck_8 (by decide) ?_
    refine z_istore_n (pc := 9) (ls' := [some (.inr (some (0, 12, 63))), some (.inl x1), some (.inl x1), some (.inl (nI 0))]) dX12_stuck_9 rfl rfl rfl ?_
    exact H
  · replace H := H.2 c1
    refine z_iconst (pc := 4) (v := (-1)) dX12_stuck_4 (by decide) ?_
    exact z_iret (pc := 5) dX12_stuck_5 rfl rfl ⟨_, rfl, H⟩

set_option maxRecDepth 20000 in
theorem bX12_stuck_10 {l : Launch} {E : eE} {d bc bs : Nat} {h : aH} {Q : Int32 → aH → Prop} {x1 : Int32} {x2 : Int32} {x3 : Int32} (S : SH h) (H : (((nI 12) ≤ x3 → Q (-1) h) ∧ (¬ (nI 12) ≤ x3 → ((¬ (((hI h 63 38) >>> (x3 &&& 31)) &&& (nI 1)) = 0 → ((¬ x2 = 0 → LX12_stuck_10 l E d bc bs x1 (x2 + (-1)) (x3 + (nI 1)) h Q) ∧ (x2 = 0 → Q x3 h))) ∧ ((((hI h 63 38) >>> (x3 &&& 31)) &&& (nI 1)) = 0 → LX12_stuck_10 l E d bc bs x1 x2 (x3 + (nI 1)) h Q))))) : LX12_stuck_10 l E d bc bs x1 x2 x3 h Q := by
  refine z_iload_n (pc := 10) dX12_stuck_10 rfl rfl ?_
  refine z_bipush (pc := 11) (v := (nI 12)) dX12_stuck_11 (by decide) ?_
  refine z_icmp_ge (pc := 13) (tgt := 45) dX12_stuck_13 (by decide) (fun c1 => ?_) (fun c1 => ?_)
  · replace H := H.1 c1
    refine z_iconst (pc := 45) (v := (-1)) dX12_stuck_45 (by decide) ?_
    exact z_iret (pc := 46) dX12_stuck_46 rfl rfl ⟨_, rfl, H⟩
  · replace H := H.2 c1
    refine z_aload_n (pc := 16) dX12_stuck_16 rfl rfl ?_
    refine z_geti (pc := 17) dX12_stuck_17 fX12_227 rfl ?_
    refine z_iload_n (pc := 20) dX12_stuck_20 rfl rfl ?_
    refine z_ishr (pc := 21) dX12_stuck_21 ?_
    refine z_iconst (pc := 22) (v := (nI 1)) dX12_stuck_22 (by decide) ?_
    refine z_iand (pc := 23) dX12_stuck_23 ?_
    refine z_if_ne (pc := 24) (tgt := 30) dX12_stuck_24 (by decide) (fun c2 => ?_) (fun c2 => ?_)
    · replace H := H.1 c2
      refine z_iload_n (pc := 30) dX12_stuck_30 rfl rfl ?_
      refine z_if_ne (pc := 31) (tgt := 36) dX12_stuck_31 (by decide) (fun c3 => ?_) (fun c3 => ?_)
      · replace H := H.1 c3
        refine z_iinc (pc := 36) (v := (x2 + (-1))) (ls' := [some (.inr (some (0, 12, 63))), some (.inl x1), some (.inl (x2 + (-1))), some (.inl x3)]) dX12_stuck_36 rfl (by rw [show Int32.ofInt (-1) = (-1) by decide]) rfl ?_
        refine z_iinc (pc := 39) (v := (x3 + (nI 1))) (ls' := [some (.inr (some (0, 12, 63))), some (.inl x1), some (.inl (x2 + (-1))), some (.inl (x3 + (nI 1)))]) dX12_stuck_39 rfl (by rw [show Int32.ofInt (1) = (nI 1) by decide]) rfl ?_
        refine z_goto (pc := 42) (tgt := 10) dX12_stuck_42 (by decide) ?_
        exact H
      · replace H := H.2 c3
        refine z_iload_n (pc := 34) dX12_stuck_34 rfl rfl ?_
        exact z_iret (pc := 35) dX12_stuck_35 rfl rfl ⟨_, rfl, H⟩
    · replace H := H.2 c2
      refine z_goto (pc := 27) (tgt := 39) dX12_stuck_27 (by decide) ?_
      refine z_iinc (pc := 39) (v := (x3 + (nI 1))) (ls' := [some (.inr (some (0, 12, 63))), some (.inl x1), some (.inl x2), some (.inl (x3 + (nI 1)))]) dX12_stuck_39 rfl (by rw [show Int32.ofInt (1) = (nI 1) by decide]) rfl ?_
      refine z_goto (pc := 42) (tgt := 10) dX12_stuck_42 (by decide) ?_
      exact H

abbrev LX12_count_60 (l : Launch) (E : eE) (d bc bs : Nat) (x1 : Int32) (x2 : Int32) (x3 : Int32) (h : aH) (Q : Int32 → aH → Prop) : Prop := TI l E mX12_count d bc bs 60 [some (.inr (some (0, 12, 63))), some (.inl x1), some (.inl x2), some (.inl x3)] [] h Q

set_option maxRecDepth 20000 in
theorem bX12_count_0 {l : Launch} {E : eE} {d bc bs : Nat} {h : aH} {Q : Int32 → aH → Prop} {x1 : Int32} (S : SH h) (H : ((x1 = nI 0 → Q (hI h 63 1) h) ∧ (x1 = nI 1 → Q (hI h 63 3) h) ∧ (x1 = nI 2 → Q (hI h 63 8) h) ∧ (x1 = nI 3 → Q (hI h 63 14) h) ∧ (x1 = nI 4 → LX12_count_60 l E d bc bs x1 (nI 0) (nI 0) h Q) ∧ ((x1).toInt < 0 ∨ 4 < (x1).toInt → Q (-1) h))) : CI l E d bc bs mX12_count [.inr (some (0, 12, 63)), .inl x1] h Q := by
  refine CI.of (by decide) rfl ?_
  show TI l E mX12_count d bc bs 0 [some (.inr (some (0, 12, 63))), some (.inl x1), none, none] [] h Q
  refine z_iload_n (pc := 0) dX12_count_0 rfl rfl ?_
  refine z_table (pc := 1) (tgtD := 90) [36, 41, 46, 51, 56] dX12_count_1 (by decide) (by decide) (by decide) ?_ (fun c1 => ?_)
  · refine And.intro (fun c1 => ?_) (And.intro (fun c1 => ?_) (And.intro (fun c1 => ?_) (And.intro (fun c1 => ?_) (And.intro (fun c1 => ?_) (trivial)))))
    · replace H := H.1 c1
      refine z_aload_n (pc := 36) dX12_count_36 rfl rfl ?_
      refine z_geti (pc := 37) dX12_count_37 fX12_120 rfl ?_
      exact z_iret (pc := 40) dX12_count_40 rfl rfl ⟨_, rfl, H⟩
    · replace H := H.2.1 c1
      refine z_aload_n (pc := 41) dX12_count_41 rfl rfl ?_
      refine z_geti (pc := 42) dX12_count_42 fX12_123 rfl ?_
      exact z_iret (pc := 45) dX12_count_45 rfl rfl ⟨_, rfl, H⟩
    · replace H := H.2.2.1 c1
      refine z_aload_n (pc := 46) dX12_count_46 rfl rfl ?_
      refine z_geti (pc := 47) dX12_count_47 fX12_129 rfl ?_
      exact z_iret (pc := 50) dX12_count_50 rfl rfl ⟨_, rfl, H⟩
    · replace H := H.2.2.2.1 c1
      refine z_aload_n (pc := 51) dX12_count_51 rfl rfl ?_
      refine z_geti (pc := 52) dX12_count_52 fX12_126 rfl ?_
      exact z_iret (pc := 55) dX12_count_55 rfl rfl ⟨_, rfl, H⟩
    · replace H := H.2.2.2.2.1 c1
      refine z_iconst (pc := 56) (v := (nI 0)) dX12_count_56 (by decide) ?_
      refine z_istore_n (pc := 57) (ls' := [some (.inr (some (0, 12, 63))), some (.inl x1), some (.inl (nI 0)), none]) dX12_count_57 rfl rfl rfl ?_
      refine z_iconst (pc := 58) (v := (nI 0)) dX12_count_58 (by decide) ?_
      refine z_istore_n (pc := 59) (ls' := [some (.inr (some (0, 12, 63))), some (.inl x1), some (.inl (nI 0)), some (.inl (nI 0))]) dX12_count_59 rfl rfl rfl ?_
      exact H
  · replace H := H.2.2.2.2.2 c1
    refine z_iconst (pc := 90) (v := (-1)) dX12_count_90 (by decide) ?_
    exact z_iret (pc := 91) dX12_count_91 rfl rfl ⟨_, rfl, H⟩

set_option maxRecDepth 20000 in
theorem bX12_count_60 {l : Launch} {E : eE} {d bc bs : Nat} {h : aH} {Q : Int32 → aH → Prop} {x1 : Int32} {x2 : Int32} {x3 : Int32} (S : SH h) (H : (((nI 208) ≤ x3 → Q x2 h) ∧ (¬ (nI 208) ≤ x3 → (vp_in ((nI 2) * x3) 416 ∧ (((hA h 80 (((nI 2) * x3)).toNatClampNeg) = (-1) → LX12_count_60 l E d bc bs x1 x2 (x3 + (nI 1)) h Q) ∧ (¬ (hA h 80 (((nI 2) * x3)).toNatClampNeg) = (-1) → LX12_count_60 l E d bc bs x1 (x2 + (nI 1)) (x3 + (nI 1)) h Q)))))) : LX12_count_60 l E d bc bs x1 x2 x3 h Q := by
  refine z_iload_n (pc := 60) dX12_count_60 rfl rfl ?_
  refine z_sipush (pc := 61) (v := (nI 208)) dX12_count_61 (by decide) ?_
  refine z_icmp_ge (pc := 64) (tgt := 88) dX12_count_64 (by decide) (fun c1 => ?_) (fun c1 => ?_)
  · replace H := H.1 c1
    refine z_iload_n (pc := 88) dX12_count_88 rfl rfl ?_
    exact z_iret (pc := 89) dX12_count_89 rfl rfl ⟨_, rfl, H⟩
  · replace H := H.2 c1
    refine z_aload_n (pc := 67) dX12_count_67 rfl rfl ?_
    refine z_getk (pc := 68) dX12_count_68 fX12_63 rfl (s_63_21 S) ?_
    refine z_iconst (pc := 71) (v := (nI 2)) dX12_count_71 (by decide) ?_
    refine z_iload_n (pc := 72) dX12_count_72 rfl rfl ?_
    refine z_imul (pc := 73) dX12_count_73 ?_
    have c2 := H.1
    replace H := H.2
    refine z_iald (pc := 74) dX12_count_74 c2 ?_
    refine z_iconst (pc := 75) (v := (-1)) dX12_count_75 (by decide) ?_
    refine z_icmp_eq (pc := 76) (tgt := 82) dX12_count_76 (by decide) (fun c3 => ?_) (fun c3 => ?_)
    · replace H := H.1 c3
      refine z_iinc (pc := 82) (v := (x3 + (nI 1))) (ls' := [some (.inr (some (0, 12, 63))), some (.inl x1), some (.inl x2), some (.inl (x3 + (nI 1)))]) dX12_count_82 rfl (by rw [show Int32.ofInt (1) = (nI 1) by decide]) rfl ?_
      refine z_goto (pc := 85) (tgt := 60) dX12_count_85 (by decide) ?_
      exact H
    · replace H := H.2 c3
      refine z_iinc (pc := 79) (v := (x2 + (nI 1))) (ls' := [some (.inr (some (0, 12, 63))), some (.inl x1), some (.inl (x2 + (nI 1))), some (.inl x3)]) dX12_count_79 rfl (by rw [show Int32.ofInt (1) = (nI 1) by decide]) rfl ?_
      refine z_iinc (pc := 82) (v := (x3 + (nI 1))) (ls' := [some (.inr (some (0, 12, 63))), some (.inl x1), some (.inl (x2 + (nI 1))), some (.inl (x3 + (nI 1)))]) dX12_count_82 rfl (by rw [show Int32.ofInt (1) = (nI 1) by decide]) rfl ?_
      refine z_goto (pc := 85) (tgt := 60) dX12_count_85 (by decide) ?_
      exact H
