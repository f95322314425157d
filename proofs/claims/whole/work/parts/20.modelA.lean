set_option maxRecDepth 20000 in
theorem bX12_isLand_0 {l : Launch} {E : eE} {d bc bs : Nat} {h : aH} {Q : Int32 → aH → Prop} {x1 : Int32} (S : SH h) (H : ((x1 < 0 → Q (nI 0) h) ∧ (¬ x1 < 0 → (((hI h 63 1) ≤ x1 → Q (nI 0) h) ∧ (¬ (hI h 63 1) ≤ x1 → Q (nI 1) h))))) : CI l E d bc bs mX12_isLand [.inr (some (0, 12, 63)), .inl x1] h Q := by
  refine CI.of (by decide) rfl ?_
  show TI l E mX12_isLand d bc bs 0 [some (.inr (some (0, 12, 63))), some (.inl x1)] [] h Q
  refine z_iload_n (pc := 0) dX12_isLand_0 rfl rfl ?_
  refine z_if_lt (pc := 1) (tgt := 16) dX12_isLand_1 (by decide) (fun c1 => ?_) (fun c1 => ?_)
  · replace H := H.1 c1
    refine z_iconst (pc := 16) (v := (nI 0)) dX12_isLand_16 (by decide) ?_
    exact z_iret (pc := 17) dX12_isLand_17 rfl rfl ⟨_, rfl, H⟩
  · replace H := H.2 c1
    refine z_iload_n (pc := 4) dX12_isLand_4 rfl rfl ?_
    refine z_aload_n (pc := 5) dX12_isLand_5 rfl rfl ?_
    refine z_geti (pc := 6) dX12_isLand_6 fX12_120 rfl ?_
    refine z_icmp_ge (pc := 9) (tgt := 16) dX12_isLand_9 (by decide) (fun c2 => ?_) (fun c2 => ?_)
    · replace H := H.1 c2
      refine z_iconst (pc := 16) (v := (nI 0)) dX12_isLand_16 (by decide) ?_
      exact z_iret (pc := 17) dX12_isLand_17 rfl rfl ⟨_, rfl, H⟩
    · replace H := H.2 c2
      refine z_iconst (pc := 12) (v := (nI 1)) dX12_isLand_12 (by decide) ?_
      refine z_goto (pc := 13) (tgt := 17) dX12_isLand_13 (by decide) ?_
      exact z_iret (pc := 17) dX12_isLand_17 rfl rfl ⟨_, rfl, H⟩

set_option maxRecDepth 20000 in
theorem bX12_isPerson_0 {l : Launch} {E : eE} {d bc bs : Nat} {h : aH} {Q : Int32 → aH → Prop} {x1 : Int32} (S : SH h) (H : ((x1 < 0 → Q (nI 0) h) ∧ (¬ x1 < 0 → (((hI h 63 3) ≤ x1 → Q (nI 0) h) ∧ (¬ (hI h 63 3) ≤ x1 → Q (nI 1) h))))) : CI l E d bc bs mX12_isPerson [.inr (some (0, 12, 63)), .inl x1] h Q := by
  refine CI.of (by decide) rfl ?_
  show TI l E mX12_isPerson d bc bs 0 [some (.inr (some (0, 12, 63))), some (.inl x1)] [] h Q
  refine z_iload_n (pc := 0) dX12_isPerson_0 rfl rfl ?_
  refine z_if_lt (pc := 1) (tgt := 16) dX12_isPerson_1 (by decide) (fun c1 => ?_) (fun c1 => ?_)
  · replace H := H.1 c1
    refine z_iconst (pc := 16) (v := (nI 0)) dX12_isPerson_16 (by decide) ?_
    exact z_iret (pc := 17) dX12_isPerson_17 rfl rfl ⟨_, rfl, H⟩
  · replace H := H.2 c1
    refine z_iload_n (pc := 4) dX12_isPerson_4 rfl rfl ?_
    refine z_aload_n (pc := 5) dX12_isPerson_5 rfl rfl ?_
    refine z_geti (pc := 6) dX12_isPerson_6 fX12_123 rfl ?_
    refine z_icmp_ge (pc := 9) (tgt := 16) dX12_isPerson_9 (by decide) (fun c2 => ?_) (fun c2 => ?_)
    · replace H := H.1 c2
      refine z_iconst (pc := 16) (v := (nI 0)) dX12_isPerson_16 (by decide) ?_
      exact z_iret (pc := 17) dX12_isPerson_17 rfl rfl ⟨_, rfl, H⟩
    · replace H := H.2 c2
      refine z_iconst (pc := 12) (v := (nI 1)) dX12_isPerson_12 (by decide) ?_
      refine z_goto (pc := 13) (tgt := 17) dX12_isPerson_13 (by decide) ?_
      exact z_iret (pc := 17) dX12_isPerson_17 rfl rfl ⟨_, rfl, H⟩

set_option maxRecDepth 20000 in
theorem bX12_isSeries_0 {l : Launch} {E : eE} {d bc bs : Nat} {h : aH} {Q : Int32 → aH → Prop} {x1 : Int32} (S : SH h) (H : ((x1 < 0 → Q (nI 0) h) ∧ (¬ x1 < 0 → (((hI h 63 14) ≤ x1 → Q (nI 0) h) ∧ (¬ (hI h 63 14) ≤ x1 → Q (nI 1) h))))) : CI l E d bc bs mX12_isSeries [.inr (some (0, 12, 63)), .inl x1] h Q := by
  refine CI.of (by decide) rfl ?_
  show TI l E mX12_isSeries d bc bs 0 [some (.inr (some (0, 12, 63))), some (.inl x1)] [] h Q
  refine z_iload_n (pc := 0) dX12_isSeries_0 rfl rfl ?_
  refine z_if_lt (pc := 1) (tgt := 16) dX12_isSeries_1 (by decide) (fun c1 => ?_) (fun c1 => ?_)
  · replace H := H.1 c1
    refine z_iconst (pc := 16) (v := (nI 0)) dX12_isSeries_16 (by decide) ?_
    exact z_iret (pc := 17) dX12_isSeries_17 rfl rfl ⟨_, rfl, H⟩
  · replace H := H.2 c1
    refine z_iload_n (pc := 4) dX12_isSeries_4 rfl rfl ?_
    refine z_aload_n (pc := 5) dX12_isSeries_5 rfl rfl ?_
    refine z_geti (pc := 6) dX12_isSeries_6 fX12_126 rfl ?_
    refine z_icmp_ge (pc := 9) (tgt := 16) dX12_isSeries_9 (by decide) (fun c2 => ?_) (fun c2 => ?_)
    · replace H := H.1 c2
      refine z_iconst (pc := 16) (v := (nI 0)) dX12_isSeries_16 (by decide) ?_
      exact z_iret (pc := 17) dX12_isSeries_17 rfl rfl ⟨_, rfl, H⟩
    · replace H := H.2 c2
      refine z_iconst (pc := 12) (v := (nI 1)) dX12_isSeries_12 (by decide) ?_
      refine z_goto (pc := 13) (tgt := 17) dX12_isSeries_13 (by decide) ?_
      exact z_iret (pc := 17) dX12_isSeries_17 rfl rfl ⟨_, rfl, H⟩

set_option maxRecDepth 20000 in
theorem bX12_isWeek_0 {l : Launch} {E : eE} {d bc bs : Nat} {h : aH} {Q : Int32 → aH → Prop} {x0 : Int32} (S : SH h) (H : ((x0 < 0 → Q (nI 0) h) ∧ (¬ x0 < 0 → (((nI 52) ≤ x0 → Q (nI 0) h) ∧ (¬ (nI 52) ≤ x0 → Q (nI 1) h))))) : CI l E d bc bs mX12_isWeek [.inl x0] h Q := by
  refine CI.of (by decide) rfl ?_
  show TI l E mX12_isWeek d bc bs 0 [some (.inl x0)] [] h Q
  refine z_iload_n (pc := 0) dX12_isWeek_0 rfl rfl ?_
  refine z_if_lt (pc := 1) (tgt := 14) dX12_isWeek_1 (by decide) (fun c1 => ?_) (fun c1 => ?_)
  · replace H := H.1 c1
    refine z_iconst (pc := 14) (v := (nI 0)) dX12_isWeek_14 (by decide) ?_
    exact z_iret (pc := 15) dX12_isWeek_15 rfl rfl ⟨_, rfl, H⟩
  · replace H := H.2 c1
    refine z_iload_n (pc := 4) dX12_isWeek_4 rfl rfl ?_
    refine z_bipush (pc := 5) (v := (nI 52)) dX12_isWeek_5 (by decide) ?_
    refine z_icmp_ge (pc := 7) (tgt := 14) dX12_isWeek_7 (by decide) (fun c2 => ?_) (fun c2 => ?_)
    · replace H := H.1 c2
      refine z_iconst (pc := 14) (v := (nI 0)) dX12_isWeek_14 (by decide) ?_
      exact z_iret (pc := 15) dX12_isWeek_15 rfl rfl ⟨_, rfl, H⟩
    · replace H := H.2 c2
      refine z_iconst (pc := 10) (v := (nI 1)) dX12_isWeek_10 (by decide) ?_
      refine z_goto (pc := 11) (tgt := 15) dX12_isWeek_11 (by decide) ?_
      exact z_iret (pc := 15) dX12_isWeek_15 rfl rfl ⟨_, rfl, H⟩

set_option maxRecDepth 20000 in
theorem bX12_isKnown_0 {l : Launch} {E : eE} {d bc bs : Nat} {h : aH} {Q : Int32 → aH → Prop} {x1 : Int32} (S : SH h) (H : ((x1 < 0 → Q (nI 0) h) ∧ (¬ x1 < 0 → (((hI h 63 8) < x1 → Q (nI 0) h) ∧ (¬ (hI h 63 8) < x1 → Q (nI 1) h))))) : CI l E d bc bs mX12_isKnown [.inr (some (0, 12, 63)), .inl x1] h Q := by
  refine CI.of (by decide) rfl ?_
  show TI l E mX12_isKnown d bc bs 0 [some (.inr (some (0, 12, 63))), some (.inl x1)] [] h Q
  refine z_iload_n (pc := 0) dX12_isKnown_0 rfl rfl ?_
  refine z_if_lt (pc := 1) (tgt := 16) dX12_isKnown_1 (by decide) (fun c1 => ?_) (fun c1 => ?_)
  · replace H := H.1 c1
    refine z_iconst (pc := 16) (v := (nI 0)) dX12_isKnown_16 (by decide) ?_
    exact z_iret (pc := 17) dX12_isKnown_17 rfl rfl ⟨_, rfl, H⟩
  · replace H := H.2 c1
    refine z_iload_n (pc := 4) dX12_isKnown_4 rfl rfl ?_
    refine z_aload_n (pc := 5) dX12_isKnown_5 rfl rfl ?_
    refine z_geti (pc := 6) dX12_isKnown_6 fX12_129 rfl ?_
    refine z_icmp_gt (pc := 9) (tgt := 16) dX12_isKnown_9 (by decide) (fun c2 => ?_) (fun c2 => ?_)
    · replace H := H.1 c2
      refine z_iconst (pc := 16) (v := (nI 0)) dX12_isKnown_16 (by decide) ?_
      exact z_iret (pc := 17) dX12_isKnown_17 rfl rfl ⟨_, rfl, H⟩
    · replace H := H.2 c2
      refine z_iconst (pc := 12) (v := (nI 1)) dX12_isKnown_12 (by decide) ?_
      refine z_goto (pc := 13) (tgt := 17) dX12_isKnown_13 (by decide) ?_
      exact z_iret (pc := 17) dX12_isKnown_17 rfl rfl ⟨_, rfl, H⟩

set_option maxRecDepth 20000 in
theorem bX12_isOffset_0 {l : Launch} {E : eE} {d bc bs : Nat} {h : aH} {Q : Int32 → aH → Prop} {x0 : Int32} (S : SH h) (H : ((x0 < (-24) → Q (nI 0) h) ∧ (¬ x0 < (-24) → (((nI 28) < x0 → Q (nI 0) h) ∧ (¬ (nI 28) < x0 → Q (nI 1) h))))) : CI l E d bc bs mX12_isOffset [.inl x0] h Q := by
  refine CI.of (by decide) rfl ?_
  show TI l E mX12_isOffset d bc bs 0 [some (.inl x0)] [] h Q
  refine z_iload_n (pc := 0) dX12_isOffset_0 rfl rfl ?_
  refine z_bipush (pc := 1) (v := (-24)) dX12_isOffset_1 (by decide) ?_
  refine z_icmp_lt (pc := 3) (tgt := 16) dX12_isOffset_3 (by decide) (fun c1 => ?_) (fun c1 => ?_)
  · replace H := H.1 c1
    refine z_iconst (pc := 16) (v := (nI 0)) dX12_isOffset_16 (by decide) ?_
    exact z_iret (pc := 17) dX12_isOffset_17 rfl rfl ⟨_, rfl, H⟩
  · replace H := H.2 c1
    refine z_iload_n (pc := 6) dX12_isOffset_6 rfl rfl ?_
    refine z_bipush (pc := 7) (v := (nI 28)) dX12_isOffset_7 (by decide) ?_
    refine z_icmp_gt (pc := 9) (tgt := 16) dX12_isOffset_9 (by decide) (fun c2 => ?_) (fun c2 => ?_)
    · replace H := H.1 c2
      refine z_iconst (pc := 16) (v := (nI 0)) dX12_isOffset_16 (by decide) ?_
      exact z_iret (pc := 17) dX12_isOffset_17 rfl rfl ⟨_, rfl, H⟩
    · replace H := H.2 c2
      refine z_iconst (pc := 12) (v := (nI 1)) dX12_isOffset_12 (by decide) ?_
      refine z_goto (pc := 13) (tgt := 17) dX12_isOffset_13 (by decide) ?_
      exact z_iret (pc := 17) dX12_isOffset_17 rfl rfl ⟨_, rfl, H⟩

set_option maxRecDepth 20000 in
theorem bX12_land_0 {l : Launch} {E : eE} {d bc bs : Nat} {h : aH} {Q : Int32 → aH → Prop} {x1 : Int32} (S : SH h) (H : (((hI h 63 1) = (nI 8) → Q (-1) h) ∧ (¬ (hI h 63 1) = (nI 8) → (CI l E d 0 0 mX12_isOffset [.inl x1] h (fun v2 h2 => SH h2 ∧ ((¬ v2 = 0 → (vp_in (hI h2 63 1) 8 ∧ Q (((hI h2 63 1) + (nI 1)) - (nI 1)) (stI (stA h2 64 ((hI h2 63 1)).toNatClampNeg x1) 63 1 ((hI h2 63 1) + (nI 1))))) ∧ (v2 = 0 → Q (-1) h2))))))) : CI l E (d + 1) bc bs mX12_land [.inr (some (0, 12, 63)), .inl x1] h Q := by
  refine CI.of (by decide) rfl ?_
  show TI l E mX12_land (d + 1) bc bs 0 [some (.inr (some (0, 12, 63))), some (.inl x1)] [] h Q
  refine z_aload_n (pc := 0) dX12_land_0 rfl rfl ?_
  refine z_geti (pc := 1) dX12_land_1 fX12_120 rfl ?_
  refine z_bipush (pc := 4) (v := (nI 8)) dX12_land_4 (by decide) ?_
  refine z_icmp_eq (pc := 6) (tgt := 16) dX12_land_6 (by decide) (fun c1 => ?_) (fun c1 => ?_)
  · replace H := H.1 c1
    refine z_iconst (pc := 16) (v := (-1)) dX12_land_16 (by decide) ?_
    exact z_iret (pc := 17) dX12_land_17 rfl rfl ⟨_, rfl, H⟩
  · replace H := H.2 c1
    refine z_iload_n (pc := 9) dX12_land_9 rfl rfl ?_
    refine y_SI (pc := 10) (bc := bc) (bs := bs) (mc := 0) (ms := 0) (As := [.inl x1]) (rest := []) dX12_land_10 kX12_isOffset lX12_132 rfl rfl (H.use (fun v2 h2 H => ?_))
    have S2 := H.1
    replace H := H.2
    refine z_if_ne (pc := 13) (tgt := 18) dX12_land_13 (by decide) (fun c3 => ?_) (fun c3 => ?_)
    · replace H := H.1 c3
      refine z_aload_n (pc := 18) dX12_land_18 rfl rfl ?_
      refine z_getk (pc := 19) dX12_land_19 fX12_13 rfl (s_63_2 S2) ?_
      refine z_aload_n (pc := 22) dX12_land_22 rfl rfl ?_
      refine z_geti (pc := 23) dX12_land_23 fX12_120 rfl ?_
      refine z_iload_n (pc := 26) dX12_land_26 rfl rfl ?_
      have c4 := H.1
      replace H := H.2
      refine z_iast (pc := 27) dX12_land_27 c4 ?_
      refine z_aload_n (pc := 28) dX12_land_28 rfl rfl ?_
      refine z_dup (pc := 29) dX12_land_29 ?_
      refine z_geti (pc := 30) dX12_land_30 fX12_120 rfl ?_
      refine z_iconst (pc := 33) (v := (nI 1)) dX12_land_33 (by decide) ?_
      refine z_iadd (pc := 34) dX12_land_34 ?_
      refine z_puti (pc := 35) dX12_land_35 fX12_120 (uX12_1 _) rfl rfl rfl ?_
      refine z_aload_n (pc := 38) dX12_land_38 rfl rfl ?_
      refine z_geti (pc := 39) dX12_land_39 fX12_120 rfl ?_
      refine z_iconst (pc := 42) (v := (nI 1)) dX12_land_42 (by decide) ?_
      refine z_isub (pc := 43) dX12_land_43 ?_
      exact z_iret (pc := 44) dX12_land_44 rfl rfl ⟨_, rfl, H⟩
    · replace H := H.2 c3
      refine z_iconst (pc := 16) (v := (-1)) dX12_land_16 (by decide) ?_
      exact z_iret (pc := 17) dX12_land_17 rfl rfl ⟨_, rfl, H⟩

set_option maxRecDepth 20000 in
theorem bX12_person_0 {l : Launch} {E : eE} {d bc bs : Nat} {h : aH} {Q : Int32 → aH → Prop} {x1 : Int32} {x2 : Int32} (S : SH h) (H : (((hI h 63 3) = (nI 12) → Q (-1) h) ∧ (¬ (hI h 63 3) = (nI 12) → (CI l E d 0 0 mX12_isLand [.inr (some (0, 12, 63)), .inl x1] h (fun v2 h2 => SH h2 ∧ ((v2 = 0 → Q (-1) h2) ∧ (¬ v2 = 0 → ((x2 < 0 → Q (-1) h2) ∧ (¬ x2 < 0 → ((x2 ≤ (nI 127) → (vp_in (hI h2 63 3) 12 ∧ Q (((hI h2 63 3) + (nI 1)) - (nI 1)) (stI (stA (stA (stA h2 65 ((hI h2 63 3)).toNatClampNeg x1) 66 ((hI h2 63 3)).toNatClampNeg x2) 67 ((hI h2 63 3)).toNatClampNeg (-1)) 63 3 ((hI h2 63 3) + (nI 1))))) ∧ (¬ x2 ≤ (nI 127) → Q (-1) h2))))))))))) : CI l E (d + 1) bc bs mX12_person [.inr (some (0, 12, 63)), .inl x1, .inl x2] h Q := by
  refine CI.of (by decide) rfl ?_
  show TI l E mX12_person (d + 1) bc bs 0 [some (.inr (some (0, 12, 63))), some (.inl x1), some (.inl x2)] [] h Q
  refine z_aload_n (pc := 0) dX12_person_0 rfl rfl ?_
  refine z_geti (pc := 1) dX12_person_1 fX12_123 rfl ?_
  refine z_bipush (pc := 4) (v := (nI 12)) dX12_person_4 (by decide) ?_
  refine z_icmp_eq (pc := 6) (tgt := 27) dX12_person_6 (by decide) (fun c1 => ?_) (fun c1 => ?_)
  · replace H := H.1 c1
    refine z_iconst (pc := 27) (v := (-1)) dX12_person_27 (by decide) ?_
    exact z_iret (pc := 28) dX12_person_28 rfl rfl ⟨_, rfl, H⟩
  · replace H := H.2 c1
    refine z_aload_n (pc := 9) dX12_person_9 rfl rfl ?_
    refine z_iload_n (pc := 10) dX12_person_10 rfl rfl ?_
    refine y_VI (pc := 11) (bc := bc) (bs := bs) (mc := 0) (ms := 0) (As := [.inl x1]) (rest := []) dX12_person_11 kX12_isLand lX12_136 ⟨_, _, rfl⟩ rfl rfl (H.use (fun v2 h2 H => ?_))
    have S2 := H.1
    replace H := H.2
    refine z_if_eq (pc := 14) (tgt := 27) dX12_person_14 (by decide) (fun c3 => ?_) (fun c3 => ?_)
    · replace H := H.1 c3
      refine z_iconst (pc := 27) (v := (-1)) dX12_person_27 (by decide) ?_
      exact z_iret (pc := 28) dX12_person_28 rfl rfl ⟨_, rfl, H⟩
    · replace H := H.2 c3
      refine z_iload_n (pc := 17) dX12_person_17 rfl rfl ?_
      refine z_if_lt (pc := 18) (tgt := 27) dX12_person_18 (by decide) (fun c4 => ?_) (fun c4 => ?_)
      · replace H := H.1 c4
        refine z_iconst (pc := 27) (v := (-1)) dX12_person_27 (by decide) ?_
        exact z_iret (pc := 28) dX12_person_28 rfl rfl ⟨_, rfl, H⟩
      · replace H := H.2 c4
        refine z_iload_n (pc := 21) dX12_person_21 rfl rfl ?_
        refine z_bipush (pc := 22) (v := (nI 127)) dX12_person_22 (by decide) ?_
        refine z_icmp_le (pc := 24) (tgt := 29) dX12_person_24 (by decide) (fun c5 => ?_) (fun c5 => ?_)
        · replace H := H.1 c5
          refine z_aload_n (pc := 29) dX12_person_29 rfl rfl ?_
          refine z_getk (pc := 30) dX12_person_30 fX12_17 rfl (s_63_4 S2) ?_
          refine z_aload_n (pc := 33) dX12_person_33 rfl rfl ?_
          refine z_geti (pc := 34) dX12_person_34 fX12_123 rfl ?_
          refine z_iload_n (pc := 37) dX12_person_37 rfl rfl ?_
          have c6 := H.1
          replace H := H.2
          refine z_iast (pc := 38) dX12_person_38 c6 ?_
          refine z_aload_n (pc := 39) dX12_person_39 rfl rfl ?_
          refine z_getk (pc := 40) dX12_person_40 fX12_20 rfl (s_63_5 S2) ?_
          refine z_aload_n (pc := 43) dX12_person_43 rfl rfl ?_
          refine z_geti (pc := 44) dX12_person_44 fX12_123 rfl ?_
          refine z_iload_n (pc := 47) dX12_person_47 rfl rfl ?_
          refine z_iast (pc := 48) dX12_person_48 c6 ?_
          refine z_aload_n (pc := 49) dX12_person_49 rfl rfl ?_
          refine z_getk (pc := 50) dX12_person_50 fX12_23 rfl (s_63_6 S2) ?_
          refine z_aload_n (pc := 53) dX12_person_53 rfl rfl ?_
          refine z_geti (pc := 54) dX12_person_54 fX12_123 rfl ?_
          refine z_iconst (pc := 57) (v := (-1)) dX12_person_57 (by decide) ?_
          refine z_iast (pc := 58) dX12_person_58 c6 ?_
          refine z_aload_n (pc := 59) dX12_person_59 rfl rfl ?_
          refine z_dup (pc := 60) dX12_person_60 ?_
          refine z_geti (pc := 61) dX12_person_61 fX12_123 rfl ?_
          refine z_iconst (pc := 64) (v := (nI 1)) dX12_person_64 (by decide) ?_
          refine z_iadd (pc := 65) dX12_person_65 ?_
          refine z_puti (pc := 66) dX12_person_66 fX12_123 (uX12_3 _) rfl rfl rfl ?_
          refine z_aload_n (pc := 69) dX12_person_69 rfl rfl ?_
          refine z_geti (pc := 70) dX12_person_70 fX12_123 rfl ?_
          refine z_iconst (pc := 73) (v := (nI 1)) dX12_person_73 (by decide) ?_
          refine z_isub (pc := 74) dX12_person_74 ?_
          exact z_iret (pc := 75) dX12_person_75 rfl rfl ⟨_, rfl, H⟩
        · replace H := H.2 c5
          refine z_iconst (pc := 27) (v := (-1)) dX12_person_27 (by decide) ?_
          exact z_iret (pc := 28) dX12_person_28 rfl rfl ⟨_, rfl, H⟩

abbrev LX12_row_35 (l : Launch) (E : eE) (d bc bs : Nat) (x1 : Int32) (x2 : Int32) (x3 : Int32) (h : aH) (Q : Int32 → aH → Prop) : Prop := TI l E mX12_row d bc bs 35 [some (.inr (some (0, 12, 63))), some (.inl x1), some (.inl x2), some (.inl x3)] [] h Q

set_option maxRecDepth 20000 in
theorem bX12_row_0 {l : Launch} {E : eE} {d bc bs : Nat} {h : aH} {Q : Int32 → aH → Prop} {x1 : Int32} {x2 : Int32} (S : SH h) (H : (CI l E d 0 0 mX12_isPerson [.inr (some (0, 12, 63)), .inl x1] h (fun v1 h1 => SH h1 ∧ ((v1 = 0 → Q (nI 0) h1) ∧ (¬ v1 = 0 → ((x2 = (-1) → (vp_in x1 12 ∧ LX12_row_35 l E (d + 1) bc bs x1 x2 (nI 0) (stA h1 67 (x1).toNatClampNeg x2) Q)) ∧ (¬ x2 = (-1) → ((x2 < (nI 1) → Q (nI 0) h1) ∧ (¬ x2 < (nI 1) → ((x2 ≤ (nI 48) → (vp_in x1 12 ∧ LX12_row_35 l E (d + 1) bc bs x1 x2 (nI 0) (stA h1 67 (x1).toNatClampNeg x2) Q)) ∧ (¬ x2 ≤ (nI 48) → Q (nI 0) h1))))))))))) : CI l E (d + 1) bc bs mX12_row [.inr (some (0, 12, 63)), .inl x1, .inl x2] h Q := by
  refine CI.of (by decide) rfl ?_
  show TI l E mX12_row (d + 1) bc bs 0 [some (.inr (some (0, 12, 63))), some (.inl x1), some (.inl x2), none] [] h Q
  refine z_aload_n (pc := 0) dX12_row_0 rfl rfl ?_
  refine z_iload_n (pc := 1) dX12_row_1 rfl rfl ?_
  refine y_VI (pc := 2) (bc := bc) (bs := bs) (mc := 0) (ms := 0) (As := [.inl x1]) (rest := []) dX12_row_2 kX12_isPerson lX12_139 ⟨_, _, rfl⟩ rfl rfl (H.use (fun v1 h1 H => ?_))
  have S1 := H.1
  replace H := H.2
  refine z_if_eq (pc := 5) (tgt := 24) dX12_row_5 (by decide) (fun c2 => ?_) (fun c2 => ?_)
  · replace H := H.1 c2
    refine z_iconst (pc := 24) (v := (nI 0)) dX12_row_24 (by decide) ?_
    exact z_iret (pc := 25) dX12_row_25 rfl rfl ⟨_, rfl, H⟩
  · replace H := H.2 c2
    refine z_iload_n (pc := 8) dX12_row_8 rfl rfl ?_
    refine z_iconst (pc := 9) (v := (-1)) dX12_row_9 (by decide) ?_
    refine z_icmp_eq (pc := 10) (tgt := 26) dX12_row_10 (by decide) (fun c3 => ?_) (fun c3 => ?_)
    · replace H := H.1 c3
      refine z_aload_n (pc := 26) dX12_row_26 rfl rfl ?_
      refine z_getk (pc := 27) dX12_row_27 fX12_23 rfl (s_63_6 S1) ?_
      refine z_iload_n (pc := 30) dX12_row_30 rfl rfl ?_
      refine z_iload_n (pc := 31) dX12_row_31 rfl rfl ?_
      have c4 := H.1
      replace H := H.2
      refine z_iast (pc := 32) dX12_row_32 c4 ?_
      refine z_iconst (pc := 33) (v := (nI 0)) dX12_row_33 (by decide) ?_
      refine z_istore_n (pc := 34) (ls' := [some (.inr (some (0, 12, 63))), some (.inl x1), some (.inl x2), some (.inl (nI 0))]) dX12_row_34 rfl rfl rfl ?_
      exact H
    · replace H := H.2 c3
      refine z_iload_n (pc := 13) dX12_row_13 rfl rfl ?_
      refine z_iconst (pc := 14) (v := (nI 1)) dX12_row_14 (by decide) ?_
      refine z_icmp_lt (pc := 15) (tgt := 24) dX12_row_15 (by decide) (fun c5 => ?_) (fun c5 => ?_)
      · replace H := H.1 c5
        refine z_iconst (pc := 24) (v := (nI 0)) dX12_row_24 (by decide) ?_
        exact z_iret (pc := 25) dX12_row_25 rfl rfl ⟨_, rfl, H⟩
      · replace H := H.2 c5
        refine z_iload_n (pc := 18) dX12_row_18 rfl rfl ?_
        refine z_bipush (pc := 19) (v := (nI 48)) dX12_row_19 (by decide) ?_
        refine z_icmp_le (pc := 21) (tgt := 26) dX12_row_21 (by decide) (fun c6 => ?_) (fun c6 => ?_)
        · replace H := H.1 c6
          refine z_aload_n (pc := 26) dX12_row_26 rfl rfl ?_
          refine z_getk (pc := 27) dX12_row_27 fX12_23 rfl (s_63_6 S1) ?_
          refine z_iload_n (pc := 30) dX12_row_30 rfl rfl ?_
          refine z_iload_n (pc := 31) dX12_row_31 rfl rfl ?_
          have c7 := H.1
          replace H := H.2
          refine z_iast (pc := 32) dX12_row_32 c7 ?_
          refine z_iconst (pc := 33) (v := (nI 0)) dX12_row_33 (by decide) ?_
          refine z_istore_n (pc := 34) (ls' := [some (.inr (some (0, 12, 63))), some (.inl x1), some (.inl x2), some (.inl (nI 0))]) dX12_row_34 rfl rfl rfl ?_
          exact H
        · replace H := H.2 c6
          refine z_iconst (pc := 24) (v := (nI 0)) dX12_row_24 (by decide) ?_
          exact z_iret (pc := 25) dX12_row_25 rfl rfl ⟨_, rfl, H⟩

set_option maxRecDepth 20000 in
theorem bX12_row_35 {l : Launch} {E : eE} {d bc bs : Nat} {h : aH} {Q : Int32 → aH → Prop} {x1 : Int32} {x2 : Int32} {x3 : Int32} (S : SH h) (H : (((nI 48) ≤ x3 → Q (nI 1) h) ∧ (¬ (nI 48) ≤ x3 → (vp_in (((nI 48) * x1) + x3) 576 ∧ LX12_row_35 l E (d + 1) bc bs x1 x2 (x3 + (nI 1)) (stA h 68 ((((nI 48) * x1) + x3)).toNatClampNeg (nI 0)) Q)))) : LX12_row_35 l E (d + 1) bc bs x1 x2 x3 h Q := by
  refine z_iload_n (pc := 35) dX12_row_35 rfl rfl ?_
  refine z_bipush (pc := 36) (v := (nI 48)) dX12_row_36 (by decide) ?_
  refine z_icmp_ge (pc := 38) (tgt := 59) dX12_row_38 (by decide) (fun c1 => ?_) (fun c1 => ?_)
  · replace H := H.1 c1
    refine z_iconst (pc := 59) (v := (nI 1)) dX12_row_59 (by decide) ?_
    exact z_iret (pc := 60) dX12_row_60 rfl rfl ⟨_, rfl, H⟩
  · replace H := H.2 c1
    refine z_aload_n (pc := 41) dX12_row_41 rfl rfl ?_
    refine z_getk (pc := 42) dX12_row_42 fX12_26 rfl (s_63_7 S) ?_
    refine z_bipush (pc := 45) (v := (nI 48)) dX12_row_45 (by decide) ?_
    refine z_iload_n (pc := 47) dX12_row_47 rfl rfl ?_
    refine z_imul (pc := 48) dX12_row_48 ?_
    refine z_iload_n (pc := 49) dX12_row_49 rfl rfl ?_
    refine z_iadd (pc := 50) dX12_row_50 ?_
    refine z_iconst (pc := 51) (v := (nI 0)) dX12_row_51 (by decide) ?_
    have c2 := H.1
    replace H := H.2
    refine z_iast (pc := 52) dX12_row_52 c2 ?_
    refine z_iinc (pc := 53) (v := (x3 + (nI 1))) (ls' := [some (.inr (some (0, 12, 63))), some (.inl x1), some (.inl x2), some (.inl (x3 + (nI 1)))]) dX12_row_53 rfl (by rw [show Int32.ofInt (1) = (nI 1) by decide]) rfl ?_
    refine z_goto (pc := 56) (tgt := 35) dX12_row_56 (by decide) ?_
    exact H

set_option maxRecDepth 20000 in
theorem bX12_cell_0 {l : Launch} {E : eE} {d bc bs : Nat} {h : aH} {Q : Int32 → aH → Prop} {x1 : Int32} {x2 : Int32} {x3 : Int32} (S : SH h) (H : (CI l E d 0 0 mX12_isPerson [.inr (some (0, 12, 63)), .inl x1] h (fun v1 h1 => SH h1 ∧ ((v1 = 0 → Q (nI 0) h1) ∧ (¬ v1 = 0 → ((x2 < 0 → Q (nI 0) h1) ∧ (¬ x2 < 0 → (vp_in x1 12 ∧ (((hA h1 67 (x1).toNatClampNeg) ≤ x2 → Q (nI 0) h1) ∧ (¬ (hA h1 67 (x1).toNatClampNeg) ≤ x2 → ((x3 < (-1) → Q (nI 0) h1) ∧ (¬ x3 < (-1) → ((x3 ≤ (nI 100) → (vp_in (((nI 48) * x1) + x2) 576 ∧ Q (nI 1) (stA h1 68 ((((nI 48) * x1) + x2)).toNatClampNeg x3))) ∧ (¬ x3 ≤ (nI 100) → Q (nI 0) h1)))))))))))))) : CI l E (d + 1) bc bs mX12_cell [.inr (some (0, 12, 63)), .inl x1, .inl x2, .inl x3] h Q := by
  refine CI.of (by decide) rfl ?_
  show TI l E mX12_cell (d + 1) bc bs 0 [some (.inr (some (0, 12, 63))), some (.inl x1), some (.inl x2), some (.inl x3)] [] h Q
  refine z_aload_n (pc := 0) dX12_cell_0 rfl rfl ?_
  refine z_iload_n (pc := 1) dX12_cell_1 rfl rfl ?_
  refine y_VI (pc := 2) (bc := bc) (bs := bs) (mc := 0) (ms := 0) (As := [.inl x1]) (rest := []) dX12_cell_2 kX12_isPerson lX12_139 ⟨_, _, rfl⟩ rfl rfl (H.use (fun v1 h1 H => ?_))
  have S1 := H.1
  replace H := H.2
  refine z_if_eq (pc := 5) (tgt := 33) dX12_cell_5 (by decide) (fun c2 => ?_) (fun c2 => ?_)
  · replace H := H.1 c2
    refine z_iconst (pc := 33) (v := (nI 0)) dX12_cell_33 (by decide) ?_
    exact z_iret (pc := 34) dX12_cell_34 rfl rfl ⟨_, rfl, H⟩
  · replace H := H.2 c2
    refine z_iload_n (pc := 8) dX12_cell_8 rfl rfl ?_
    refine z_if_lt (pc := 9) (tgt := 33) dX12_cell_9 (by decide) (fun c3 => ?_) (fun c3 => ?_)
    · replace H := H.1 c3
      refine z_iconst (pc := 33) (v := (nI 0)) dX12_cell_33 (by decide) ?_
      exact z_iret (pc := 34) dX12_cell_34 rfl rfl ⟨_, rfl, H⟩
    · replace H := H.2 c3
      refine z_iload_n (pc := 12) dX12_cell_12 rfl rfl ?_
      refine z_aload_n (pc := 13) dX12_cell_13 rfl rfl ?_
      refine z_getk (pc := 14) dX12_cell_14 fX12_23 rfl (s_63_6 S1) ?_
      refine z_iload_n (pc := 17) dX12_cell_17 rfl rfl ?_
      have c4 := H.1
      replace H := H.2
      refine z_iald (pc := 18) dX12_cell_18 c4 ?_
      refine z_icmp_ge (pc := 19) (tgt := 33) dX12_cell_19 (by decide) (fun c5 => ?_) (fun c5 => ?_)
      · replace H := H.1 c5
        refine z_iconst (pc := 33) (v := (nI 0)) dX12_cell_33 (by decide) ?_
        exact z_iret (pc := 34) dX12_cell_34 rfl rfl ⟨_, rfl, H⟩
      · replace H := H.2 c5
        refine z_iload_n (pc := 22) dX12_cell_22 rfl rfl ?_
        refine z_iconst (pc := 23) (v := (-1)) dX12_cell_23 (by decide) ?_
        refine z_icmp_lt (pc := 24) (tgt := 33) dX12_cell_24 (by decide) (fun c6 => ?_) (fun c6 => ?_)
        · replace H := H.1 c6
          refine z_iconst (pc := 33) (v := (nI 0)) dX12_cell_33 (by decide) ?_
          exact z_iret (pc := 34) dX12_cell_34 rfl rfl ⟨_, rfl, H⟩
        · replace H := H.2 c6
          refine z_iload_n (pc := 27) dX12_cell_27 rfl rfl ?_
          refine z_bipush (pc := 28) (v := (nI 100)) dX12_cell_28 (by decide) ?_
          refine z_icmp_le (pc := 30) (tgt := 35) dX12_cell_30 (by decide) (fun c7 => ?_) (fun c7 => ?_)
          · replace H := H.1 c7
            refine z_aload_n (pc := 35) dX12_cell_35 rfl rfl ?_
            refine z_getk (pc := 36) dX12_cell_36 fX12_26 rfl (s_63_7 S1) ?_
            refine z_bipush (pc := 39) (v := (nI 48)) dX12_cell_39 (by decide) ?_
            refine z_iload_n (pc := 41) dX12_cell_41 rfl rfl ?_
            refine z_imul (pc := 42) dX12_cell_42 ?_
            refine z_iload_n (pc := 43) dX12_cell_43 rfl rfl ?_
            refine z_iadd (pc := 44) dX12_cell_44 ?_
            refine z_iload_n (pc := 45) dX12_cell_45 rfl rfl ?_
            have c8 := H.1
            replace H := H.2
            refine z_iast (pc := 46) dX12_cell_46 c8 ?_
            refine z_iconst (pc := 47) (v := (nI 1)) dX12_cell_47 (by decide) ?_
            exact z_iret (pc := 48) dX12_cell_48 rfl rfl ⟨_, rfl, H⟩
          · replace H := H.2 c7
            refine z_iconst (pc := 33) (v := (nI 0)) dX12_cell_33 (by decide) ?_
            exact z_iret (pc := 34) dX12_cell_34 rfl rfl ⟨_, rfl, H⟩

set_option maxRecDepth 20000 in
theorem bX12_fact_0 {l : Launch} {E : eE} {d bc bs : Nat} {h : aH} {Q : Int32 → aH → Prop} {x1 : Int32} {x2 : Int32} {x3 : Int32} {x4 : Int32} {x5 : Int32} (S : SH h) (H : (vp_in (hI h 63 8) 400 ∧ Q (((hI h 63 8) + (nI 1)) - (nI 1)) (stI (stA (stA (stA (stA (stA h 69 ((hI h 63 8)).toNatClampNeg x1) 70 ((hI h 63 8)).toNatClampNeg x2) 71 ((hI h 63 8)).toNatClampNeg x3) 72 ((hI h 63 8)).toNatClampNeg x4) 73 ((hI h 63 8)).toNatClampNeg (vp_nar .boolean x5)) 63 8 ((hI h 63 8) + (nI 1))))) : CI l E d bc bs mX12_fact [.inr (some (0, 12, 63)), .inl x1, .inl x2, .inl x3, .inl x4, .inl x5] h Q := by
  refine CI.of (by decide) rfl ?_
  show TI l E mX12_fact d bc bs 0 [some (.inr (some (0, 12, 63))), some (.inl x1), some (.inl x2), some (.inl x3), some (.inl x4), some (.inl x5)] [] h Q
  refine z_aload_n (pc := 0) dX12_fact_0 rfl rfl ?_
  refine z_getk (pc := 1) dX12_fact_1 fX12_29 rfl (s_63_9 S) ?_
  refine z_aload_n (pc := 4) dX12_fact_4 rfl rfl ?_
  refine z_geti (pc := 5) dX12_fact_5 fX12_129 rfl ?_
  refine z_iload_n (pc := 8) dX12_fact_8 rfl rfl ?_
  have c1 := H.1
  replace H := H.2
  refine z_iast (pc := 9) dX12_fact_9 c1 ?_
  refine z_aload_n (pc := 10) dX12_fact_10 rfl rfl ?_
  refine z_getk (pc := 11) dX12_fact_11 fX12_32 rfl (s_63_10 S) ?_
  refine z_aload_n (pc := 14) dX12_fact_14 rfl rfl ?_
  refine z_geti (pc := 15) dX12_fact_15 fX12_129 rfl ?_
  refine z_iload_n (pc := 18) dX12_fact_18 rfl rfl ?_
  refine z_iast (pc := 19) dX12_fact_19 c1 ?_
  refine z_aload_n (pc := 20) dX12_fact_20 rfl rfl ?_
  refine z_getk (pc := 21) dX12_fact_21 fX12_35 rfl (s_63_11 S) ?_
  refine z_aload_n (pc := 24) dX12_fact_24 rfl rfl ?_
  refine z_geti (pc := 25) dX12_fact_25 fX12_129 rfl ?_
  refine z_iload_n (pc := 28) dX12_fact_28 rfl rfl ?_
  refine z_iast (pc := 29) dX12_fact_29 c1 ?_
  refine z_aload_n (pc := 30) dX12_fact_30 rfl rfl ?_
  refine z_getk (pc := 31) dX12_fact_31 fX12_38 rfl (s_63_12 S) ?_
  refine z_aload_n (pc := 34) dX12_fact_34 rfl rfl ?_
  refine z_geti (pc := 35) dX12_fact_35 fX12_129 rfl ?_
  refine z_iload (pc := 38) dX12_fact_38 rfl ?_
  refine z_iast (pc := 40) dX12_fact_40 c1 ?_
  refine z_aload_n (pc := 41) dX12_fact_41 rfl rfl ?_
  refine z_getk (pc := 42) dX12_fact_42 fX12_41 rfl (s_63_13 S) ?_
  refine z_aload_n (pc := 45) dX12_fact_45 rfl rfl ?_
  refine z_geti (pc := 46) dX12_fact_46 fX12_129 rfl ?_
  refine z_iload (pc := 49) dX12_fact_49 rfl ?_
  refine z_zast (pc := 51) dX12_fact_51 c1 ?_
  refine z_aload_n (pc := 52) dX12_fact_52 rfl rfl ?_
  refine z_dup (pc := 53) dX12_fact_53 ?_
  refine z_geti (pc := 54) dX12_fact_54 fX12_129 rfl ?_
  refine z_iconst (pc := 57) (v := (nI 1)) dX12_fact_57 (by decide) ?_
  refine z_iadd (pc := 58) dX12_fact_58 ?_
  refine z_puti (pc := 59) dX12_fact_59 fX12_129 (uX12_8 _) rfl rfl rfl ?_
  refine z_aload_n (pc := 62) dX12_fact_62 rfl rfl ?_
  refine z_geti (pc := 63) dX12_fact_63 fX12_129 rfl ?_
  refine z_iconst (pc := 66) (v := (nI 1)) dX12_fact_66 (by decide) ?_
  refine z_isub (pc := 67) dX12_fact_67 ?_
  exact z_iret (pc := 68) dX12_fact_68 rfl rfl ⟨_, rfl, H⟩

set_option maxRecDepth 20000 in
theorem bX12_change_0 {l : Launch} {E : eE} {d bc bs : Nat} {h : aH} {Q : Int32 → aH → Prop} {x1 : Int32} {x2 : Int32} {x3 : Int32} (S : SH h) (H : (((hI h 63 8) = (nI 400) → Q (-1) h) ∧ (¬ (hI h 63 8) = (nI 400) → (CI l E d 0 0 mX12_isLand [.inr (some (0, 12, 63)), .inl x1] h (fun v2 h2 => SH h2 ∧ ((v2 = 0 → Q (-1) h2) ∧ (¬ v2 = 0 → ((x2 < 0 → Q (-1) h2) ∧ (¬ x2 < 0 → (((nI 17472) ≤ x2 → Q (-1) h2) ∧ (¬ (nI 17472) ≤ x2 → (CI l E d 0 0 mX12_isOffset [.inl x3] h2 (fun v6 h6 => SH h6 ∧ ((¬ v6 = 0 → (CI l E d 0 0 mX12_fact [.inr (some (0, 12, 63)), .inl (nI 0), .inl x1, .inl x2, .inl x3, .inl (nI 0)] h6 (fun v8 h8 => SH h8 ∧ Q v8 h8))) ∧ (v6 = 0 → Q (-1) h6))))))))))))))) : CI l E (d + 1) bc bs mX12_change [.inr (some (0, 12, 63)), .inl x1, .inl x2, .inl x3] h Q := by
  refine CI.of (by decide) rfl ?_
  show TI l E mX12_change (d + 1) bc bs 0 [some (.inr (some (0, 12, 63))), some (.inl x1), some (.inl x2), some (.inl x3)] [] h Q
  refine z_aload_n (pc := 0) dX12_change_0 rfl rfl ?_
  refine z_geti (pc := 1) dX12_change_1 fX12_129 rfl ?_
  refine z_sipush (pc := 4) (v := (nI 400)) dX12_change_4 (by decide) ?_
  refine z_icmp_eq (pc := 7) (tgt := 36) dX12_change_7 (by decide) (fun c1 => ?_) (fun c1 => ?_)
  · replace H := H.1 c1
    refine z_iconst (pc := 36) (v := (-1)) dX12_change_36 (by decide) ?_
    refine z_goto (pc := 37) (tgt := 49) dX12_change_37 (by decide) ?_
    exact z_iret (pc := 49) dX12_change_49 rfl rfl ⟨_, rfl, H⟩
  · replace H := H.2 c1
    refine z_aload_n (pc := 10) dX12_change_10 rfl rfl ?_
    refine z_iload_n (pc := 11) dX12_change_11 rfl rfl ?_
    refine y_VI (pc := 12) (bc := bc) (bs := bs) (mc := 0) (ms := 0) (As := [.inl x1]) (rest := []) dX12_change_12 kX12_isLand lX12_136 ⟨_, _, rfl⟩ rfl rfl (H.use (fun v2 h2 H => ?_))
    have S2 := H.1
    replace H := H.2
    refine z_if_eq (pc := 15) (tgt := 36) dX12_change_15 (by decide) (fun c3 => ?_) (fun c3 => ?_)
    · replace H := H.1 c3
      refine z_iconst (pc := 36) (v := (-1)) dX12_change_36 (by decide) ?_
      refine z_goto (pc := 37) (tgt := 49) dX12_change_37 (by decide) ?_
      exact z_iret (pc := 49) dX12_change_49 rfl rfl ⟨_, rfl, H⟩
    · replace H := H.2 c3
      refine z_iload_n (pc := 18) dX12_change_18 rfl rfl ?_
      refine z_if_lt (pc := 19) (tgt := 36) dX12_change_19 (by decide) (fun c4 => ?_) (fun c4 => ?_)
      · replace H := H.1 c4
        refine z_iconst (pc := 36) (v := (-1)) dX12_change_36 (by decide) ?_
        refine z_goto (pc := 37) (tgt := 49) dX12_change_37 (by decide) ?_
        exact z_iret (pc := 49) dX12_change_49 rfl rfl ⟨_, rfl, H⟩
      · replace H := H.2 c4
        refine z_iload_n (pc := 22) dX12_change_22 rfl rfl ?_
        refine z_sipush (pc := 23) (v := (nI 17472)) dX12_change_23 (by decide) ?_
        refine z_icmp_ge (pc := 26) (tgt := 36) dX12_change_26 (by decide) (fun c5 => ?_) (fun c5 => ?_)
        · replace H := H.1 c5
          refine z_iconst (pc := 36) (v := (-1)) dX12_change_36 (by decide) ?_
          refine z_goto (pc := 37) (tgt := 49) dX12_change_37 (by decide) ?_
          exact z_iret (pc := 49) dX12_change_49 rfl rfl ⟨_, rfl, H⟩
        · replace H := H.2 c5
          refine z_iload_n (pc := 29) dX12_change_29 rfl rfl ?_
          refine y_SI (pc := 30) (bc := bc) (bs := bs) (mc := 0) (ms := 0) (As := [.inl x3]) (rest := []) dX12_change_30 kX12_isOffset lX12_132 rfl rfl (H.use (fun v6 h6 H => ?_))
          have S6 := H.1
          replace H := H.2
          refine z_if_ne (pc := 33) (tgt := 40) dX12_change_33 (by decide) (fun c7 => ?_) (fun c7 => ?_)
          · replace H := H.1 c7
            refine z_aload_n (pc := 40) dX12_change_40 rfl rfl ?_
            refine z_iconst (pc := 41) (v := (nI 0)) dX12_change_41 (by decide) ?_
            refine z_iload_n (pc := 42) dX12_change_42 rfl rfl ?_
            refine z_iload_n (pc := 43) dX12_change_43 rfl rfl ?_
            refine z_iload_n (pc := 44) dX12_change_44 rfl rfl ?_
            refine z_iconst (pc := 45) (v := (nI 0)) dX12_change_45 (by decide) ?_
            refine y_VI (pc := 46) (bc := bc) (bs := bs) (mc := 0) (ms := 0) (As := [.inl (nI 0), .inl x1, .inl x2, .inl x3, .inl (nI 0)]) (rest := []) dX12_change_46 kX12_fact lX12_142 ⟨_, _, rfl⟩ rfl rfl (H.use (fun v8 h8 H => ?_))
            have S8 := H.1
            replace H := H.2
            exact z_iret (pc := 49) dX12_change_49 rfl rfl ⟨_, rfl, H⟩
          · replace H := H.2 c7
            refine z_iconst (pc := 36) (v := (-1)) dX12_change_36 (by decide) ?_
            refine z_goto (pc := 37) (tgt := 49) dX12_change_37 (by decide) ?_
            exact z_iret (pc := 49) dX12_change_49 rfl rfl ⟨_, rfl, H⟩

set_option maxRecDepth 20000 in
theorem bX12_feast_0 {l : Launch} {E : eE} {d bc bs : Nat} {h : aH} {Q : Int32 → aH → Prop} {x1 : Int32} {x2 : Int32} (S : SH h) (H : (((hI h 63 8) = (nI 400) → Q (-1) h) ∧ (¬ (hI h 63 8) = (nI 400) → (CI l E d 0 0 mX12_isLand [.inr (some (0, 12, 63)), .inl x1] h (fun v2 h2 => SH h2 ∧ ((v2 = 0 → Q (-1) h2) ∧ (¬ v2 = 0 → ((x2 < 0 → Q (-1) h2) ∧ (¬ x2 < 0 → ((x2 ≤ (nI 363) → (CI l E d 0 0 mX12_fact [.inr (some (0, 12, 63)), .inl (nI 1), .inl x1, .inl x2, .inl (nI 0), .inl (nI 0)] h2 (fun v6 h6 => SH h6 ∧ Q v6 h6))) ∧ (¬ x2 ≤ (nI 363) → Q (-1) h2))))))))))) : CI l E (d + 1) bc bs mX12_feast [.inr (some (0, 12, 63)), .inl x1, .inl x2] h Q := by
  refine CI.of (by decide) rfl ?_
  show TI l E mX12_feast (d + 1) bc bs 0 [some (.inr (some (0, 12, 63))), some (.inl x1), some (.inl x2)] [] h Q
  refine z_aload_n (pc := 0) dX12_feast_0 rfl rfl ?_
  refine z_geti (pc := 1) dX12_feast_1 fX12_129 rfl ?_
  refine z_sipush (pc := 4) (v := (nI 400)) dX12_feast_4 (by decide) ?_
  refine z_icmp_eq (pc := 7) (tgt := 29) dX12_feast_7 (by decide) (fun c1 => ?_) (fun c1 => ?_)
  · replace H := H.1 c1
    refine z_iconst (pc := 29) (v := (-1)) dX12_feast_29 (by decide) ?_
    refine z_goto (pc := 30) (tgt := 42) dX12_feast_30 (by decide) ?_
    exact z_iret (pc := 42) dX12_feast_42 rfl rfl ⟨_, rfl, H⟩
  · replace H := H.2 c1
    refine z_aload_n (pc := 10) dX12_feast_10 rfl rfl ?_
    refine z_iload_n (pc := 11) dX12_feast_11 rfl rfl ?_
    refine y_VI (pc := 12) (bc := bc) (bs := bs) (mc := 0) (ms := 0) (As := [.inl x1]) (rest := []) dX12_feast_12 kX12_isLand lX12_136 ⟨_, _, rfl⟩ rfl rfl (H.use (fun v2 h2 H => ?_))
    have S2 := H.1
    replace H := H.2
    refine z_if_eq (pc := 15) (tgt := 29) dX12_feast_15 (by decide) (fun c3 => ?_) (fun c3 => ?_)
    · replace H := H.1 c3
      refine z_iconst (pc := 29) (v := (-1)) dX12_feast_29 (by decide) ?_
      refine z_goto (pc := 30) (tgt := 42) dX12_feast_30 (by decide) ?_
      exact z_iret (pc := 42) dX12_feast_42 rfl rfl ⟨_, rfl, H⟩
    · replace H := H.2 c3
      refine z_iload_n (pc := 18) dX12_feast_18 rfl rfl ?_
      refine z_if_lt (pc := 19) (tgt := 29) dX12_feast_19 (by decide) (fun c4 => ?_) (fun c4 => ?_)
      · replace H := H.1 c4
        refine z_iconst (pc := 29) (v := (-1)) dX12_feast_29 (by decide) ?_
        refine z_goto (pc := 30) (tgt := 42) dX12_feast_30 (by decide) ?_
        exact z_iret (pc := 42) dX12_feast_42 rfl rfl ⟨_, rfl, H⟩
      · replace H := H.2 c4
        refine z_iload_n (pc := 22) dX12_feast_22 rfl rfl ?_
        refine z_sipush (pc := 23) (v := (nI 363)) dX12_feast_23 (by decide) ?_
        refine z_icmp_le (pc := 26) (tgt := 33) dX12_feast_26 (by decide) (fun c5 => ?_) (fun c5 => ?_)
        · replace H := H.1 c5
          refine z_aload_n (pc := 33) dX12_feast_33 rfl rfl ?_
          refine z_iconst (pc := 34) (v := (nI 1)) dX12_feast_34 (by decide) ?_
          refine z_iload_n (pc := 35) dX12_feast_35 rfl rfl ?_
          refine z_iload_n (pc := 36) dX12_feast_36 rfl rfl ?_
          refine z_iconst (pc := 37) (v := (nI 0)) dX12_feast_37 (by decide) ?_
          refine z_iconst (pc := 38) (v := (nI 0)) dX12_feast_38 (by decide) ?_
          refine y_VI (pc := 39) (bc := bc) (bs := bs) (mc := 0) (ms := 0) (As := [.inl (nI 1), .inl x1, .inl x2, .inl (nI 0), .inl (nI 0)]) (rest := []) dX12_feast_39 kX12_fact lX12_142 ⟨_, _, rfl⟩ rfl rfl (H.use (fun v6 h6 H => ?_))
          have S6 := H.1
          replace H := H.2
          exact z_iret (pc := 42) dX12_feast_42 rfl rfl ⟨_, rfl, H⟩
        · replace H := H.2 c5
          refine z_iconst (pc := 29) (v := (-1)) dX12_feast_29 (by decide) ?_
          refine z_goto (pc := 30) (tgt := 42) dX12_feast_30 (by decide) ?_
          exact z_iret (pc := 42) dX12_feast_42 rfl rfl ⟨_, rfl, H⟩

set_option maxRecDepth 20000 in
theorem bX12_busy_0 {l : Launch} {E : eE} {d bc bs : Nat} {h : aH} {Q : Int32 → aH → Prop} {x1 : Int32} {x2 : Int32} {x3 : Int32} {x4 : Int32} (S : SH h) (H : (((hI h 63 8) = (nI 400) → Q (-1) h) ∧ (¬ (hI h 63 8) = (nI 400) → (CI l E d 0 0 mX12_isPerson [.inr (some (0, 12, 63)), .inl x1] h (fun v2 h2 => SH h2 ∧ ((v2 = 0 → Q (-1) h2) ∧ (¬ v2 = 0 → ((x2 < 0 → Q (-1) h2) ∧ (¬ x2 < 0 → ((x3 ≤ x2 → Q (-1) h2) ∧ (¬ x3 ≤ x2 → ((x3 ≤ (nI 17472) → (CI l E d 0 0 mX12_fact [.inr (some (0, 12, 63)), .inl (nI 2), .inl x1, .inl x2, .inl x3, .inl x4] h2 (fun v7 h7 => SH h7 ∧ Q v7 h7))) ∧ (¬ x3 ≤ (nI 17472) → Q (-1) h2))))))))))))) : CI l E (d + 1) bc bs mX12_busy [.inr (some (0, 12, 63)), .inl x1, .inl x2, .inl x3, .inl x4] h Q := by
  refine CI.of (by decide) rfl ?_
  show TI l E mX12_busy (d + 1) bc bs 0 [some (.inr (some (0, 12, 63))), some (.inl x1), some (.inl x2), some (.inl x3), some (.inl x4)] [] h Q
  refine z_aload_n (pc := 0) dX12_busy_0 rfl rfl ?_
  refine z_geti (pc := 1) dX12_busy_1 fX12_129 rfl ?_
  refine z_sipush (pc := 4) (v := (nI 400)) dX12_busy_4 (by decide) ?_
  refine z_icmp_eq (pc := 7) (tgt := 34) dX12_busy_7 (by decide) (fun c1 => ?_) (fun c1 => ?_)
  · replace H := H.1 c1
    refine z_iconst (pc := 34) (v := (-1)) dX12_busy_34 (by decide) ?_
    refine z_goto (pc := 35) (tgt := 48) dX12_busy_35 (by decide) ?_
    exact z_iret (pc := 48) dX12_busy_48 rfl rfl ⟨_, rfl, H⟩
  · replace H := H.2 c1
    refine z_aload_n (pc := 10) dX12_busy_10 rfl rfl ?_
    refine z_iload_n (pc := 11) dX12_busy_11 rfl rfl ?_
    refine y_VI (pc := 12) (bc := bc) (bs := bs) (mc := 0) (ms := 0) (As := [.inl x1]) (rest := []) dX12_busy_12 kX12_isPerson lX12_139 ⟨_, _, rfl⟩ rfl rfl (H.use (fun v2 h2 H => ?_))
    have S2 := H.1
    replace H := H.2
    refine z_if_eq (pc := 15) (tgt := 34) dX12_busy_15 (by decide) (fun c3 => ?_) (fun c3 => ?_)
    · replace H := H.1 c3
      refine z_iconst (pc := 34) (v := (-1)) dX12_busy_34 (by decide) ?_
      refine z_goto (pc := 35) (tgt := 48) dX12_busy_35 (by decide) ?_
      exact z_iret (pc := 48) dX12_busy_48 rfl rfl ⟨_, rfl, H⟩
    · replace H := H.2 c3
      refine z_iload_n (pc := 18) dX12_busy_18 rfl rfl ?_
      refine z_if_lt (pc := 19) (tgt := 34) dX12_busy_19 (by decide) (fun c4 => ?_) (fun c4 => ?_)
      · replace H := H.1 c4
        refine z_iconst (pc := 34) (v := (-1)) dX12_busy_34 (by decide) ?_
        refine z_goto (pc := 35) (tgt := 48) dX12_busy_35 (by decide) ?_
        exact z_iret (pc := 48) dX12_busy_48 rfl rfl ⟨_, rfl, H⟩
      · replace H := H.2 c4
        refine z_iload_n (pc := 22) dX12_busy_22 rfl rfl ?_
        refine z_iload_n (pc := 23) dX12_busy_23 rfl rfl ?_
        refine z_icmp_ge (pc := 24) (tgt := 34) dX12_busy_24 (by decide) (fun c5 => ?_) (fun c5 => ?_)
        · replace H := H.1 c5
          refine z_iconst (pc := 34) (v := (-1)) dX12_busy_34 (by decide) ?_
          refine z_goto (pc := 35) (tgt := 48) dX12_busy_35 (by decide) ?_
          exact z_iret (pc := 48) dX12_busy_48 rfl rfl ⟨_, rfl, H⟩
        · replace H := H.2 c5
          refine z_iload_n (pc := 27) dX12_busy_27 rfl rfl ?_
          refine z_sipush (pc := 28) (v := (nI 17472)) dX12_busy_28 (by decide) ?_
          refine z_icmp_le (pc := 31) (tgt := 38) dX12_busy_31 (by decide) (fun c6 => ?_) (fun c6 => ?_)
          · replace H := H.1 c6
            refine z_aload_n (pc := 38) dX12_busy_38 rfl rfl ?_
            refine z_iconst (pc := 39) (v := (nI 2)) dX12_busy_39 (by decide) ?_
            refine z_iload_n (pc := 40) dX12_busy_40 rfl rfl ?_
            refine z_iload_n (pc := 41) dX12_busy_41 rfl rfl ?_
            refine z_iload_n (pc := 42) dX12_busy_42 rfl rfl ?_
            refine z_iload (pc := 43) dX12_busy_43 rfl ?_
            refine y_VI (pc := 45) (bc := bc) (bs := bs) (mc := 0) (ms := 0) (As := [.inl (nI 2), .inl x1, .inl x2, .inl x3, .inl x4]) (rest := []) dX12_busy_45 kX12_fact lX12_142 ⟨_, _, rfl⟩ rfl rfl (H.use (fun v7 h7 H => ?_))
            have S7 := H.1
            replace H := H.2
            exact z_iret (pc := 48) dX12_busy_48 rfl rfl ⟨_, rfl, H⟩
          · replace H := H.2 c6
            refine z_iconst (pc := 34) (v := (-1)) dX12_busy_34 (by decide) ?_
            refine z_goto (pc := 35) (tgt := 48) dX12_busy_35 (by decide) ?_
            exact z_iret (pc := 48) dX12_busy_48 rfl rfl ⟨_, rfl, H⟩

set_option maxRecDepth 20000 in
theorem bX12_cant_0 {l : Launch} {E : eE} {d bc bs : Nat} {h : aH} {Q : Int32 → aH → Prop} {x1 : Int32} {x2 : Int32} {x3 : Int32} (S : SH h) (H : (((hI h 63 8) = (nI 400) → Q (-1) h) ∧ (¬ (hI h 63 8) = (nI 400) → (CI l E d 0 0 mX12_isPerson [.inr (some (0, 12, 63)), .inl x1] h (fun v2 h2 => SH h2 ∧ ((v2 = 0 → Q (-1) h2) ∧ (¬ v2 = 0 → (CI l E d 0 0 mX12_isSeries [.inr (some (0, 12, 63)), .inl x2] h2 (fun v4 h4 => SH h4 ∧ ((v4 = 0 → Q (-1) h4) ∧ (¬ v4 = 0 → (CI l E d 0 0 mX12_isWeek [.inl x3] h4 (fun v6 h6 => SH h6 ∧ ((¬ v6 = 0 → (CI l E d 0 0 mX12_fact [.inr (some (0, 12, 63)), .inl (nI 3), .inl x1, .inl x2, .inl x3, .inl (nI 0)] h6 (fun v8 h8 => SH h8 ∧ Q v8 h8))) ∧ (v6 = 0 → Q (-1) h6))))))))))))))) : CI l E (d + 1) bc bs mX12_cant [.inr (some (0, 12, 63)), .inl x1, .inl x2, .inl x3] h Q := by
  refine CI.of (by decide) rfl ?_
  show TI l E mX12_cant (d + 1) bc bs 0 [some (.inr (some (0, 12, 63))), some (.inl x1), some (.inl x2), some (.inl x3)] [] h Q
  refine z_aload_n (pc := 0) dX12_cant_0 rfl rfl ?_
  refine z_geti (pc := 1) dX12_cant_1 fX12_129 rfl ?_
  refine z_sipush (pc := 4) (v := (nI 400)) dX12_cant_4 (by decide) ?_
  refine z_icmp_eq (pc := 7) (tgt := 33) dX12_cant_7 (by decide) (fun c1 => ?_) (fun c1 => ?_)
  · replace H := H.1 c1
    refine z_iconst (pc := 33) (v := (-1)) dX12_cant_33 (by decide) ?_
    refine z_goto (pc := 34) (tgt := 46) dX12_cant_34 (by decide) ?_
    exact z_iret (pc := 46) dX12_cant_46 rfl rfl ⟨_, rfl, H⟩
  · replace H := H.2 c1
    refine z_aload_n (pc := 10) dX12_cant_10 rfl rfl ?_
    refine z_iload_n (pc := 11) dX12_cant_11 rfl rfl ?_
    refine y_VI (pc := 12) (bc := bc) (bs := bs) (mc := 0) (ms := 0) (As := [.inl x1]) (rest := []) dX12_cant_12 kX12_isPerson lX12_139 ⟨_, _, rfl⟩ rfl rfl (H.use (fun v2 h2 H => ?_))
    have S2 := H.1
    replace H := H.2
    refine z_if_eq (pc := 15) (tgt := 33) dX12_cant_15 (by decide) (fun c3 => ?_) (fun c3 => ?_)
    · replace H := H.1 c3
      refine z_iconst (pc := 33) (v := (-1)) dX12_cant_33 (by decide) ?_
      refine z_goto (pc := 34) (tgt := 46) dX12_cant_34 (by decide) ?_
      exact z_iret (pc := 46) dX12_cant_46 rfl rfl ⟨_, rfl, H⟩
    · replace H := H.2 c3
      refine z_aload_n (pc := 18) dX12_cant_18 rfl rfl ?_
      refine z_iload_n (pc := 19) dX12_cant_19 rfl rfl ?_
      refine y_VI (pc := 20) (bc := bc) (bs := bs) (mc := 0) (ms := 0) (As := [.inl x2]) (rest := []) dX12_cant_20 kX12_isSeries lX12_146 ⟨_, _, rfl⟩ rfl rfl (H.use (fun v4 h4 H => ?_))
      have S4 := H.1
      replace H := H.2
      refine z_if_eq (pc := 23) (tgt := 33) dX12_cant_23 (by decide) (fun c5 => ?_) (fun c5 => ?_)
      · replace H := H.1 c5
        refine z_iconst (pc := 33) (v := (-1)) dX12_cant_33 (by decide) ?_
        refine z_goto (pc := 34) (tgt := 46) dX12_cant_34 (by decide) ?_
        exact z_iret (pc := 46) dX12_cant_46 rfl rfl ⟨_, rfl, H⟩
      · replace H := H.2 c5
        refine z_iload_n (pc := 26) dX12_cant_26 rfl rfl ?_
        refine y_SI (pc := 27) (bc := bc) (bs := bs) (mc := 0) (ms := 0) (As := [.inl x3]) (rest := []) dX12_cant_27 kX12_isWeek lX12_149 rfl rfl (H.use (fun v6 h6 H => ?_))
        have S6 := H.1
        replace H := H.2
        refine z_if_ne (pc := 30) (tgt := 37) dX12_cant_30 (by decide) (fun c7 => ?_) (fun c7 => ?_)
        · replace H := H.1 c7
          refine z_aload_n (pc := 37) dX12_cant_37 rfl rfl ?_
          refine z_iconst (pc := 38) (v := (nI 3)) dX12_cant_38 (by decide) ?_
          refine z_iload_n (pc := 39) dX12_cant_39 rfl rfl ?_
          refine z_iload_n (pc := 40) dX12_cant_40 rfl rfl ?_
          refine z_iload_n (pc := 41) dX12_cant_41 rfl rfl ?_
          refine z_iconst (pc := 42) (v := (nI 0)) dX12_cant_42 (by decide) ?_
          refine y_VI (pc := 43) (bc := bc) (bs := bs) (mc := 0) (ms := 0) (As := [.inl (nI 3), .inl x1, .inl x2, .inl x3, .inl (nI 0)]) (rest := []) dX12_cant_43 kX12_fact lX12_142 ⟨_, _, rfl⟩ rfl rfl (H.use (fun v8 h8 H => ?_))
          have S8 := H.1
          replace H := H.2
          exact z_iret (pc := 46) dX12_cant_46 rfl rfl ⟨_, rfl, H⟩
        · replace H := H.2 c7
          refine z_iconst (pc := 33) (v := (-1)) dX12_cant_33 (by decide) ?_
          refine z_goto (pc := 34) (tgt := 46) dX12_cant_34 (by decide) ?_
          exact z_iret (pc := 46) dX12_cant_46 rfl rfl ⟨_, rfl, H⟩

abbrev LX12_offsetAt_6 (l : Launch) (E : eE) (d bc bs : Nat) (x1 : Int32) (x2 : Int32) (x3 : Int32) (x4 : Int32) (x5 : Int32) (h : aH) (Q : Int32 → aH → Prop) : Prop := TI l E mX12_offsetAt d bc bs 6 [some (.inr (some (0, 12, 63))), some (.inl x1), some (.inl x2), some (.inl x3), some (.inl x4), some (.inl x5)] [] h Q

set_option maxRecDepth 20000 in
theorem bX12_offsetAt_0 {l : Launch} {E : eE} {d bc bs : Nat} {h : aH} {Q : Int32 → aH → Prop} {x1 : Int32} {x2 : Int32} {x3 : Int32} (S : SH h) (H : LX12_offsetAt_6 l E d bc bs x1 x2 x3 (-1) (nI 0) h Q) : CI l E d bc bs mX12_offsetAt [.inr (some (0, 12, 63)), .inl x1, .inl x2, .inl x3] h Q := by
  refine CI.of (by decide) rfl ?_
  show TI l E mX12_offsetAt d bc bs 0 [some (.inr (some (0, 12, 63))), some (.inl x1), some (.inl x2), some (.inl x3), none, none] [] h Q
  refine z_iconst (pc := 0) (v := (-1)) dX12_offsetAt_0 (by decide) ?_
  refine z_istore (pc := 1) (ls' := [some (.inr (some (0, 12, 63))), some (.inl x1), some (.inl x2), some (.inl x3), some (.inl (-1)), none]) dX12_offsetAt_1 rfl rfl ?_
  refine z_iconst (pc := 3) (v := (nI 0)) dX12_offsetAt_3 (by decide) ?_
  refine z_istore (pc := 4) (ls' := [some (.inr (some (0, 12, 63))), some (.inl x1), some (.inl x2), some (.inl x3), some (.inl (-1)), some (.inl (nI 0))]) dX12_offsetAt_4 rfl rfl ?_
  exact H

set_option maxRecDepth 20000 in
theorem bX12_offsetAt_6 {l : Launch} {E : eE} {d bc bs : Nat} {h : aH} {Q : Int32 → aH → Prop} {x1 : Int32} {x2 : Int32} {x3 : Int32} {x4 : Int32} {x5 : Int32} (S : SH h) (H : ((x3 ≤ x5 → ((¬ x4 = (-1) → (vp_in x4 400 ∧ Q (hA h 72 (x4).toNatClampNeg) h)) ∧ (x4 = (-1) → (vp_in x1 8 ∧ Q (hA h 64 (x1).toNatClampNeg) h)))) ∧ (¬ x3 ≤ x5 → (vp_in x5 400 ∧ ((¬ (hA h 69 (x5).toNatClampNeg) = 0 → LX12_offsetAt_6 l E d bc bs x1 x2 x3 x4 (x5 + (nI 1)) h Q) ∧ ((hA h 69 (x5).toNatClampNeg) = 0 → ((¬ (hA h 70 (x5).toNatClampNeg) = x1 → LX12_offsetAt_6 l E d bc bs x1 x2 x3 x4 (x5 + (nI 1)) h Q) ∧ ((hA h 70 (x5).toNatClampNeg) = x1 → ((x2 < (hA h 71 (x5).toNatClampNeg) → LX12_offsetAt_6 l E d bc bs x1 x2 x3 x4 (x5 + (nI 1)) h Q) ∧ (¬ x2 < (hA h 71 (x5).toNatClampNeg) → ((x4 = (-1) → LX12_offsetAt_6 l E d bc bs x1 x2 x3 x5 (x5 + (nI 1)) h Q) ∧ (¬ x4 = (-1) → (vp_in x4 400 ∧ (((hA h 71 (x5).toNatClampNeg) < (hA h 71 (x4).toNatClampNeg) → LX12_offsetAt_6 l E d bc bs x1 x2 x3 x4 (x5 + (nI 1)) h Q) ∧ (¬ (hA h 71 (x5).toNatClampNeg) < (hA h 71 (x4).toNatClampNeg) → LX12_offsetAt_6 l E d bc bs x1 x2 x3 x5 (x5 + (nI 1)) h Q))))))))))))))) : LX12_offsetAt_6 l E d bc bs x1 x2 x3 x4 x5 h Q := by
  refine z_iload (pc := 6) dX12_offsetAt_6 rfl ?_
  refine z_iload_n (pc := 8) dX12_offsetAt_8 rfl rfl ?_
  refine z_icmp_ge (pc := 9) (tgt := 77) dX12_offsetAt_9 (by decide) (fun c1 => ?_) (fun c1 => ?_)
  · replace H := H.1 c1
    refine z_iload (pc := 77) dX12_offsetAt_77 rfl ?_
    refine z_iconst (pc := 79) (v := (-1)) dX12_offsetAt_79 (by decide) ?_
    refine z_icmp_ne (pc := 80) (tgt := 92) dX12_offsetAt_80 (by decide) (fun c2 => ?_) (fun c2 => ?_)
    · replace H := H.1 c2
      refine z_aload_n (pc := 92) dX12_offsetAt_92 rfl rfl ?_
      refine z_getk (pc := 93) dX12_offsetAt_93 fX12_38 rfl (s_63_12 S) ?_
      refine z_iload (pc := 96) dX12_offsetAt_96 rfl ?_
      have c3 := H.1
      replace H := H.2
      refine z_iald (pc := 98) dX12_offsetAt_98 c3 ?_
      exact z_iret (pc := 99) dX12_offsetAt_99 rfl rfl ⟨_, rfl, H⟩
    · replace H := H.2 c2
      refine z_aload_n (pc := 83) dX12_offsetAt_83 rfl rfl ?_
      refine z_getk (pc := 84) dX12_offsetAt_84 fX12_13 rfl (s_63_2 S) ?_
      refine z_iload_n (pc := 87) dX12_offsetAt_87 rfl rfl ?_
      have c4 := H.1
      replace H := H.2
      refine z_iald (pc := 88) dX12_offsetAt_88 c4 ?_
      refine z_goto (pc := 89) (tgt := 99) dX12_offsetAt_89 (by decide) ?_
      exact z_iret (pc := 99) dX12_offsetAt_99 rfl rfl ⟨_, rfl, H⟩
  · replace H := H.2 c1
    refine z_aload_n (pc := 12) dX12_offsetAt_12 rfl rfl ?_
    refine z_getk (pc := 13) dX12_offsetAt_13 fX12_29 rfl (s_63_9 S) ?_
    refine z_iload (pc := 16) dX12_offsetAt_16 rfl ?_
    have c5 := H.1
    replace H := H.2
    refine z_iald (pc := 18) dX12_offsetAt_18 c5 ?_
    refine z_if_ne (pc := 19) (tgt := 71) dX12_offsetAt_19 (by decide) (fun c6 => ?_) (fun c6 => ?_)
    · replace H := H.1 c6
      refine z_iinc (pc := 71) (v := (x5 + (nI 1))) (ls' := [some (.inr (some (0, 12, 63))), some (.inl x1), some (.inl x2), some (.inl x3), some (.inl x4), some (.inl (x5 + (nI 1)))]) dX12_offsetAt_71 rfl (by rw [show Int32.ofInt (1) = (nI 1) by decide]) rfl ?_
      refine z_goto (pc := 74) (tgt := 6) dX12_offsetAt_74 (by decide) ?_
      exact H
    · replace H := H.2 c6
      refine z_aload_n (pc := 22) dX12_offsetAt_22 rfl rfl ?_
      refine z_getk (pc := 23) dX12_offsetAt_23 fX12_32 rfl (s_63_10 S) ?_
      refine z_iload (pc := 26) dX12_offsetAt_26 rfl ?_
      refine z_iald (pc := 28) dX12_offsetAt_28 c5 ?_
      refine z_iload_n (pc := 29) dX12_offsetAt_29 rfl rfl ?_
      refine z_icmp_ne (pc := 30) (tgt := 71) dX12_offsetAt_30 (by decide) (fun c7 => ?_) (fun c7 => ?_)
      · replace H := H.1 c7
        refine z_iinc (pc := 71) (v := (x5 + (nI 1))) (ls' := [some (.inr (some (0, 12, 63))), some (.inl x1), some (.inl x2), some (.inl x3), some (.inl x4), some (.inl (x5 + (nI 1)))]) dX12_offsetAt_71 rfl (by rw [show Int32.ofInt (1) = (nI 1) by decide]) rfl ?_
        refine z_goto (pc := 74) (tgt := 6) dX12_offsetAt_74 (by decide) ?_
        exact H
      · replace H := H.2 c7
        refine z_aload_n (pc := 33) dX12_offsetAt_33 rfl rfl ?_
        refine z_getk (pc := 34) dX12_offsetAt_34 fX12_35 rfl (s_63_11 S) ?_
        refine z_iload (pc := 37) dX12_offsetAt_37 rfl ?_
        refine z_iald (pc := 39) dX12_offsetAt_39 c5 ?_
        refine z_iload_n (pc := 40) dX12_offsetAt_40 rfl rfl ?_
        refine z_icmp_gt (pc := 41) (tgt := 71) dX12_offsetAt_41 (by decide) (fun c8 => ?_) (fun c8 => ?_)
        · replace H := H.1 c8
          refine z_iinc (pc := 71) (v := (x5 + (nI 1))) (ls' := [some (.inr (some (0, 12, 63))), some (.inl x1), some (.inl x2), some (.inl x3), some (.inl x4), some (.inl (x5 + (nI 1)))]) dX12_offsetAt_71 rfl (by rw [show Int32.ofInt (1) = (nI 1) by decide]) rfl ?_
          refine z_goto (pc := 74) (tgt := 6) dX12_offsetAt_74 (by decide) ?_
          exact H
        · replace H := H.2 c8
          refine z_iload (pc := 44) dX12_offsetAt_44 rfl ?_
          refine z_iconst (pc := 46) (v := (-1)) dX12_offsetAt_46 (by decide) ?_
          refine z_icmp_eq (pc := 47) (tgt := 67) dX12_offsetAt_47 (by decide) (fun c9 => ?_) (fun c9 => ?_)
          · replace H := H.1 c9
            refine z_iload (pc := 67) dX12_offsetAt_67 rfl ?_
            refine z_istore (pc := 69) (ls' := [some (.inr (some (0, 12, 63))), some (.inl x1), some (.inl x2), some (.inl x3), some (.inl x5), some (.inl x5)]) dX12_offsetAt_69 rfl rfl ?_
            refine z_iinc (pc := 71) (v := (x5 + (nI 1))) (ls' := [some (.inr (some (0, 12, 63))), some (.inl x1), some (.inl x2), some (.inl x3), some (.inl x5), some (.inl (x5 + (nI 1)))]) dX12_offsetAt_71 rfl (by rw [show Int32.ofInt (1) = (nI 1) by decide]) rfl ?_
            refine z_goto (pc := 74) (tgt := 6) dX12_offsetAt_74 (by decide) ?_
            exact H
          · replace H := H.2 c9
            refine z_aload_n (pc := 50) dX12_offsetAt_50 rfl rfl ?_
            refine z_getk (pc := 51) dX12_offsetAt_51 fX12_35 rfl (s_63_11 S) ?_
            refine z_iload (pc := 54) dX12_offsetAt_54 rfl ?_
            refine z_iald (pc := 56) dX12_offsetAt_56 c5 ?_
            refine z_aload_n (pc := 57) dX12_offsetAt_57 rfl rfl ?_
            refine z_getk (pc := 58) dX12_offsetAt_58 fX12_35 rfl (s_63_11 S) ?_
            refine z_iload (pc := 61) dX12_offsetAt_61 rfl ?_
            have c10 := H.1
            replace H := H.2
            refine z_iald (pc := 63) dX12_offsetAt_63 c10 ?_
            refine z_icmp_lt (pc := 64) (tgt := 71) dX12_offsetAt_64 (by decide) (fun c11 => ?_) (fun c11 => ?_)
            · replace H := H.1 c11
              refine z_iinc (pc := 71) (v := (x5 + (nI 1))) (ls' := [some (.inr (some (0, 12, 63))), some (.inl x1), some (.inl x2), some (.inl x3), some (.inl x4), some (.inl (x5 + (nI 1)))]) dX12_offsetAt_71 rfl (by rw [show Int32.ofInt (1) = (nI 1) by decide]) rfl ?_
              refine z_goto (pc := 74) (tgt := 6) dX12_offsetAt_74 (by decide) ?_
              exact H
            · replace H := H.2 c11
              refine z_iload (pc := 67) dX12_offsetAt_67 rfl ?_
              refine z_istore (pc := 69) (ls' := [some (.inr (some (0, 12, 63))), some (.inl x1), some (.inl x2), some (.inl x3), some (.inl x5), some (.inl x5)]) dX12_offsetAt_69 rfl rfl ?_
              refine z_iinc (pc := 71) (v := (x5 + (nI 1))) (ls' := [some (.inr (some (0, 12, 63))), some (.inl x1), some (.inl x2), some (.inl x3), some (.inl x5), some (.inl (x5 + (nI 1)))]) dX12_offsetAt_71 rfl (by rw [show Int32.ofInt (1) = (nI 1) by decide]) rfl ?_
              refine z_goto (pc := 74) (tgt := 6) dX12_offsetAt_74 (by decide) ?_
              exact H

set_option maxRecDepth 20000 in
theorem bX12_down_0 {l : Launch} {E : eE} {d bc bs : Nat} {h : aH} {Q : Int32 → aH → Prop} {x0 : Int32} {x1 : Int32} (S : SH h) (H : (¬ x1 = 0 ∧ (¬ x1 = 0 ∧ ((0 ≤ (x0 - x0 / x1 * x1) → Q (x0 / x1) h) ∧ (¬ 0 ≤ (x0 - x0 / x1 * x1) → Q ((x0 / x1) - (nI 1)) h))))) : CI l E d bc bs mX12_down [.inl x0, .inl x1] h Q := by
  refine CI.of (by decide) rfl ?_
  show TI l E mX12_down d bc bs 0 [some (.inl x0), some (.inl x1), none] [] h Q
  refine z_iload_n (pc := 0) dX12_down_0 rfl rfl ?_
  refine z_iload_n (pc := 1) dX12_down_1 rfl rfl ?_
  refine z_idiv (pc := 2) dX12_down_2 H.1 ?_
  replace H := H.2
  refine z_istore_n (pc := 3) (ls' := [some (.inl x0), some (.inl x1), some (.inl (x0 / x1))]) dX12_down_3 rfl rfl rfl ?_
  refine z_iload_n (pc := 4) dX12_down_4 rfl rfl ?_
  refine z_iload_n (pc := 5) dX12_down_5 rfl rfl ?_
  refine z_irem (pc := 6) dX12_down_6 H.1 ?_
  replace H := H.2
  refine z_if_ge (pc := 7) (tgt := 16) dX12_down_7 (by decide) (fun c1 => ?_) (fun c1 => ?_)
  · replace H := H.1 c1
    refine z_iload_n (pc := 16) dX12_down_16 rfl rfl ?_
    exact z_iret (pc := 17) dX12_down_17 rfl rfl ⟨_, rfl, H⟩
  · replace H := H.2 c1
    refine z_iload_n (pc := 10) dX12_down_10 rfl rfl ?_
    refine z_iconst (pc := 11) (v := (nI 1)) dX12_down_11 (by decide) ?_
    refine z_isub (pc := 12) dX12_down_12 ?_
    refine z_goto (pc := 13) (tgt := 17) dX12_down_13 (by decide) ?_
    exact z_iret (pc := 17) dX12_down_17 rfl rfl ⟨_, rfl, H⟩

set_option maxRecDepth 20000 in
theorem bX12_local_0 {l : Launch} {E : eE} {d bc bs : Nat} {h : aH} {Q : Int32 → aH → Prop} {x1 : Int32} {x2 : Int32} {x3 : Int32} {x4 : Int32} (S : SH h) (H : (CI l E d 0 0 mX12_isLand [.inr (some (0, 12, 63)), .inl x1] h (fun v1 h1 => SH h1 ∧ ((v1 = 0 → Q (-1000000) h1) ∧ (¬ v1 = 0 → ((x2 < 0 → Q (-1000000) h1) ∧ (¬ x2 < 0 → (((nI 17472) ≤ x2 → Q (-1000000) h1) ∧ (¬ (nI 17472) ≤ x2 → (CI l E d 0 0 mX12_isKnown [.inr (some (0, 12, 63)), .inl x3] h1 (fun v5 h5 => SH h5 ∧ ((v5 = 0 → Q (-1000000) h5) ∧ (¬ v5 = 0 → ((x4 < 0 → Q (-1000000) h5) ∧ (¬ x4 < 0 → ((x4 ≤ (nI 3) → (CI l E d 0 0 mX12_offsetAt [.inr (some (0, 12, 63)), .inl x1, .inl x2, .inl x3] h5 (fun v9 h9 => SH h9 ∧ (CI l E d 0 0 mX12_down [.inl (x2 + v9), .inl (nI 48)] h9 (fun v10 h10 => SH h10 ∧ ((x4 = nI 0 → Q v10 h10) ∧ (x4 = nI 1 → Q ((x2 + v9) - ((nI 48) * v10)) h10) ∧ (x4 = nI 2 → (CI l E d 0 0 mX12_down [.inl v10, .inl (nI 7)] h10 (fun v12 h12 => SH h12 ∧ Q (v10 - ((nI 7) * v12)) h12))) ∧ ((x4).toInt < 0 ∨ 2 < (x4).toInt → Q v9 h10))))))) ∧ (¬ x4 ≤ (nI 3) → Q (-1000000) h5))))))))))))))))) : CI l E (d + 1) bc bs mX12_local [.inr (some (0, 12, 63)), .inl x1, .inl x2, .inl x3, .inl x4] h Q := by
  refine CI.of (by decide) rfl ?_
  show TI l E mX12_local (d + 1) bc bs 0 [some (.inr (some (0, 12, 63))), some (.inl x1), some (.inl x2), some (.inl x3), some (.inl x4), none, none] [] h Q
  refine z_aload_n (pc := 0) dX12_local_0 rfl rfl ?_
  refine z_iload_n (pc := 1) dX12_local_1 rfl rfl ?_
  refine y_VI (pc := 2) (bc := bc) (bs := bs) (mc := 0) (ms := 0) (As := [.inl x1]) (rest := []) dX12_local_2 kX12_isLand lX12_136 ⟨_, _, rfl⟩ rfl rfl (H.use (fun v1 h1 H => ?_))
  have S1 := H.1
  replace H := H.2
  refine z_if_eq (pc := 5) (tgt := 38) dX12_local_5 (by decide) (fun c2 => ?_) (fun c2 => ?_)
  · replace H := H.1 c2
    refine z_ldc (pc := 38) (v := (-1000000)) dX12_local_38 tX12_155 ?_
    exact z_iret (pc := 40) dX12_local_40 rfl rfl ⟨_, rfl, H⟩
  · replace H := H.2 c2
    refine z_iload_n (pc := 8) dX12_local_8 rfl rfl ?_
    refine z_if_lt (pc := 9) (tgt := 38) dX12_local_9 (by decide) (fun c3 => ?_) (fun c3 => ?_)
    · replace H := H.1 c3
      refine z_ldc (pc := 38) (v := (-1000000)) dX12_local_38 tX12_155 ?_
      exact z_iret (pc := 40) dX12_local_40 rfl rfl ⟨_, rfl, H⟩
    · replace H := H.2 c3
      refine z_iload_n (pc := 12) dX12_local_12 rfl rfl ?_
      refine z_sipush (pc := 13) (v := (nI 17472)) dX12_local_13 (by decide) ?_
      refine z_icmp_ge (pc := 16) (tgt := 38) dX12_local_16 (by decide) (fun c4 => ?_) (fun c4 => ?_)
      · replace H := H.1 c4
        refine z_ldc (pc := 38) (v := (-1000000)) dX12_local_38 tX12_155 ?_
        exact z_iret (pc := 40) dX12_local_40 rfl rfl ⟨_, rfl, H⟩
      · replace H := H.2 c4
        refine z_aload_n (pc := 19) dX12_local_19 rfl rfl ?_
        refine z_iload_n (pc := 20) dX12_local_20 rfl rfl ?_
        refine y_VI (pc := 21) (bc := bc) (bs := bs) (mc := 0) (ms := 0) (As := [.inl x3]) (rest := []) dX12_local_21 kX12_isKnown lX12_152 ⟨_, _, rfl⟩ rfl rfl (H.use (fun v5 h5 H => ?_))
        have S5 := H.1
        replace H := H.2
        refine z_if_eq (pc := 24) (tgt := 38) dX12_local_24 (by decide) (fun c6 => ?_) (fun c6 => ?_)
        · replace H := H.1 c6
          refine z_ldc (pc := 38) (v := (-1000000)) dX12_local_38 tX12_155 ?_
          exact z_iret (pc := 40) dX12_local_40 rfl rfl ⟨_, rfl, H⟩
        · replace H := H.2 c6
          refine z_iload (pc := 27) dX12_local_27 rfl ?_
          refine z_if_lt (pc := 29) (tgt := 38) dX12_local_29 (by decide) (fun c7 => ?_) (fun c7 => ?_)
          · replace H := H.1 c7
            refine z_ldc (pc := 38) (v := (-1000000)) dX12_local_38 tX12_155 ?_
            exact z_iret (pc := 40) dX12_local_40 rfl rfl ⟨_, rfl, H⟩
          · replace H := H.2 c7
            refine z_iload (pc := 32) dX12_local_32 rfl ?_
            refine z_iconst (pc := 34) (v := (nI 3)) dX12_local_34 (by decide) ?_
            refine z_icmp_le (pc := 35) (tgt := 41) dX12_local_35 (by decide) (fun c8 => ?_) (fun c8 => ?_)
            · replace H := H.1 c8
              refine z_aload_n (pc := 41) dX12_local_41 rfl rfl ?_
              refine z_iload_n (pc := 42) dX12_local_42 rfl rfl ?_
              refine z_iload_n (pc := 43) dX12_local_43 rfl rfl ?_
              refine z_iload_n (pc := 44) dX12_local_44 rfl rfl ?_
              refine y_VI (pc := 45) (bc := bc) (bs := bs) (mc := 0) (ms := 0) (As := [.inl x1, .inl x2, .inl x3]) (rest := []) dX12_local_45 kX12_offsetAt lX12_156 ⟨_, _, rfl⟩ rfl rfl (H.use (fun v9 h9 H => ?_))
              have S9 := H.1
              replace H := H.2
              refine z_istore (pc := 48) (ls' := [some (.inr (some (0, 12, 63))), some (.inl x1), some (.inl x2), some (.inl x3), some (.inl x4), some (.inl v9), none]) dX12_local_48 rfl rfl ?_
              refine z_iload_n (pc := 50) dX12_local_50 rfl rfl ?_
              refine z_iload (pc := 51) dX12_local_51 rfl ?_
              refine z_iadd (pc := 53) dX12_local_53 ?_
              refine z_bipush (pc := 54) (v := (nI 48)) dX12_local_54 (by decide) ?_
              refine y_SI (pc := 56) (bc := bc) (bs := bs) (mc := 0) (ms := 0) (As := [.inl (x2 + v9), .inl (nI 48)]) (rest := []) dX12_local_56 kX12_down lX12_160 rfl rfl (H.use (fun v10 h10 H => ?_))
              have S10 := H.1
              replace H := H.2
              refine z_istore (pc := 59) (ls' := [some (.inr (some (0, 12, 63))), some (.inl x1), some (.inl x2), some (.inl x3), some (.inl x4), some (.inl v9), some (.inl v10)]) dX12_local_59 rfl rfl ?_
              refine z_iload (pc := 61) dX12_local_61 rfl ?_
              refine z_table (pc := 63) (tgtD := 116) [88, 91, 102] dX12_local_63 (by decide) (by decide) (by decide) ?_ (fun c11 => ?_)
              · refine And.intro (fun c11 => ?_) (And.intro (fun c11 => ?_) (And.intro (fun c11 => ?_) (trivial)))
                · replace H := H.1 c11
                  refine z_iload (pc := 88) dX12_local_88 rfl ?_
                  exact z_iret (pc := 90) dX12_local_90 rfl rfl ⟨_, rfl, H⟩
                · replace H := H.2.1 c11
                  refine z_iload_n (pc := 91) dX12_local_91 rfl rfl ?_
                  refine z_iload (pc := 92) dX12_local_92 rfl ?_
                  refine z_iadd (pc := 94) dX12_local_94 ?_
                  refine z_bipush (pc := 95) (v := (nI 48)) dX12_local_95 (by decide) ?_
                  refine z_iload (pc := 97) dX12_local_97 rfl ?_
                  refine z_imul (pc := 99) dX12_local_99 ?_
                  refine z_isub (pc := 100) dX12_local_100 ?_
                  exact z_iret (pc := 101) dX12_local_101 rfl rfl ⟨_, rfl, H⟩
                · replace H := H.2.2.1 c11
                  refine z_iload (pc := 102) dX12_local_102 rfl ?_
                  refine z_bipush (pc := 104) (v := (nI 7)) dX12_local_104 (by decide) ?_
                  refine z_iload (pc := 106) dX12_local_106 rfl ?_
                  refine z_bipush (pc := 108) (v := (nI 7)) dX12_local_108 (by decide) ?_
                  refine y_SI (pc := 110) (bc := bc) (bs := bs) (mc := 0) (ms := 0) (As := [.inl v10, .inl (nI 7)]) (rest := [.inl (nI 7), .inl v10]) dX12_local_110 kX12_down lX12_160 rfl rfl (H.use (fun v12 h12 H => ?_))
                  have S12 := H.1
                  replace H := H.2
                  refine z_imul (pc := 113) dX12_local_113 ?_
                  refine z_isub (pc := 114) dX12_local_114 ?_
                  exact z_iret (pc := 115) dX12_local_115 rfl rfl ⟨_, rfl, H⟩
              · replace H := H.2.2.2 c11
                refine z_iload (pc := 116) dX12_local_116 rfl ?_
                exact z_iret (pc := 118) dX12_local_118 rfl rfl ⟨_, rfl, H⟩
            · replace H := H.2 c8
              refine z_ldc (pc := 38) (v := (-1000000)) dX12_local_38 tX12_155 ?_
              exact z_iret (pc := 40) dX12_local_40 rfl rfl ⟨_, rfl, H⟩

abbrev LX12_when_76 (l : Launch) (E : eE) (d bc bs : Nat) (x1 : Int32) (x2 : Int32) (x3 : Int32) (x4 : Int32) (x5 : Int32) (x6 : Int32) (x7 : Int32) (x8 : Int32) (x9 : Int32) (x10 : Int32) (h : aH) (Q : Int32 → aH → Prop) : Prop := TI l E mX12_when d bc bs 76 [some (.inr (some (0, 12, 63))), some (.inl x1), some (.inl x2), some (.inl x3), some (.inl x4), some (.inl x5), some (.inl x6), some (.inl x7), some (.inl x8), some (.inl x9), some (.inl x10)] [] h Q

set_option maxRecDepth 20000 in
theorem bX12_when_0 {l : Launch} {E : eE} {d bc bs : Nat} {h : aH} {Q : Int32 → aH → Prop} {x1 : Int32} {x2 : Int32} {x3 : Int32} {x4 : Int32} {x5 : Int32} (S : SH h) (H : (CI l E d 0 0 mX12_isLand [.inr (some (0, 12, 63)), .inl x1] h (fun v1 h1 => SH h1 ∧ ((v1 = 0 → Q (-1) h1) ∧ (¬ v1 = 0 → ((x2 < (-1) → Q (-1) h1) ∧ (¬ x2 < (-1) → (((nI 364) < x2 → Q (-1) h1) ∧ (¬ (nI 364) < x2 → ((x3 < 0 → Q (-1) h1) ∧ (¬ x3 < 0 → (((nI 47) < x3 → Q (-1) h1) ∧ (¬ (nI 47) < x3 → (CI l E d 0 0 mX12_isKnown [.inr (some (0, 12, 63)), .inl x4] h1 (fun v7 h7 => SH h7 ∧ ((v7 = 0 → Q (-1) h7) ∧ (¬ v7 = 0 → ((x5 < 0 → Q (-1) h7) ∧ (¬ x5 < 0 → ((x5 ≤ (nI 2) → LX12_when_76 l E (d + 1) bc bs x1 x2 x3 x4 x5 (((nI 48) * x2) + x3) (nI 0) (-1) (-1) ((((nI 48) * x2) + x3) - (nI 28)) h7 Q) ∧ (¬ x5 ≤ (nI 2) → Q (-1) h7))))))))))))))))))))) : CI l E (d + 1) bc bs mX12_when [.inr (some (0, 12, 63)), .inl x1, .inl x2, .inl x3, .inl x4, .inl x5] h Q := by
  refine CI.of (by decide) rfl ?_
  show TI l E mX12_when (d + 1) bc bs 0 [some (.inr (some (0, 12, 63))), some (.inl x1), some (.inl x2), some (.inl x3), some (.inl x4), some (.inl x5), none, none, none, none, none] [] h Q
  refine z_aload_n (pc := 0) dX12_when_0 rfl rfl ?_
  refine z_iload_n (pc := 1) dX12_when_1 rfl rfl ?_
  refine y_VI (pc := 2) (bc := bc) (bs := bs) (mc := 0) (ms := 0) (As := [.inl x1]) (rest := []) dX12_when_2 kX12_isLand lX12_136 ⟨_, _, rfl⟩ rfl rfl (H.use (fun v1 h1 H => ?_))
  have S1 := H.1
  replace H := H.2
  refine z_if_eq (pc := 5) (tgt := 50) dX12_when_5 (by decide) (fun c2 => ?_) (fun c2 => ?_)
  · replace H := H.1 c2
    refine z_iconst (pc := 50) (v := (-1)) dX12_when_50 (by decide) ?_
    exact z_iret (pc := 51) dX12_when_51 rfl rfl ⟨_, rfl, H⟩
  · replace H := H.2 c2
    refine z_iload_n (pc := 8) dX12_when_8 rfl rfl ?_
    refine z_iconst (pc := 9) (v := (-1)) dX12_when_9 (by decide) ?_
    refine z_icmp_lt (pc := 10) (tgt := 50) dX12_when_10 (by decide) (fun c3 => ?_) (fun c3 => ?_)
    · replace H := H.1 c3
      refine z_iconst (pc := 50) (v := (-1)) dX12_when_50 (by decide) ?_
      exact z_iret (pc := 51) dX12_when_51 rfl rfl ⟨_, rfl, H⟩
    · replace H := H.2 c3
      refine z_iload_n (pc := 13) dX12_when_13 rfl rfl ?_
      refine z_sipush (pc := 14) (v := (nI 364)) dX12_when_14 (by decide) ?_
      refine z_icmp_gt (pc := 17) (tgt := 50) dX12_when_17 (by decide) (fun c4 => ?_) (fun c4 => ?_)
      · replace H := H.1 c4
        refine z_iconst (pc := 50) (v := (-1)) dX12_when_50 (by decide) ?_
        exact z_iret (pc := 51) dX12_when_51 rfl rfl ⟨_, rfl, H⟩
      · replace H := H.2 c4
        refine z_iload_n (pc := 20) dX12_when_20 rfl rfl ?_
        refine z_if_lt (pc := 21) (tgt := 50) dX12_when_21 (by decide) (fun c5 => ?_) (fun c5 => ?_)
        · replace H := H.1 c5
          refine z_iconst (pc := 50) (v := (-1)) dX12_when_50 (by decide) ?_
          exact z_iret (pc := 51) dX12_when_51 rfl rfl ⟨_, rfl, H⟩
        · replace H := H.2 c5
          refine z_iload_n (pc := 24) dX12_when_24 rfl rfl ?_
          refine z_bipush (pc := 25) (v := (nI 47)) dX12_when_25 (by decide) ?_
          refine z_icmp_gt (pc := 27) (tgt := 50) dX12_when_27 (by decide) (fun c6 => ?_) (fun c6 => ?_)
          · replace H := H.1 c6
            refine z_iconst (pc := 50) (v := (-1)) dX12_when_50 (by decide) ?_
            exact z_iret (pc := 51) dX12_when_51 rfl rfl ⟨_, rfl, H⟩
          · replace H := H.2 c6
            refine z_aload_n (pc := 30) dX12_when_30 rfl rfl ?_
            refine z_iload (pc := 31) dX12_when_31 rfl ?_
            refine y_VI (pc := 33) (bc := bc) (bs := bs) (mc := 0) (ms := 0) (As := [.inl x4]) (rest := []) dX12_when_33 kX12_isKnown lX12_152 ⟨_, _, rfl⟩ rfl rfl (H.use (fun v7 h7 H => ?_))
            have S7 := H.1
            replace H := H.2
            refine z_if_eq (pc := 36) (tgt := 50) dX12_when_36 (by decide) (fun c8 => ?_) (fun c8 => ?_)
            · replace H := H.1 c8
              refine z_iconst (pc := 50) (v := (-1)) dX12_when_50 (by decide) ?_
              exact z_iret (pc := 51) dX12_when_51 rfl rfl ⟨_, rfl, H⟩
            · replace H := H.2 c8
              refine z_iload (pc := 39) dX12_when_39 rfl ?_
              refine z_if_lt (pc := 41) (tgt := 50) dX12_when_41 (by decide) (fun c9 => ?_) (fun c9 => ?_)
              · replace H := H.1 c9
                refine z_iconst (pc := 50) (v := (-1)) dX12_when_50 (by decide) ?_
                exact z_iret (pc := 51) dX12_when_51 rfl rfl ⟨_, rfl, H⟩
              · replace H := H.2 c9
                refine z_iload (pc := 44) dX12_when_44 rfl ?_
                refine z_iconst (pc := 46) (v := (nI 2)) dX12_when_46 (by decide) ?_
                refine z_icmp_le (pc := 47) (tgt := 52) dX12_when_47 (by decide) (fun c10 => ?_) (fun c10 => ?_)
                · replace H := H.1 c10
                  refine z_bipush (pc := 52) (v := (nI 48)) dX12_when_52 (by decide) ?_
                  refine z_iload_n (pc := 54) dX12_when_54 rfl rfl ?_
                  refine z_imul (pc := 55) dX12_when_55 ?_
                  refine z_iload_n (pc := 56) dX12_when_56 rfl rfl ?_
                  refine z_iadd (pc := 57) dX12_when_57 ?_
                  refine z_istore (pc := 58) (ls' := [some (.inr (some (0, 12, 63))), some (.inl x1), some (.inl x2), some (.inl x3), some (.inl x4), some (.inl x5), some (.inl (((nI 48) * x2) + x3)), none, none, none, none]) dX12_when_58 rfl rfl ?_
                  refine z_iconst (pc := 60) (v := (nI 0)) dX12_when_60 (by decide) ?_
                  refine z_istore (pc := 61) (ls' := [some (.inr (some (0, 12, 63))), some (.inl x1), some (.inl x2), some (.inl x3), some (.inl x4), some (.inl x5), some (.inl (((nI 48) * x2) + x3)), some (.inl (nI 0)), none, none, none]) dX12_when_61 rfl rfl ?_
                  refine z_iconst (pc := 63) (v := (-1)) dX12_when_63 (by decide) ?_
                  refine z_istore (pc := 64) (ls' := [some (.inr (some (0, 12, 63))), some (.inl x1), some (.inl x2), some (.inl x3), some (.inl x4), some (.inl x5), some (.inl (((nI 48) * x2) + x3)), some (.inl (nI 0)), some (.inl (-1)), none, none]) dX12_when_64 rfl rfl ?_
                  refine z_iconst (pc := 66) (v := (-1)) dX12_when_66 (by decide) ?_
                  refine z_istore (pc := 67) (ls' := [some (.inr (some (0, 12, 63))), some (.inl x1), some (.inl x2), some (.inl x3), some (.inl x4), some (.inl x5), some (.inl (((nI 48) * x2) + x3)), some (.inl (nI 0)), some (.inl (-1)), some (.inl (-1)), none]) dX12_when_67 rfl rfl ?_
                  refine z_iload (pc := 69) dX12_when_69 rfl ?_
                  refine z_bipush (pc := 71) (v := (nI 28)) dX12_when_71 (by decide) ?_
                  refine z_isub (pc := 73) dX12_when_73 ?_
                  refine z_istore (pc := 74) (ls' := [some (.inr (some (0, 12, 63))), some (.inl x1), some (.inl x2), some (.inl x3), some (.inl x4), some (.inl x5), some (.inl (((nI 48) * x2) + x3)), some (.inl (nI 0)), some (.inl (-1)), some (.inl (-1)), some (.inl ((((nI 48) * x2) + x3) - (nI 28)))]) dX12_when_74 rfl rfl ?_
                  exact H
                · replace H := H.2 c10
                  refine z_iconst (pc := 50) (v := (-1)) dX12_when_50 (by decide) ?_
                  exact z_iret (pc := 51) dX12_when_51 rfl rfl ⟨_, rfl, H⟩

set_option maxRecDepth 20000 in
theorem bX12_when_76 {l : Launch} {E : eE} {d bc bs : Nat} {h : aH} {Q : Int32 → aH → Prop} {x1 : Int32} {x2 : Int32} {x3 : Int32} {x4 : Int32} {x5 : Int32} {x6 : Int32} {x7 : Int32} {x8 : Int32} {x9 : Int32} {x10 : Int32} (S : SH h) (H : (((x6 + (nI 24)) < x10 → ((¬ x5 = 0 → ((¬ x5 = (nI 1) → Q x9 h) ∧ (x5 = (nI 1) → Q x8 h))) ∧ (x5 = 0 → Q x7 h))) ∧ (¬ (x6 + (nI 24)) < x10 → ((x10 < 0 → LX12_when_76 l E (d + 1) bc bs x1 x2 x3 x4 x5 x6 x7 x8 x9 (x10 + (nI 1)) h Q) ∧ (¬ x10 < 0 → (((nI 17472) ≤ x10 → LX12_when_76 l E (d + 1) bc bs x1 x2 x3 x4 x5 x6 x7 x8 x9 (x10 + (nI 1)) h Q) ∧ (¬ (nI 17472) ≤ x10 → (CI l E d 0 0 mX12_offsetAt [.inr (some (0, 12, 63)), .inl x1, .inl x10, .inl x4] h (fun v6 h6 => SH h6 ∧ (((x10 + v6) = x6 → ((¬ x8 = (-1) → LX12_when_76 l E (d + 1) bc bs x1 x2 x3 x4 x5 x6 (x7 + (nI 1)) x8 x10 (x10 + (nI 1)) h6 Q) ∧ (x8 = (-1) → LX12_when_76 l E (d + 1) bc bs x1 x2 x3 x4 x5 x6 (x7 + (nI 1)) x10 x10 (x10 + (nI 1)) h6 Q))) ∧ (¬ (x10 + v6) = x6 → LX12_when_76 l E (d + 1) bc bs x1 x2 x3 x4 x5 x6 x7 x8 x9 (x10 + (nI 1)) h6 Q))))))))))) : LX12_when_76 l E (d + 1) bc bs x1 x2 x3 x4 x5 x6 x7 x8 x9 x10 h Q := by
  refine z_iload (pc := 76) dX12_when_76 rfl ?_
  refine z_iload (pc := 78) dX12_when_78 rfl ?_
  refine z_bipush (pc := 80) (v := (nI 24)) dX12_when_80 (by decide) ?_
  refine z_iadd (pc := 82) dX12_when_82 ?_
  refine z_icmp_gt (pc := 83) (tgt := 142) dX12_when_83 (by decide) (fun c1 => ?_) (fun c1 => ?_)
  · replace H := H.1 c1
    refine z_iload (pc := 142) dX12_when_142 rfl ?_
    refine z_if_ne (pc := 144) (tgt := 152) dX12_when_144 (by decide) (fun c2 => ?_) (fun c2 => ?_)
    · replace H := H.1 c2
      refine z_iload (pc := 152) dX12_when_152 rfl ?_
      refine z_iconst (pc := 154) (v := (nI 1)) dX12_when_154 (by decide) ?_
      refine z_icmp_ne (pc := 155) (tgt := 163) dX12_when_155 (by decide) (fun c3 => ?_) (fun c3 => ?_)
      · replace H := H.1 c3
        refine z_iload (pc := 163) dX12_when_163 rfl ?_
        exact z_iret (pc := 165) dX12_when_165 rfl rfl ⟨_, rfl, H⟩
      · replace H := H.2 c3
        refine z_iload (pc := 158) dX12_when_158 rfl ?_
        refine z_goto (pc := 160) (tgt := 165) dX12_when_160 (by decide) ?_
        exact z_iret (pc := 165) dX12_when_165 rfl rfl ⟨_, rfl, H⟩
    · replace H := H.2 c2
      refine z_iload (pc := 147) dX12_when_147 rfl ?_
      refine z_goto (pc := 149) (tgt := 165) dX12_when_149 (by decide) ?_
      exact z_iret (pc := 165) dX12_when_165 rfl rfl ⟨_, rfl, H⟩
  · replace H := H.2 c1
    refine z_iload (pc := 86) dX12_when_86 rfl ?_
    refine z_if_lt (pc := 88) (tgt := 136) dX12_when_88 (by decide) (fun c4 => ?_) (fun c4 => ?_)
    · replace H := H.1 c4
      refine z_iinc (pc := 136) (v := (x10 + (nI 1))) (ls' := [some (.inr (some (0, 12, 63))), some (.inl x1), some (.inl x2), some (.inl x3), some (.inl x4), some (.inl x5), some (.inl x6), some (.inl x7), some (.inl x8), some (.inl x9), some (.inl (x10 + (nI 1)))]) dX12_when_136 rfl (by rw [show Int32.ofInt (1) = (nI 1) by decide]) rfl ?_
      refine z_goto (pc := 139) (tgt := 76) dX12_when_139 (by decide) ?_
      exact H
    · replace H := H.2 c4
      refine z_iload (pc := 91) dX12_when_91 rfl ?_
      refine z_sipush (pc := 93) (v := (nI 17472)) dX12_when_93 (by decide) ?_
      refine z_icmp_ge (pc := 96) (tgt := 136) dX12_when_96 (by decide) (fun c5 => ?_) (fun c5 => ?_)
      · replace H := H.1 c5
        refine z_iinc (pc := 136) (v := (x10 + (nI 1))) (ls' := [some (.inr (some (0, 12, 63))), some (.inl x1), some (.inl x2), some (.inl x3), some (.inl x4), some (.inl x5), some (.inl x6), some (.inl x7), some (.inl x8), some (.inl x9), some (.inl (x10 + (nI 1)))]) dX12_when_136 rfl (by rw [show Int32.ofInt (1) = (nI 1) by decide]) rfl ?_
        refine z_goto (pc := 139) (tgt := 76) dX12_when_139 (by decide) ?_
        exact H
      · replace H := H.2 c5
        refine z_iload (pc := 99) dX12_when_99 rfl ?_
        refine z_aload_n (pc := 101) dX12_when_101 rfl rfl ?_
        refine z_iload_n (pc := 102) dX12_when_102 rfl rfl ?_
        refine z_iload (pc := 103) dX12_when_103 rfl ?_
        refine z_iload (pc := 105) dX12_when_105 rfl ?_
        refine y_VI (pc := 107) (bc := bc) (bs := bs) (mc := 0) (ms := 0) (As := [.inl x1, .inl x10, .inl x4]) (rest := [.inl x10]) dX12_when_107 kX12_offsetAt lX12_156 ⟨_, _, rfl⟩ rfl rfl (H.use (fun v6 h6 H => ?_))
        have S6 := H.1
        replace H := H.2
        refine z_iadd (pc := 110) dX12_when_110 ?_
        refine z_iload (pc := 111) dX12_when_111 rfl ?_
        refine z_icmp_eq (pc := 113) (tgt := 119) dX12_when_113 (by decide) (fun c7 => ?_) (fun c7 => ?_)
        · replace H := H.1 c7
          refine z_iinc (pc := 119) (v := (x7 + (nI 1))) (ls' := [some (.inr (some (0, 12, 63))), some (.inl x1), some (.inl x2), some (.inl x3), some (.inl x4), some (.inl x5), some (.inl x6), some (.inl (x7 + (nI 1))), some (.inl x8), some (.inl x9), some (.inl x10)]) dX12_when_119 rfl (by rw [show Int32.ofInt (1) = (nI 1) by decide]) rfl ?_
          refine z_iload (pc := 122) dX12_when_122 rfl ?_
          refine z_iconst (pc := 124) (v := (-1)) dX12_when_124 (by decide) ?_
          refine z_icmp_ne (pc := 125) (tgt := 132) dX12_when_125 (by decide) (fun c8 => ?_) (fun c8 => ?_)
          · replace H := H.1 c8
            refine z_iload (pc := 132) dX12_when_132 rfl ?_
            refine z_istore (pc := 134) (ls' := [some (.inr (some (0, 12, 63))), some (.inl x1), some (.inl x2), some (.inl x3), some (.inl x4), some (.inl x5), some (.inl x6), some (.inl (x7 + (nI 1))), some (.inl x8), some (.inl x10), some (.inl x10)]) dX12_when_134 rfl rfl ?_
            refine z_iinc (pc := 136) (v := (x10 + (nI 1))) (ls' := [some (.inr (some (0, 12, 63))), some (.inl x1), some (.inl x2), some (.inl x3), some (.inl x4), some (.inl x5), some (.inl x6), some (.inl (x7 + (nI 1))), some (.inl x8), some (.inl x10), some (.inl (x10 + (nI 1)))]) dX12_when_136 rfl (by rw [show Int32.ofInt (1) = (nI 1) by decide]) rfl ?_
            refine z_goto (pc := 139) (tgt := 76) dX12_when_139 (by decide) ?_
            exact H
          · replace H := H.2 c8
            refine z_iload (pc := 128) dX12_when_128 rfl ?_
            refine z_istore (pc := 130) (ls' := [some (.inr (some (0, 12, 63))), some (.inl x1), some (.inl x2), some (.inl x3), some (.inl x4), some (.inl x5), some (.inl x6), some (.inl (x7 + (nI 1))), some (.inl x10), some (.inl x9), some (.inl x10)]) dX12_when_130 rfl rfl ?_
            refine z_iload (pc := 132) dX12_when_132 rfl ?_
            refine z_istore (pc := 134) (ls' := [some (.inr (some (0, 12, 63))), some (.inl x1), some (.inl x2), some (.inl x3), some (.inl x4), some (.inl x5), some (.inl x6), some (.inl (x7 + (nI 1))), some (.inl x10), some (.inl x10), some (.inl x10)]) dX12_when_134 rfl rfl ?_
            refine z_iinc (pc := 136) (v := (x10 + (nI 1))) (ls' := [some (.inr (some (0, 12, 63))), some (.inl x1), some (.inl x2), some (.inl x3), some (.inl x4), some (.inl x5), some (.inl x6), some (.inl (x7 + (nI 1))), some (.inl x10), some (.inl x10), some (.inl (x10 + (nI 1)))]) dX12_when_136 rfl (by rw [show Int32.ofInt (1) = (nI 1) by decide]) rfl ?_
            refine z_goto (pc := 139) (tgt := 76) dX12_when_139 (by decide) ?_
            exact H
        · replace H := H.2 c7
          refine z_goto (pc := 116) (tgt := 136) dX12_when_116 (by decide) ?_
          refine z_iinc (pc := 136) (v := (x10 + (nI 1))) (ls' := [some (.inr (some (0, 12, 63))), some (.inl x1), some (.inl x2), some (.inl x3), some (.inl x4), some (.inl x5), some (.inl x6), some (.inl x7), some (.inl x8), some (.inl x9), some (.inl (x10 + (nI 1)))]) dX12_when_136 rfl (by rw [show Int32.ofInt (1) = (nI 1) by decide]) rfl ?_
          refine z_goto (pc := 139) (tgt := 76) dX12_when_139 (by decide) ?_
          exact H

set_option maxRecDepth 20000 in
theorem bX12_costAt_0 {l : Launch} {E : eE} {d bc bs : Nat} {h : aH} {Q : Int32 → aH → Prop} {x1 : Int32} {x2 : Int32} (S : SH h) (H : (vp_in x1 12 ∧ ((¬ (hA h 67 (x1).toNatClampNeg) = (-1) → (((hA h 67 (x1).toNatClampNeg) ≤ x2 → (vp_in (((nI 48) * x1) + ((hA h 67 (x1).toNatClampNeg) - (nI 1))) 576 ∧ Q (hA h 68 ((((nI 48) * x1) + ((hA h 67 (x1).toNatClampNeg) - (nI 1)))).toNatClampNeg) h)) ∧ (¬ (hA h 67 (x1).toNatClampNeg) ≤ x2 → (vp_in (((nI 48) * x1) + x2) 576 ∧ Q (hA h 68 ((((nI 48) * x1) + x2)).toNatClampNeg) h)))) ∧ ((hA h 67 (x1).toNatClampNeg) = (-1) → Q (nI 0) h)))) : CI l E d bc bs mX12_costAt [.inr (some (0, 12, 63)), .inl x1, .inl x2] h Q := by
  refine CI.of (by decide) rfl ?_
  show TI l E mX12_costAt d bc bs 0 [some (.inr (some (0, 12, 63))), some (.inl x1), some (.inl x2)] [] h Q
  refine z_aload_n (pc := 0) dX12_costAt_0 rfl rfl ?_
  refine z_getk (pc := 1) dX12_costAt_1 fX12_23 rfl (s_63_6 S) ?_
  refine z_iload_n (pc := 4) dX12_costAt_4 rfl rfl ?_
  have c1 := H.1
  replace H := H.2
  refine z_iald (pc := 5) dX12_costAt_5 c1 ?_
  refine z_iconst (pc := 6) (v := (-1)) dX12_costAt_6 (by decide) ?_
  refine z_icmp_ne (pc := 7) (tgt := 12) dX12_costAt_7 (by decide) (fun c2 => ?_) (fun c2 => ?_)
  · replace H := H.1 c2
    refine z_aload_n (pc := 12) dX12_costAt_12 rfl rfl ?_
    refine z_getk (pc := 13) dX12_costAt_13 fX12_26 rfl (s_63_7 S) ?_
    refine z_bipush (pc := 16) (v := (nI 48)) dX12_costAt_16 (by decide) ?_
    refine z_iload_n (pc := 18) dX12_costAt_18 rfl rfl ?_
    refine z_imul (pc := 19) dX12_costAt_19 ?_
    refine z_iload_n (pc := 20) dX12_costAt_20 rfl rfl ?_
    refine z_aload_n (pc := 21) dX12_costAt_21 rfl rfl ?_
    refine z_getk (pc := 22) dX12_costAt_22 fX12_23 rfl (s_63_6 S) ?_
    refine z_iload_n (pc := 25) dX12_costAt_25 rfl rfl ?_
    refine z_iald (pc := 26) dX12_costAt_26 c1 ?_
    refine z_icmp_ge (pc := 27) (tgt := 34) dX12_costAt_27 (by decide) (fun c3 => ?_) (fun c3 => ?_)
    · replace H := H.1 c3
      refine z_aload_n (pc := 34) dX12_costAt_34 rfl rfl ?_
      refine z_getk (pc := 35) dX12_costAt_35 fX12_23 rfl (s_63_6 S) ?_
      refine z_iload_n (pc := 38) dX12_costAt_38 rfl rfl ?_
      refine z_iald (pc := 39) dX12_costAt_39 c1 ?_
      refine z_iconst (pc := 40) (v := (nI 1)) dX12_costAt_40 (by decide) ?_
      refine z_isub (pc := 41) dX12_costAt_41 ?_
      refine z_iadd (pc := 42) dX12_costAt_42 ?_
      have c4 := H.1
      replace H := H.2
      refine z_iald (pc := 43) dX12_costAt_43 c4 ?_
      exact z_iret (pc := 44) dX12_costAt_44 rfl rfl ⟨_, rfl, H⟩
    · replace H := H.2 c3
      refine z_iload_n (pc := 30) dX12_costAt_30 rfl rfl ?_
      refine z_goto (pc := 31) (tgt := 42) dX12_costAt_31 (by decide) ?_
      refine z_iadd (pc := 42) dX12_costAt_42 ?_
      have c5 := H.1
      replace H := H.2
      refine z_iald (pc := 43) dX12_costAt_43 c5 ?_
      exact z_iret (pc := 44) dX12_costAt_44 rfl rfl ⟨_, rfl, H⟩
  · replace H := H.2 c2
    refine z_iconst (pc := 10) (v := (nI 0)) dX12_costAt_10 (by decide) ?_
    exact z_iret (pc := 11) dX12_costAt_11 rfl rfl ⟨_, rfl, H⟩

abbrev LX12_reason_81 (l : Launch) (E : eE) (d bc bs : Nat) (x1 : Int32) (x2 : Int32) (x3 : Int32) (x4 : Int32) (x5 : Int32) (x6 : Int32) (x7 : Int32) (h : aH) (Q : Int32 → aH → Prop) : Prop := TI l E mX12_reason d bc bs 81 [some (.inr (some (0, 12, 63))), some (.inl x1), some (.inl x2), some (.inl x3), some (.inl x4), some (.inl x5), some (.inl x6), some (.inl x7)] [] h Q

abbrev LX12_reason_133 (l : Launch) (E : eE) (d bc bs : Nat) (x1 : Int32) (x2 : Int32) (x3 : Int32) (x4 : Int32) (x5 : Int32) (x6 : Int32) (x7 : Int32) (h : aH) (Q : Int32 → aH → Prop) : Prop := TI l E mX12_reason d bc bs 133 [some (.inr (some (0, 12, 63))), some (.inl x1), some (.inl x2), some (.inl x3), some (.inl x4), some (.inl x5), some (.inl x6), some (.inl x7)] [] h Q

set_option maxRecDepth 20000 in
theorem bX12_reason_0 {l : Launch} {E : eE} {d bc bs : Nat} {h : aH} {Q : Int32 → aH → Prop} {x1 : Int32} {x2 : Int32} {x3 : Int32} (S : SH h) (H : (vp_in x1 12 ∧ (CI l E d 0 0 mX12_offsetAt [.inr (some (0, 12, 63)), .inl (hA h 65 (x1).toNatClampNeg), .inl x2, .inl x3] h (fun v2 h2 => SH h2 ∧ (CI l E d 0 0 mX12_down [.inl (x2 + v2), .inl (nI 48)] h2 (fun v3 h3 => SH h3 ∧ (CI l E d 0 0 mX12_costAt [.inr (some (0, 12, 63)), .inl x1, .inl ((x2 + v2) - ((nI 48) * v3))] h3 (fun v4 h4 => SH h4 ∧ ((¬ v4 = (-1) → (vp_in x1 12 ∧ (CI l E d 0 0 mX12_down [.inl v3, .inl (nI 7)] h4 (fun v7 h7 => SH h7 ∧ ((¬ (((hA h4 66 (x1).toNatClampNeg) >>> ((v3 - ((nI 7) * v7)) &&& 31)) &&& (nI 1)) = (nI 1) → LX12_reason_81 l E (d + 1) bc bs x1 x2 x3 (hA h 65 (x1).toNatClampNeg) v2 v3 (nI 0) h7 Q) ∧ ((((hA h4 66 (x1).toNatClampNeg) >>> ((v3 - ((nI 7) * v7)) &&& 31)) &&& (nI 1)) = (nI 1) → Q (nI 2) h7)))))) ∧ (v4 = (-1) → Q (nI 1) h4)))))))))) : CI l E (d + 1) bc bs mX12_reason [.inr (some (0, 12, 63)), .inl x1, .inl x2, .inl x3] h Q := by
  refine CI.of (by decide) rfl ?_
  show TI l E mX12_reason (d + 1) bc bs 0 [some (.inr (some (0, 12, 63))), some (.inl x1), some (.inl x2), some (.inl x3), none, none, none, none] [] h Q
  refine z_aload_n (pc := 0) dX12_reason_0 rfl rfl ?_
  refine z_getk (pc := 1) dX12_reason_1 fX12_17 rfl (s_63_4 S) ?_
  refine z_iload_n (pc := 4) dX12_reason_4 rfl rfl ?_
  have c1 := H.1
  replace H := H.2
  refine z_iald (pc := 5) dX12_reason_5 c1 ?_
  refine z_istore (pc := 6) (ls' := [some (.inr (some (0, 12, 63))), some (.inl x1), some (.inl x2), some (.inl x3), some (.inl (hA h 65 (x1).toNatClampNeg)), none, none, none]) dX12_reason_6 rfl rfl ?_
  refine z_aload_n (pc := 8) dX12_reason_8 rfl rfl ?_
  refine z_iload (pc := 9) dX12_reason_9 rfl ?_
  refine z_iload_n (pc := 11) dX12_reason_11 rfl rfl ?_
  refine z_iload_n (pc := 12) dX12_reason_12 rfl rfl ?_
  refine y_VI (pc := 13) (bc := bc) (bs := bs) (mc := 0) (ms := 0) (As := [.inl (hA h 65 (x1).toNatClampNeg), .inl x2, .inl x3]) (rest := []) dX12_reason_13 kX12_offsetAt lX12_156 ⟨_, _, rfl⟩ rfl rfl (H.use (fun v2 h2 H => ?_))
  have S2 := H.1
  replace H := H.2
  refine z_istore (pc := 16) (ls' := [some (.inr (some (0, 12, 63))), some (.inl x1), some (.inl x2), some (.inl x3), some (.inl (hA h 65 (x1).toNatClampNeg)), some (.inl v2), none, none]) dX12_reason_16 rfl rfl ?_
  refine z_iload_n (pc := 18) dX12_reason_18 rfl rfl ?_
  refine z_iload (pc := 19) dX12_reason_19 rfl ?_
  refine z_iadd (pc := 21) dX12_reason_21 ?_
  refine z_bipush (pc := 22) (v := (nI 48)) dX12_reason_22 (by decide) ?_
  refine y_SI (pc := 24) (bc := bc) (bs := bs) (mc := 0) (ms := 0) (As := [.inl (x2 + v2), .inl (nI 48)]) (rest := []) dX12_reason_24 kX12_down lX12_160 rfl rfl (H.use (fun v3 h3 H => ?_))
  have S3 := H.1
  replace H := H.2
  refine z_istore (pc := 27) (ls' := [some (.inr (some (0, 12, 63))), some (.inl x1), some (.inl x2), some (.inl x3), some (.inl (hA h 65 (x1).toNatClampNeg)), some (.inl v2), some (.inl v3), none]) dX12_reason_27 rfl rfl ?_
  refine z_aload_n (pc := 29) dX12_reason_29 rfl rfl ?_
  refine z_iload_n (pc := 30) dX12_reason_30 rfl rfl ?_
  refine z_iload_n (pc := 31) dX12_reason_31 rfl rfl ?_
  refine z_iload (pc := 32) dX12_reason_32 rfl ?_
  refine z_iadd (pc := 34) dX12_reason_34 ?_
  refine z_bipush (pc := 35) (v := (nI 48)) dX12_reason_35 (by decide) ?_
  refine z_iload (pc := 37) dX12_reason_37 rfl ?_
  refine z_imul (pc := 39) dX12_reason_39 ?_
  refine z_isub (pc := 40) dX12_reason_40 ?_
  refine y_VI (pc := 41) (bc := bc) (bs := bs) (mc := 0) (ms := 0) (As := [.inl x1, .inl ((x2 + v2) - ((nI 48) * v3))]) (rest := []) dX12_reason_41 kX12_costAt lX12_164 ⟨_, _, rfl⟩ rfl rfl (H.use (fun v4 h4 H => ?_))
  have S4 := H.1
  replace H := H.2
  refine z_iconst (pc := 44) (v := (-1)) dX12_reason_44 (by decide) ?_
  refine z_icmp_ne (pc := 45) (tgt := 50) dX12_reason_45 (by decide) (fun c5 => ?_) (fun c5 => ?_)
  · replace H := H.1 c5
    refine z_aload_n (pc := 50) dX12_reason_50 rfl rfl ?_
    refine z_getk (pc := 51) dX12_reason_51 fX12_20 rfl (s_63_5 S4) ?_
    refine z_iload_n (pc := 54) dX12_reason_54 rfl rfl ?_
    have c6 := H.1
    replace H := H.2
    refine z_iald (pc := 55) dX12_reason_55 c6 ?_
    refine z_iload (pc := 56) dX12_reason_56 rfl ?_
    refine z_bipush (pc := 58) (v := (nI 7)) dX12_reason_58 (by decide) ?_
    refine z_iload (pc := 60) dX12_reason_60 rfl ?_
    refine z_bipush (pc := 62) (v := (nI 7)) dX12_reason_62 (by decide) ?_
    refine y_SI (pc := 64) (bc := bc) (bs := bs) (mc := 0) (ms := 0) (As := [.inl v3, .inl (nI 7)]) (rest := [.inl (nI 7), .inl v3, .inl (hA h4 66 (x1).toNatClampNeg)]) dX12_reason_64 kX12_down lX12_160 rfl rfl (H.use (fun v7 h7 H => ?_))
    have S7 := H.1
    replace H := H.2
    refine z_imul (pc := 67) dX12_reason_67 ?_
    refine z_isub (pc := 68) dX12_reason_68 ?_
    refine z_ishr (pc := 69) dX12_reason_69 ?_
    refine z_iconst (pc := 70) (v := (nI 1)) dX12_reason_70 (by decide) ?_
    refine z_iand (pc := 71) dX12_reason_71 ?_
    refine z_iconst (pc := 72) (v := (nI 1)) dX12_reason_72 (by decide) ?_
    refine z_icmp_ne (pc := 73) (tgt := 78) dX12_reason_73 (by decide) (fun c8 => ?_) (fun c8 => ?_)
    · replace H := H.1 c8
      refine z_iconst (pc := 78) (v := (nI 0)) dX12_reason_78 (by decide) ?_
      refine z_istore (pc := 79) (ls' := [some (.inr (some (0, 12, 63))), some (.inl x1), some (.inl x2), some (.inl x3), some (.inl (hA h 65 (x1).toNatClampNeg)), some (.inl v2), some (.inl v3), some (.inl (nI 0))]) dX12_reason_79 rfl rfl ?_
      exact H
    · replace H := H.2 c8
      refine z_iconst (pc := 76) (v := (nI 2)) dX12_reason_76 (by decide) ?_
      exact z_iret (pc := 77) dX12_reason_77 rfl rfl ⟨_, rfl, H⟩
  · replace H := H.2 c5
    refine z_iconst (pc := 48) (v := (nI 1)) dX12_reason_48 (by decide) ?_
    exact z_iret (pc := 49) dX12_reason_49 rfl rfl ⟨_, rfl, H⟩

set_option maxRecDepth 20000 in
theorem bX12_reason_81 {l : Launch} {E : eE} {d bc bs : Nat} {h : aH} {Q : Int32 → aH → Prop} {x1 : Int32} {x2 : Int32} {x3 : Int32} {x4 : Int32} {x5 : Int32} {x6 : Int32} {x7 : Int32} (S : SH h) (H : ((x3 ≤ x7 → LX12_reason_133 l E (d + 1) bc bs x1 x2 x3 x4 x5 x6 (nI 0) h Q) ∧ (¬ x3 ≤ x7 → (vp_in x7 400 ∧ ((¬ (hA h 69 (x7).toNatClampNeg) = (nI 1) → LX12_reason_81 l E (d + 1) bc bs x1 x2 x3 x4 x5 x6 (x7 + (nI 1)) h Q) ∧ ((hA h 69 (x7).toNatClampNeg) = (nI 1) → ((¬ (hA h 70 (x7).toNatClampNeg) = x4 → LX12_reason_81 l E (d + 1) bc bs x1 x2 x3 x4 x5 x6 (x7 + (nI 1)) h Q) ∧ ((hA h 70 (x7).toNatClampNeg) = x4 → ((¬ (hA h 71 (x7).toNatClampNeg) = x6 → LX12_reason_81 l E (d + 1) bc bs x1 x2 x3 x4 x5 x6 (x7 + (nI 1)) h Q) ∧ ((hA h 71 (x7).toNatClampNeg) = x6 → Q (nI 3) h)))))))))) : LX12_reason_81 l E (d + 1) bc bs x1 x2 x3 x4 x5 x6 x7 h Q := by
  refine z_iload (pc := 81) dX12_reason_81 rfl ?_
  refine z_iload_n (pc := 83) dX12_reason_83 rfl rfl ?_
  refine z_icmp_ge (pc := 84) (tgt := 130) dX12_reason_84 (by decide) (fun c1 => ?_) (fun c1 => ?_)
  · replace H := H.1 c1
    refine z_iconst (pc := 130) (v := (nI 0)) dX12_reason_130 (by decide) ?_
    refine z_istore (pc := 131) (ls' := [some (.inr (some (0, 12, 63))), some (.inl x1), some (.inl x2), some (.inl x3), some (.inl x4), some (.inl x5), some (.inl x6), some (.inl (nI 0))]) dX12_reason_131 rfl rfl ?_
    exact H
  · replace H := H.2 c1
    refine z_aload_n (pc := 87) dX12_reason_87 rfl rfl ?_
    refine z_getk (pc := 88) dX12_reason_88 fX12_29 rfl (s_63_9 S) ?_
    refine z_iload (pc := 91) dX12_reason_91 rfl ?_
    have c2 := H.1
    replace H := H.2
    refine z_iald (pc := 93) dX12_reason_93 c2 ?_
    refine z_iconst (pc := 94) (v := (nI 1)) dX12_reason_94 (by decide) ?_
    refine z_icmp_ne (pc := 95) (tgt := 124) dX12_reason_95 (by decide) (fun c3 => ?_) (fun c3 => ?_)
    · replace H := H.1 c3
      refine z_iinc (pc := 124) (v := (x7 + (nI 1))) (ls' := [some (.inr (some (0, 12, 63))), some (.inl x1), some (.inl x2), some (.inl x3), some (.inl x4), some (.inl x5), some (.inl x6), some (.inl (x7 + (nI 1)))]) dX12_reason_124 rfl (by rw [show Int32.ofInt (1) = (nI 1) by decide]) rfl ?_
      refine z_goto (pc := 127) (tgt := 81) dX12_reason_127 (by decide) ?_
      exact H
    · replace H := H.2 c3
      refine z_aload_n (pc := 98) dX12_reason_98 rfl rfl ?_
      refine z_getk (pc := 99) dX12_reason_99 fX12_32 rfl (s_63_10 S) ?_
      refine z_iload (pc := 102) dX12_reason_102 rfl ?_
      refine z_iald (pc := 104) dX12_reason_104 c2 ?_
      refine z_iload (pc := 105) dX12_reason_105 rfl ?_
      refine z_icmp_ne (pc := 107) (tgt := 124) dX12_reason_107 (by decide) (fun c4 => ?_) (fun c4 => ?_)
      · replace H := H.1 c4
        refine z_iinc (pc := 124) (v := (x7 + (nI 1))) (ls' := [some (.inr (some (0, 12, 63))), some (.inl x1), some (.inl x2), some (.inl x3), some (.inl x4), some (.inl x5), some (.inl x6), some (.inl (x7 + (nI 1)))]) dX12_reason_124 rfl (by rw [show Int32.ofInt (1) = (nI 1) by decide]) rfl ?_
        refine z_goto (pc := 127) (tgt := 81) dX12_reason_127 (by decide) ?_
        exact H
      · replace H := H.2 c4
        refine z_aload_n (pc := 110) dX12_reason_110 rfl rfl ?_
        refine z_getk (pc := 111) dX12_reason_111 fX12_35 rfl (s_63_11 S) ?_
        refine z_iload (pc := 114) dX12_reason_114 rfl ?_
        refine z_iald (pc := 116) dX12_reason_116 c2 ?_
        refine z_iload (pc := 117) dX12_reason_117 rfl ?_
        refine z_icmp_ne (pc := 119) (tgt := 124) dX12_reason_119 (by decide) (fun c5 => ?_) (fun c5 => ?_)
        · replace H := H.1 c5
          refine z_iinc (pc := 124) (v := (x7 + (nI 1))) (ls' := [some (.inr (some (0, 12, 63))), some (.inl x1), some (.inl x2), some (.inl x3), some (.inl x4), some (.inl x5), some (.inl x6), some (.inl (x7 + (nI 1)))]) dX12_reason_124 rfl (by rw [show Int32.ofInt (1) = (nI 1) by decide]) rfl ?_
          refine z_goto (pc := 127) (tgt := 81) dX12_reason_127 (by decide) ?_
          exact H
        · replace H := H.2 c5
          refine z_iconst (pc := 122) (v := (nI 3)) dX12_reason_122 (by decide) ?_
          exact z_iret (pc := 123) dX12_reason_123 rfl rfl ⟨_, rfl, H⟩

set_option maxRecDepth 20000 in
theorem bX12_reason_133 {l : Launch} {E : eE} {d bc bs : Nat} {h : aH} {Q : Int32 → aH → Prop} {x1 : Int32} {x2 : Int32} {x3 : Int32} {x4 : Int32} {x5 : Int32} {x6 : Int32} {x7 : Int32} (S : SH h) (H : ((x3 ≤ x7 → Q (nI 0) h) ∧ (¬ x3 ≤ x7 → (vp_in x7 400 ∧ ((¬ (hA h 69 (x7).toNatClampNeg) = (nI 2) → LX12_reason_133 l E (d + 1) bc bs x1 x2 x3 x4 x5 x6 (x7 + (nI 1)) h Q) ∧ ((hA h 69 (x7).toNatClampNeg) = (nI 2) → ((¬ (hA h 70 (x7).toNatClampNeg) = x1 → LX12_reason_133 l E (d + 1) bc bs x1 x2 x3 x4 x5 x6 (x7 + (nI 1)) h Q) ∧ ((hA h 70 (x7).toNatClampNeg) = x1 → ((x2 < (hA h 71 (x7).toNatClampNeg) → LX12_reason_133 l E (d + 1) bc bs x1 x2 x3 x4 x5 x6 (x7 + (nI 1)) h Q) ∧ (¬ x2 < (hA h 71 (x7).toNatClampNeg) → (((hA h 72 (x7).toNatClampNeg) ≤ x2 → LX12_reason_133 l E (d + 1) bc bs x1 x2 x3 x4 x5 x6 (x7 + (nI 1)) h Q) ∧ (¬ (hA h 72 (x7).toNatClampNeg) ≤ x2 → Q (nI 4) h)))))))))))) : LX12_reason_133 l E (d + 1) bc bs x1 x2 x3 x4 x5 x6 x7 h Q := by
  refine z_iload (pc := 133) dX12_reason_133 rfl ?_
  refine z_iload_n (pc := 135) dX12_reason_135 rfl rfl ?_
  refine z_icmp_ge (pc := 136) (tgt := 191) dX12_reason_136 (by decide) (fun c1 => ?_) (fun c1 => ?_)
  · replace H := H.1 c1
    refine z_iconst (pc := 191) (v := (nI 0)) dX12_reason_191 (by decide) ?_
    exact z_iret (pc := 192) dX12_reason_192 rfl rfl ⟨_, rfl, H⟩
  · replace H := H.2 c1
    refine z_aload_n (pc := 139) dX12_reason_139 rfl rfl ?_
    refine z_getk (pc := 140) dX12_reason_140 fX12_29 rfl (s_63_9 S) ?_
    refine z_iload (pc := 143) dX12_reason_143 rfl ?_
    have c2 := H.1
    replace H := H.2
    refine z_iald (pc := 145) dX12_reason_145 c2 ?_
    refine z_iconst (pc := 146) (v := (nI 2)) dX12_reason_146 (by decide) ?_
    refine z_icmp_ne (pc := 147) (tgt := 185) dX12_reason_147 (by decide) (fun c3 => ?_) (fun c3 => ?_)
    · replace H := H.1 c3
      refine z_iinc (pc := 185) (v := (x7 + (nI 1))) (ls' := [some (.inr (some (0, 12, 63))), some (.inl x1), some (.inl x2), some (.inl x3), some (.inl x4), some (.inl x5), some (.inl x6), some (.inl (x7 + (nI 1)))]) dX12_reason_185 rfl (by rw [show Int32.ofInt (1) = (nI 1) by decide]) rfl ?_
      refine z_goto (pc := 188) (tgt := 133) dX12_reason_188 (by decide) ?_
      exact H
    · replace H := H.2 c3
      refine z_aload_n (pc := 150) dX12_reason_150 rfl rfl ?_
      refine z_getk (pc := 151) dX12_reason_151 fX12_32 rfl (s_63_10 S) ?_
      refine z_iload (pc := 154) dX12_reason_154 rfl ?_
      refine z_iald (pc := 156) dX12_reason_156 c2 ?_
      refine z_iload_n (pc := 157) dX12_reason_157 rfl rfl ?_
      refine z_icmp_ne (pc := 158) (tgt := 185) dX12_reason_158 (by decide) (fun c4 => ?_) (fun c4 => ?_)
      · replace H := H.1 c4
        refine z_iinc (pc := 185) (v := (x7 + (nI 1))) (ls' := [some (.inr (some (0, 12, 63))), some (.inl x1), some (.inl x2), some (.inl x3), some (.inl x4), some (.inl x5), some (.inl x6), some (.inl (x7 + (nI 1)))]) dX12_reason_185 rfl (by rw [show Int32.ofInt (1) = (nI 1) by decide]) rfl ?_
        refine z_goto (pc := 188) (tgt := 133) dX12_reason_188 (by decide) ?_
        exact H
      · replace H := H.2 c4
        refine z_aload_n (pc := 161) dX12_reason_161 rfl rfl ?_
        refine z_getk (pc := 162) dX12_reason_162 fX12_35 rfl (s_63_11 S) ?_
        refine z_iload (pc := 165) dX12_reason_165 rfl ?_
        refine z_iald (pc := 167) dX12_reason_167 c2 ?_
        refine z_iload_n (pc := 168) dX12_reason_168 rfl rfl ?_
        refine z_icmp_gt (pc := 169) (tgt := 185) dX12_reason_169 (by decide) (fun c5 => ?_) (fun c5 => ?_)
        · replace H := H.1 c5
          refine z_iinc (pc := 185) (v := (x7 + (nI 1))) (ls' := [some (.inr (some (0, 12, 63))), some (.inl x1), some (.inl x2), some (.inl x3), some (.inl x4), some (.inl x5), some (.inl x6), some (.inl (x7 + (nI 1)))]) dX12_reason_185 rfl (by rw [show Int32.ofInt (1) = (nI 1) by decide]) rfl ?_
          refine z_goto (pc := 188) (tgt := 133) dX12_reason_188 (by decide) ?_
          exact H
        · replace H := H.2 c5
          refine z_iload_n (pc := 172) dX12_reason_172 rfl rfl ?_
          refine z_aload_n (pc := 173) dX12_reason_173 rfl rfl ?_
          refine z_getk (pc := 174) dX12_reason_174 fX12_38 rfl (s_63_12 S) ?_
          refine z_iload (pc := 177) dX12_reason_177 rfl ?_
          refine z_iald (pc := 179) dX12_reason_179 c2 ?_
          refine z_icmp_ge (pc := 180) (tgt := 185) dX12_reason_180 (by decide) (fun c6 => ?_) (fun c6 => ?_)
          · replace H := H.1 c6
            refine z_iinc (pc := 185) (v := (x7 + (nI 1))) (ls' := [some (.inr (some (0, 12, 63))), some (.inl x1), some (.inl x2), some (.inl x3), some (.inl x4), some (.inl x5), some (.inl x6), some (.inl (x7 + (nI 1)))]) dX12_reason_185 rfl (by rw [show Int32.ofInt (1) = (nI 1) by decide]) rfl ?_
            refine z_goto (pc := 188) (tgt := 133) dX12_reason_188 (by decide) ?_
            exact H
          · replace H := H.2 c6
            refine z_iconst (pc := 183) (v := (nI 4)) dX12_reason_183 (by decide) ?_
            exact z_iret (pc := 184) dX12_reason_184 rfl rfl ⟨_, rfl, H⟩

abbrev LX12_reasons_3 (l : Launch) (E : eE) (d bc bs : Nat) (x1 : Int32) (x2 : Int32) (x3 : Int32) (x4 : Int32) (x5 : Int32) (h : aH) (Q : Int32 → aH → Prop) : Prop := TI l E mX12_reasons d bc bs 3 [some (.inr (some (0, 12, 63))), some (.inl x1), some (.inl x2), some (.inl x3), some (.inl x4), some (.inl x5), none] [] h Q

set_option maxRecDepth 20000 in
theorem bX12_reasons_0 {l : Launch} {E : eE} {d bc bs : Nat} {h : aH} {Q : Int32 → aH → Prop} {x1 : Int32} {x2 : Int32} {x3 : Int32} {x4 : Int32} (S : SH h) (H : LX12_reasons_3 l E (d + 1) bc bs x1 x2 x3 x4 (nI 0) h Q) : CI l E (d + 1) bc bs mX12_reasons [.inr (some (0, 12, 63)), .inl x1, .inl x2, .inl x3, .inl x4] h Q := by
  refine CI.of (by decide) rfl ?_
  show TI l E mX12_reasons (d + 1) bc bs 0 [some (.inr (some (0, 12, 63))), some (.inl x1), some (.inl x2), some (.inl x3), some (.inl x4), none, none] [] h Q
  refine z_iconst (pc := 0) (v := (nI 0)) dX12_reasons_0 (by decide) ?_
  refine z_istore (pc := 1) (ls' := [some (.inr (some (0, 12, 63))), some (.inl x1), some (.inl x2), some (.inl x3), some (.inl x4), some (.inl (nI 0)), none]) dX12_reasons_1 rfl rfl ?_
  exact H

set_option maxRecDepth 20000 in
theorem bX12_reasons_3 {l : Launch} {E : eE} {d bc bs : Nat} {h : aH} {Q : Int32 → aH → Prop} {x1 : Int32} {x2 : Int32} {x3 : Int32} {x4 : Int32} {x5 : Int32} (S : SH h) (H : ((x3 ≤ x5 → Q (nI 0) h) ∧ (¬ x3 ≤ x5 → (CI l E d 0 0 mX12_reason [.inr (some (0, 12, 63)), .inl x1, .inl (x2 + x5), .inl x4] h (fun v2 h2 => SH h2 ∧ ((v2 ≤ 0 → LX12_reasons_3 l E (d + 1) bc bs x1 x2 x3 x4 (x5 + (nI 1)) h2 Q) ∧ (¬ v2 ≤ 0 → Q v2 h2))))))) : LX12_reasons_3 l E (d + 1) bc bs x1 x2 x3 x4 x5 h Q := by
  refine z_iload (pc := 3) dX12_reasons_3 rfl ?_
  refine z_iload_n (pc := 5) dX12_reasons_5 rfl rfl ?_
  refine z_icmp_ge (pc := 6) (tgt := 36) dX12_reasons_6 (by decide) (fun c1 => ?_) (fun c1 => ?_)
  · replace H := H.1 c1
    refine z_iconst (pc := 36) (v := (nI 0)) dX12_reasons_36 (by decide) ?_
    exact z_iret (pc := 37) dX12_reasons_37 rfl rfl ⟨_, rfl, H⟩
  · replace H := H.2 c1
    refine z_aload_n (pc := 9) dX12_reasons_9 rfl rfl ?_
    refine z_iload_n (pc := 10) dX12_reasons_10 rfl rfl ?_
    refine z_iload_n (pc := 11) dX12_reasons_11 rfl rfl ?_
    refine z_iload (pc := 12) dX12_reasons_12 rfl ?_
    refine z_iadd (pc := 14) dX12_reasons_14 ?_
    refine z_iload (pc := 15) dX12_reasons_15 rfl ?_
    refine y_VI (pc := 17) (bc := bc) (bs := bs) (mc := 0) (ms := 0) (As := [.inl x1, .inl (x2 + x5), .inl x4]) (rest := []) dX12_reasons_17 kX12_reason lX12_167 ⟨_, _, rfl⟩ rfl rfl (H.use (fun v2 h2 H => ?_))
    have S2 := H.1
    replace H := H.2
    refine z_istore (pc := 20) (ls' := [some (.inr (some (0, 12, 63))), some (.inl x1), some (.inl x2), some (.inl x3), some (.inl x4), some (.inl x5), some (.inl v2)]) dX12_reasons_20 rfl rfl ?_
    refine z_iload (pc := 22) dX12_reasons_22 rfl ?_
    refine z_if_le (pc := 24) (tgt := 30) dX12_reasons_24 (by decide) (fun c3 => ?_) (fun c3 => ?_)
    · replace H := H.1 c3
      refine z_iinc (pc := 30) (v := (x5 + (nI 1))) (ls' := [some (.inr (some (0, 12, 63))), some (.inl x1), some (.inl x2), some (.inl x3), some (.inl x4), some (.inl (x5 + (nI 1))), some (.inl v2)]) dX12_reasons_30 rfl (by rw [show Int32.ofInt (1) = (nI 1) by decide]) rfl ?_
      refine z_goto (pc := 33) (tgt := 3) dX12_reasons_33 (by decide) ?_
      exact z_drop (ls' := [some (.inr (some (0, 12, 63))), some (.inl x1), some (.inl x2), some (.inl x3), some (.inl x4), some (.inl (x5 + (nI 1))), none]) (by simp [dropL]) H
    · replace H := H.2 c3
      refine z_iload (pc := 27) dX12_reasons_27 rfl ?_
      exact z_iret (pc := 29) dX12_reasons_29 rfl rfl ⟨_, rfl, H⟩

abbrev LX12_costs_6 (l : Launch) (E : eE) (d bc bs : Nat) (x1 : Int32) (x2 : Int32) (x3 : Int32) (x4 : Int32) (x5 : Int32) (x6 : Int32) (h : aH) (Q : Int32 → aH → Prop) : Prop := TI l E mX12_costs d bc bs 6 [some (.inr (some (0, 12, 63))), some (.inl x1), some (.inl x2), some (.inl x3), some (.inl x4), some (.inl x5), some (.inl x6), none, none] [] h Q

set_option maxRecDepth 20000 in
theorem bX12_costs_0 {l : Launch} {E : eE} {d bc bs : Nat} {h : aH} {Q : Int32 → aH → Prop} {x1 : Int32} {x2 : Int32} {x3 : Int32} {x4 : Int32} (S : SH h) (H : LX12_costs_6 l E (d + 1) bc bs x1 x2 x3 x4 (nI 0) (nI 0) h Q) : CI l E (d + 1) bc bs mX12_costs [.inr (some (0, 12, 63)), .inl x1, .inl x2, .inl x3, .inl x4] h Q := by
  refine CI.of (by decide) rfl ?_
  show TI l E mX12_costs (d + 1) bc bs 0 [some (.inr (some (0, 12, 63))), some (.inl x1), some (.inl x2), some (.inl x3), some (.inl x4), none, none, none, none] [] h Q
  refine z_iconst (pc := 0) (v := (nI 0)) dX12_costs_0 (by decide) ?_
  refine z_istore (pc := 1) (ls' := [some (.inr (some (0, 12, 63))), some (.inl x1), some (.inl x2), some (.inl x3), some (.inl x4), some (.inl (nI 0)), none, none, none]) dX12_costs_1 rfl rfl ?_
  refine z_iconst (pc := 3) (v := (nI 0)) dX12_costs_3 (by decide) ?_
  refine z_istore (pc := 4) (ls' := [some (.inr (some (0, 12, 63))), some (.inl x1), some (.inl x2), some (.inl x3), some (.inl x4), some (.inl (nI 0)), some (.inl (nI 0)), none, none]) dX12_costs_4 rfl rfl ?_
  exact H

set_option maxRecDepth 20000 in
theorem bX12_costs_6 {l : Launch} {E : eE} {d bc bs : Nat} {h : aH} {Q : Int32 → aH → Prop} {x1 : Int32} {x2 : Int32} {x3 : Int32} {x4 : Int32} {x5 : Int32} {x6 : Int32} (S : SH h) (H : ((x3 ≤ x6 → Q x5 h) ∧ (¬ x3 ≤ x6 → (vp_in x1 12 ∧ (CI l E d 0 0 mX12_offsetAt [.inr (some (0, 12, 63)), .inl (hA h 65 (x1).toNatClampNeg), .inl (x2 + x6), .inl x4] h (fun v3 h3 => SH h3 ∧ (CI l E d 0 0 mX12_down [.inl ((x2 + x6) + v3), .inl (nI 48)] h3 (fun v4 h4 => SH h4 ∧ (CI l E d 0 0 mX12_costAt [.inr (some (0, 12, 63)), .inl x1, .inl (((x2 + x6) + v3) - ((nI 48) * v4))] h4 (fun v5 h5 => SH h5 ∧ ((v5 ≤ 0 → LX12_costs_6 l E (d + 1) bc bs x1 x2 x3 x4 x5 (x6 + (nI 1)) h5 Q) ∧ (¬ v5 ≤ 0 → LX12_costs_6 l E (d + 1) bc bs x1 x2 x3 x4 (x5 + v5) (x6 + (nI 1)) h5 Q)))))))))))) : LX12_costs_6 l E (d + 1) bc bs x1 x2 x3 x4 x5 x6 h Q := by
  refine z_iload (pc := 6) dX12_costs_6 rfl ?_
  refine z_iload_n (pc := 8) dX12_costs_8 rfl rfl ?_
  refine z_icmp_ge (pc := 9) (tgt := 73) dX12_costs_9 (by decide) (fun c1 => ?_) (fun c1 => ?_)
  · replace H := H.1 c1
    refine z_iload (pc := 73) dX12_costs_73 rfl ?_
    exact z_iret (pc := 75) dX12_costs_75 rfl rfl ⟨_, rfl, H⟩
  · replace H := H.2 c1
    refine z_iload_n (pc := 12) dX12_costs_12 rfl rfl ?_
    refine z_iload (pc := 13) dX12_costs_13 rfl ?_
    refine z_iadd (pc := 15) dX12_costs_15 ?_
    refine z_aload_n (pc := 16) dX12_costs_16 rfl rfl ?_
    refine z_aload_n (pc := 17) dX12_costs_17 rfl rfl ?_
    refine z_getk (pc := 18) dX12_costs_18 fX12_17 rfl (s_63_4 S) ?_
    refine z_iload_n (pc := 21) dX12_costs_21 rfl rfl ?_
    have c2 := H.1
    replace H := H.2
    refine z_iald (pc := 22) dX12_costs_22 c2 ?_
    refine z_iload_n (pc := 23) dX12_costs_23 rfl rfl ?_
    refine z_iload (pc := 24) dX12_costs_24 rfl ?_
    refine z_iadd (pc := 26) dX12_costs_26 ?_
    refine z_iload (pc := 27) dX12_costs_27 rfl ?_
    refine y_VI (pc := 29) (bc := bc) (bs := bs) (mc := 0) (ms := 0) (As := [.inl (hA h 65 (x1).toNatClampNeg), .inl (x2 + x6), .inl x4]) (rest := [.inl (x2 + x6)]) dX12_costs_29 kX12_offsetAt lX12_156 ⟨_, _, rfl⟩ rfl rfl (H.use (fun v3 h3 H => ?_))
    have S3 := H.1
    replace H := H.2
    refine z_iadd (pc := 32) dX12_costs_32 ?_
    refine z_istore (pc := 33) (ls' := [some (.inr (some (0, 12, 63))), some (.inl x1), some (.inl x2), some (.inl x3), some (.inl x4), some (.inl x5), some (.inl x6), some (.inl ((x2 + x6) + v3)), none]) dX12_costs_33 rfl rfl ?_
    refine z_aload_n (pc := 35) dX12_costs_35 rfl rfl ?_
    refine z_iload_n (pc := 36) dX12_costs_36 rfl rfl ?_
    refine z_iload (pc := 37) dX12_costs_37 rfl ?_
    refine z_bipush (pc := 39) (v := (nI 48)) dX12_costs_39 (by decide) ?_
    refine z_iload (pc := 41) dX12_costs_41 rfl ?_
    refine z_bipush (pc := 43) (v := (nI 48)) dX12_costs_43 (by decide) ?_
    refine y_SI (pc := 45) (bc := bc) (bs := bs) (mc := 0) (ms := 0) (As := [.inl ((x2 + x6) + v3), .inl (nI 48)]) (rest := [.inl (nI 48), .inl ((x2 + x6) + v3), .inl x1, .inr (some (0, 12, 63))]) dX12_costs_45 kX12_down lX12_160 rfl rfl (H.use (fun v4 h4 H => ?_))
    have S4 := H.1
    replace H := H.2
    refine z_imul (pc := 48) dX12_costs_48 ?_
    refine z_isub (pc := 49) dX12_costs_49 ?_
    refine y_VI (pc := 50) (bc := bc) (bs := bs) (mc := 0) (ms := 0) (As := [.inl x1, .inl (((x2 + x6) + v3) - ((nI 48) * v4))]) (rest := []) dX12_costs_50 kX12_costAt lX12_164 ⟨_, _, rfl⟩ rfl rfl (H.use (fun v5 h5 H => ?_))
    have S5 := H.1
    replace H := H.2
    refine z_istore (pc := 53) (ls' := [some (.inr (some (0, 12, 63))), some (.inl x1), some (.inl x2), some (.inl x3), some (.inl x4), some (.inl x5), some (.inl x6), some (.inl ((x2 + x6) + v3)), some (.inl v5)]) dX12_costs_53 rfl rfl ?_
    refine z_iload (pc := 55) dX12_costs_55 rfl ?_
    refine z_if_le (pc := 57) (tgt := 67) dX12_costs_57 (by decide) (fun c6 => ?_) (fun c6 => ?_)
    · replace H := H.1 c6
      refine z_iinc (pc := 67) (v := (x6 + (nI 1))) (ls' := [some (.inr (some (0, 12, 63))), some (.inl x1), some (.inl x2), some (.inl x3), some (.inl x4), some (.inl x5), some (.inl (x6 + (nI 1))), some (.inl ((x2 + x6) + v3)), some (.inl v5)]) dX12_costs_67 rfl (by rw [show Int32.ofInt (1) = (nI 1) by decide]) rfl ?_
      refine z_goto (pc := 70) (tgt := 6) dX12_costs_70 (by decide) ?_
      exact z_drop (ls' := [some (.inr (some (0, 12, 63))), some (.inl x1), some (.inl x2), some (.inl x3), some (.inl x4), some (.inl x5), some (.inl (x6 + (nI 1))), none, none]) (by simp [dropL]) H
    · replace H := H.2 c6
      refine z_iload (pc := 60) dX12_costs_60 rfl ?_
      refine z_iload (pc := 62) dX12_costs_62 rfl ?_
      refine z_iadd (pc := 64) dX12_costs_64 ?_
      refine z_istore (pc := 65) (ls' := [some (.inr (some (0, 12, 63))), some (.inl x1), some (.inl x2), some (.inl x3), some (.inl x4), some (.inl (x5 + v5)), some (.inl x6), some (.inl ((x2 + x6) + v3)), some (.inl v5)]) dX12_costs_65 rfl rfl ?_
      refine z_iinc (pc := 67) (v := (x6 + (nI 1))) (ls' := [some (.inr (some (0, 12, 63))), some (.inl x1), some (.inl x2), some (.inl x3), some (.inl x4), some (.inl (x5 + v5)), some (.inl (x6 + (nI 1))), some (.inl ((x2 + x6) + v3)), some (.inl v5)]) dX12_costs_67 rfl (by rw [show Int32.ofInt (1) = (nI 1) by decide]) rfl ?_
      refine z_goto (pc := 70) (tgt := 6) dX12_costs_70 (by decide) ?_
      exact z_drop (ls' := [some (.inr (some (0, 12, 63))), some (.inl x1), some (.inl x2), some (.inl x3), some (.inl x4), some (.inl (x5 + v5)), some (.inl (x6 + (nI 1))), none, none]) (by simp [dropL]) H

set_option maxRecDepth 20000 in
theorem bX12_isSpan_0 {l : Launch} {E : eE} {d bc bs : Nat} {h : aH} {Q : Int32 → aH → Prop} {x1 : Int32} {x2 : Int32} {x3 : Int32} {x4 : Int32} (S : SH h) (H : (CI l E d 0 0 mX12_isPerson [.inr (some (0, 12, 63)), .inl x1] h (fun v1 h1 => SH h1 ∧ ((v1 = 0 → Q (nI 0) h1) ∧ (¬ v1 = 0 → ((x3 < (nI 1) → Q (nI 0) h1) ∧ (¬ x3 < (nI 1) → (((nI 6) < x3 → Q (nI 0) h1) ∧ (¬ (nI 6) < x3 → ((x2 < 0 → Q (nI 0) h1) ∧ (¬ x2 < 0 → ((((nI 17472) - x3) < x2 → Q (nI 0) h1) ∧ (¬ ((nI 17472) - x3) < x2 → (CI l E d 0 0 mX12_isKnown [.inr (some (0, 12, 63)), .inl x4] h1 (fun v7 h7 => SH h7 ∧ ((v7 = 0 → Q (nI 0) h7) ∧ (¬ v7 = 0 → Q (nI 1) h7))))))))))))))))) : CI l E (d + 1) bc bs mX12_isSpan [.inr (some (0, 12, 63)), .inl x1, .inl x2, .inl x3, .inl x4] h Q := by
  refine CI.of (by decide) rfl ?_
  show TI l E mX12_isSpan (d + 1) bc bs 0 [some (.inr (some (0, 12, 63))), some (.inl x1), some (.inl x2), some (.inl x3), some (.inl x4)] [] h Q
  refine z_aload_n (pc := 0) dX12_isSpan_0 rfl rfl ?_
  refine z_iload_n (pc := 1) dX12_isSpan_1 rfl rfl ?_
  refine y_VI (pc := 2) (bc := bc) (bs := bs) (mc := 0) (ms := 0) (As := [.inl x1]) (rest := []) dX12_isSpan_2 kX12_isPerson lX12_139 ⟨_, _, rfl⟩ rfl rfl (H.use (fun v1 h1 H => ?_))
  have S1 := H.1
  replace H := H.2
  refine z_if_eq (pc := 5) (tgt := 45) dX12_isSpan_5 (by decide) (fun c2 => ?_) (fun c2 => ?_)
  · replace H := H.1 c2
    refine z_iconst (pc := 45) (v := (nI 0)) dX12_isSpan_45 (by decide) ?_
    exact z_iret (pc := 46) dX12_isSpan_46 rfl rfl ⟨_, rfl, H⟩
  · replace H := H.2 c2
    refine z_iload_n (pc := 8) dX12_isSpan_8 rfl rfl ?_
    refine z_iconst (pc := 9) (v := (nI 1)) dX12_isSpan_9 (by decide) ?_
    refine z_icmp_lt (pc := 10) (tgt := 45) dX12_isSpan_10 (by decide) (fun c3 => ?_) (fun c3 => ?_)
    · replace H := H.1 c3
      refine z_iconst (pc := 45) (v := (nI 0)) dX12_isSpan_45 (by decide) ?_
      exact z_iret (pc := 46) dX12_isSpan_46 rfl rfl ⟨_, rfl, H⟩
    · replace H := H.2 c3
      refine z_iload_n (pc := 13) dX12_isSpan_13 rfl rfl ?_
      refine z_bipush (pc := 14) (v := (nI 6)) dX12_isSpan_14 (by decide) ?_
      refine z_icmp_gt (pc := 16) (tgt := 45) dX12_isSpan_16 (by decide) (fun c4 => ?_) (fun c4 => ?_)
      · replace H := H.1 c4
        refine z_iconst (pc := 45) (v := (nI 0)) dX12_isSpan_45 (by decide) ?_
        exact z_iret (pc := 46) dX12_isSpan_46 rfl rfl ⟨_, rfl, H⟩
      · replace H := H.2 c4
        refine z_iload_n (pc := 19) dX12_isSpan_19 rfl rfl ?_
        refine z_if_lt (pc := 20) (tgt := 45) dX12_isSpan_20 (by decide) (fun c5 => ?_) (fun c5 => ?_)
        · replace H := H.1 c5
          refine z_iconst (pc := 45) (v := (nI 0)) dX12_isSpan_45 (by decide) ?_
          exact z_iret (pc := 46) dX12_isSpan_46 rfl rfl ⟨_, rfl, H⟩
        · replace H := H.2 c5
          refine z_iload_n (pc := 23) dX12_isSpan_23 rfl rfl ?_
          refine z_sipush (pc := 24) (v := (nI 17472)) dX12_isSpan_24 (by decide) ?_
          refine z_iload_n (pc := 27) dX12_isSpan_27 rfl rfl ?_
          refine z_isub (pc := 28) dX12_isSpan_28 ?_
          refine z_icmp_gt (pc := 29) (tgt := 45) dX12_isSpan_29 (by decide) (fun c6 => ?_) (fun c6 => ?_)
          · replace H := H.1 c6
            refine z_iconst (pc := 45) (v := (nI 0)) dX12_isSpan_45 (by decide) ?_
            exact z_iret (pc := 46) dX12_isSpan_46 rfl rfl ⟨_, rfl, H⟩
          · replace H := H.2 c6
            refine z_aload_n (pc := 32) dX12_isSpan_32 rfl rfl ?_
            refine z_iload (pc := 33) dX12_isSpan_33 rfl ?_
            refine y_VI (pc := 35) (bc := bc) (bs := bs) (mc := 0) (ms := 0) (As := [.inl x4]) (rest := []) dX12_isSpan_35 kX12_isKnown lX12_152 ⟨_, _, rfl⟩ rfl rfl (H.use (fun v7 h7 H => ?_))
            have S7 := H.1
            replace H := H.2
            refine z_if_eq (pc := 38) (tgt := 45) dX12_isSpan_38 (by decide) (fun c8 => ?_) (fun c8 => ?_)
            · replace H := H.1 c8
              refine z_iconst (pc := 45) (v := (nI 0)) dX12_isSpan_45 (by decide) ?_
              exact z_iret (pc := 46) dX12_isSpan_46 rfl rfl ⟨_, rfl, H⟩
            · replace H := H.2 c8
              refine z_iconst (pc := 41) (v := (nI 1)) dX12_isSpan_41 (by decide) ?_
              refine z_goto (pc := 42) (tgt := 46) dX12_isSpan_42 (by decide) ?_
              exact z_iret (pc := 46) dX12_isSpan_46 rfl rfl ⟨_, rfl, H⟩

set_option maxRecDepth 20000 in
theorem bX12_can_0 {l : Launch} {E : eE} {d bc bs : Nat} {h : aH} {Q : Int32 → aH → Prop} {x1 : Int32} {x2 : Int32} {x3 : Int32} {x4 : Int32} (S : SH h) (H : (CI l E d 0 0 mX12_isSpan [.inr (some (0, 12, 63)), .inl x1, .inl x2, .inl x3, .inl x4] h (fun v1 h1 => SH h1 ∧ ((v1 = 0 → Q (-1) h1) ∧ (¬ v1 = 0 → (CI l E d 0 0 mX12_reasons [.inr (some (0, 12, 63)), .inl x1, .inl x2, .inl x3, .inl x4] h1 (fun v3 h3 => SH h3 ∧ Q v3 h3))))))) : CI l E (d + 1) bc bs mX12_can [.inr (some (0, 12, 63)), .inl x1, .inl x2, .inl x3, .inl x4] h Q := by
  refine CI.of (by decide) rfl ?_
  show TI l E mX12_can (d + 1) bc bs 0 [some (.inr (some (0, 12, 63))), some (.inl x1), some (.inl x2), some (.inl x3), some (.inl x4)] [] h Q
  refine z_aload_n (pc := 0) dX12_can_0 rfl rfl ?_
  refine z_iload_n (pc := 1) dX12_can_1 rfl rfl ?_
  refine z_iload_n (pc := 2) dX12_can_2 rfl rfl ?_
  refine z_iload_n (pc := 3) dX12_can_3 rfl rfl ?_
  refine z_iload (pc := 4) dX12_can_4 rfl ?_
  refine y_VI (pc := 6) (bc := bc) (bs := bs) (mc := 0) (ms := 0) (As := [.inl x1, .inl x2, .inl x3, .inl x4]) (rest := []) dX12_can_6 kX12_isSpan lX12_170 ⟨_, _, rfl⟩ rfl rfl (H.use (fun v1 h1 H => ?_))
  have S1 := H.1
  replace H := H.2
  refine z_if_eq (pc := 9) (tgt := 24) dX12_can_9 (by decide) (fun c2 => ?_) (fun c2 => ?_)
  · replace H := H.1 c2
    refine z_iconst (pc := 24) (v := (-1)) dX12_can_24 (by decide) ?_
    exact z_iret (pc := 25) dX12_can_25 rfl rfl ⟨_, rfl, H⟩
  · replace H := H.2 c2
    refine z_aload_n (pc := 12) dX12_can_12 rfl rfl ?_
    refine z_iload_n (pc := 13) dX12_can_13 rfl rfl ?_
    refine z_iload_n (pc := 14) dX12_can_14 rfl rfl ?_
    refine z_iload_n (pc := 15) dX12_can_15 rfl rfl ?_
    refine z_iload (pc := 16) dX12_can_16 rfl ?_
    refine y_VI (pc := 18) (bc := bc) (bs := bs) (mc := 0) (ms := 0) (As := [.inl x1, .inl x2, .inl x3, .inl x4]) (rest := []) dX12_can_18 kX12_reasons lX12_174 ⟨_, _, rfl⟩ rfl rfl (H.use (fun v3 h3 H => ?_))
    have S3 := H.1
    replace H := H.2
    refine z_goto (pc := 21) (tgt := 25) dX12_can_21 (by decide) ?_
    exact z_iret (pc := 25) dX12_can_25 rfl rfl ⟨_, rfl, H⟩

set_option maxRecDepth 20000 in
theorem bX12_cost_0 {l : Launch} {E : eE} {d bc bs : Nat} {h : aH} {Q : Int32 → aH → Prop} {x1 : Int32} {x2 : Int32} {x3 : Int32} {x4 : Int32} (S : SH h) (H : (CI l E d 0 0 mX12_isSpan [.inr (some (0, 12, 63)), .inl x1, .inl x2, .inl x3, .inl x4] h (fun v1 h1 => SH h1 ∧ ((v1 = 0 → Q (-1) h1) ∧ (¬ v1 = 0 → (CI l E d 0 0 mX12_costs [.inr (some (0, 12, 63)), .inl x1, .inl x2, .inl x3, .inl x4] h1 (fun v3 h3 => SH h3 ∧ Q v3 h3))))))) : CI l E (d + 1) bc bs mX12_cost [.inr (some (0, 12, 63)), .inl x1, .inl x2, .inl x3, .inl x4] h Q := by
  refine CI.of (by decide) rfl ?_
  show TI l E mX12_cost (d + 1) bc bs 0 [some (.inr (some (0, 12, 63))), some (.inl x1), some (.inl x2), some (.inl x3), some (.inl x4)] [] h Q
  refine z_aload_n (pc := 0) dX12_cost_0 rfl rfl ?_
  refine z_iload_n (pc := 1) dX12_cost_1 rfl rfl ?_
  refine z_iload_n (pc := 2) dX12_cost_2 rfl rfl ?_
  refine z_iload_n (pc := 3) dX12_cost_3 rfl rfl ?_
  refine z_iload (pc := 4) dX12_cost_4 rfl ?_
  refine y_VI (pc := 6) (bc := bc) (bs := bs) (mc := 0) (ms := 0) (As := [.inl x1, .inl x2, .inl x3, .inl x4]) (rest := []) dX12_cost_6 kX12_isSpan lX12_170 ⟨_, _, rfl⟩ rfl rfl (H.use (fun v1 h1 H => ?_))
  have S1 := H.1
  replace H := H.2
  refine z_if_eq (pc := 9) (tgt := 24) dX12_cost_9 (by decide) (fun c2 => ?_) (fun c2 => ?_)
  · replace H := H.1 c2
    refine z_iconst (pc := 24) (v := (-1)) dX12_cost_24 (by decide) ?_
    exact z_iret (pc := 25) dX12_cost_25 rfl rfl ⟨_, rfl, H⟩
  · replace H := H.2 c2
    refine z_aload_n (pc := 12) dX12_cost_12 rfl rfl ?_
    refine z_iload_n (pc := 13) dX12_cost_13 rfl rfl ?_
    refine z_iload_n (pc := 14) dX12_cost_14 rfl rfl ?_
    refine z_iload_n (pc := 15) dX12_cost_15 rfl rfl ?_
    refine z_iload (pc := 16) dX12_cost_16 rfl ?_
    refine y_VI (pc := 18) (bc := bc) (bs := bs) (mc := 0) (ms := 0) (As := [.inl x1, .inl x2, .inl x3, .inl x4]) (rest := []) dX12_cost_18 kX12_costs lX12_178 ⟨_, _, rfl⟩ rfl rfl (H.use (fun v3 h3 H => ?_))
    have S3 := H.1
    replace H := H.2
    refine z_goto (pc := 21) (tgt := 25) dX12_cost_21 (by decide) ?_
    exact z_iret (pc := 25) dX12_cost_25 rfl rfl ⟨_, rfl, H⟩

abbrev LX12_span_34 (l : Launch) (E : eE) (d bc bs : Nat) (x1 : Int32) (x2 : Int32) (x3 : Int32) (x4 : Int32) (h : aH) (Q : Int32 → aH → Prop) : Prop := TI l E mX12_span d bc bs 34 [some (.inr (some (0, 12, 63))), some (.inl x1), some (.inl x2), some (.inl x3), some (.inl x4)] [] h Q

set_option maxRecDepth 20000 in
theorem bX12_span_0 {l : Launch} {E : eE} {d bc bs : Nat} {h : aH} {Q : Int32 → aH → Prop} {x1 : Int32} {x2 : Int32} {x3 : Int32} (S : SH h) (H : (CI l E d 0 0 mX12_isPerson [.inr (some (0, 12, 63)), .inl x1] h (fun v1 h1 => SH h1 ∧ ((v1 = 0 → Q (-1) h1) ∧ (¬ v1 = 0 → ((x2 < 0 → Q (-1) h1) ∧ (¬ x2 < 0 → (((nI 17472) ≤ x2 → Q (-1) h1) ∧ (¬ (nI 17472) ≤ x2 → (CI l E d 0 0 mX12_isKnown [.inr (some (0, 12, 63)), .inl x3] h1 (fun v5 h5 => SH h5 ∧ ((¬ v5 = 0 → LX12_span_34 l E (d + 1) bc bs x1 x2 x3 (x3 - (nI 1)) h5 Q) ∧ (v5 = 0 → Q (-1) h5))))))))))))) : CI l E (d + 1) bc bs mX12_span [.inr (some (0, 12, 63)), .inl x1, .inl x2, .inl x3] h Q := by
  refine CI.of (by decide) rfl ?_
  show TI l E mX12_span (d + 1) bc bs 0 [some (.inr (some (0, 12, 63))), some (.inl x1), some (.inl x2), some (.inl x3), none] [] h Q
  refine z_aload_n (pc := 0) dX12_span_0 rfl rfl ?_
  refine z_iload_n (pc := 1) dX12_span_1 rfl rfl ?_
  refine y_VI (pc := 2) (bc := bc) (bs := bs) (mc := 0) (ms := 0) (As := [.inl x1]) (rest := []) dX12_span_2 kX12_isPerson lX12_139 ⟨_, _, rfl⟩ rfl rfl (H.use (fun v1 h1 H => ?_))
  have S1 := H.1
  replace H := H.2
  refine z_if_eq (pc := 5) (tgt := 27) dX12_span_5 (by decide) (fun c2 => ?_) (fun c2 => ?_)
  · replace H := H.1 c2
    refine z_iconst (pc := 27) (v := (-1)) dX12_span_27 (by decide) ?_
    exact z_iret (pc := 28) dX12_span_28 rfl rfl ⟨_, rfl, H⟩
  · replace H := H.2 c2
    refine z_iload_n (pc := 8) dX12_span_8 rfl rfl ?_
    refine z_if_lt (pc := 9) (tgt := 27) dX12_span_9 (by decide) (fun c3 => ?_) (fun c3 => ?_)
    · replace H := H.1 c3
      refine z_iconst (pc := 27) (v := (-1)) dX12_span_27 (by decide) ?_
      exact z_iret (pc := 28) dX12_span_28 rfl rfl ⟨_, rfl, H⟩
    · replace H := H.2 c3
      refine z_iload_n (pc := 12) dX12_span_12 rfl rfl ?_
      refine z_sipush (pc := 13) (v := (nI 17472)) dX12_span_13 (by decide) ?_
      refine z_icmp_ge (pc := 16) (tgt := 27) dX12_span_16 (by decide) (fun c4 => ?_) (fun c4 => ?_)
      · replace H := H.1 c4
        refine z_iconst (pc := 27) (v := (-1)) dX12_span_27 (by decide) ?_
        exact z_iret (pc := 28) dX12_span_28 rfl rfl ⟨_, rfl, H⟩
      · replace H := H.2 c4
        refine z_aload_n (pc := 19) dX12_span_19 rfl rfl ?_
        refine z_iload_n (pc := 20) dX12_span_20 rfl rfl ?_
        refine y_VI (pc := 21) (bc := bc) (bs := bs) (mc := 0) (ms := 0) (As := [.inl x3]) (rest := []) dX12_span_21 kX12_isKnown lX12_152 ⟨_, _, rfl⟩ rfl rfl (H.use (fun v5 h5 H => ?_))
        have S5 := H.1
        replace H := H.2
        refine z_if_ne (pc := 24) (tgt := 29) dX12_span_24 (by decide) (fun c6 => ?_) (fun c6 => ?_)
        · replace H := H.1 c6
          refine z_iload_n (pc := 29) dX12_span_29 rfl rfl ?_
          refine z_iconst (pc := 30) (v := (nI 1)) dX12_span_30 (by decide) ?_
          refine z_isub (pc := 31) dX12_span_31 ?_
          refine z_istore (pc := 32) (ls' := [some (.inr (some (0, 12, 63))), some (.inl x1), some (.inl x2), some (.inl x3), some (.inl (x3 - (nI 1)))]) dX12_span_32 rfl rfl ?_
          exact H
        · replace H := H.2 c6
          refine z_iconst (pc := 27) (v := (-1)) dX12_span_27 (by decide) ?_
          exact z_iret (pc := 28) dX12_span_28 rfl rfl ⟨_, rfl, H⟩

set_option maxRecDepth 20000 in
theorem bX12_span_34 {l : Launch} {E : eE} {d bc bs : Nat} {h : aH} {Q : Int32 → aH → Prop} {x1 : Int32} {x2 : Int32} {x3 : Int32} {x4 : Int32} (S : SH h) (H : ((x4 < 0 → Q (-1) h) ∧ (¬ x4 < 0 → (vp_in x4 400 ∧ ((¬ (hA h 69 (x4).toNatClampNeg) = (nI 2) → LX12_span_34 l E (d + 1) bc bs x1 x2 x3 (x4 + (-1)) h Q) ∧ ((hA h 69 (x4).toNatClampNeg) = (nI 2) → ((¬ (hA h 70 (x4).toNatClampNeg) = x1 → LX12_span_34 l E (d + 1) bc bs x1 x2 x3 (x4 + (-1)) h Q) ∧ ((hA h 70 (x4).toNatClampNeg) = x1 → ((x2 < (hA h 71 (x4).toNatClampNeg) → LX12_span_34 l E (d + 1) bc bs x1 x2 x3 (x4 + (-1)) h Q) ∧ (¬ x2 < (hA h 71 (x4).toNatClampNeg) → (((hA h 72 (x4).toNatClampNeg) ≤ x2 → LX12_span_34 l E (d + 1) bc bs x1 x2 x3 (x4 + (-1)) h Q) ∧ (¬ (hA h 72 (x4).toNatClampNeg) ≤ x2 → (((hA h 73 (x4).toNatClampNeg) = 0 → Q x4 h) ∧ (¬ (hA h 73 (x4).toNatClampNeg) = 0 → Q (-2) h)))))))))))))) : LX12_span_34 l E (d + 1) bc bs x1 x2 x3 x4 h Q := by
  refine z_iload (pc := 34) dX12_span_34 rfl ?_
  refine z_if_lt (pc := 36) (tgt := 107) dX12_span_36 (by decide) (fun c1 => ?_) (fun c1 => ?_)
  · replace H := H.1 c1
    refine z_iconst (pc := 107) (v := (-1)) dX12_span_107 (by decide) ?_
    exact z_iret (pc := 108) dX12_span_108 rfl rfl ⟨_, rfl, H⟩
  · replace H := H.2 c1
    refine z_aload_n (pc := 39) dX12_span_39 rfl rfl ?_
    refine z_getk (pc := 40) dX12_span_40 fX12_29 rfl (s_63_9 S) ?_
    refine z_iload (pc := 43) dX12_span_43 rfl ?_
    have c2 := H.1
    replace H := H.2
    refine z_iald (pc := 45) dX12_span_45 c2 ?_
    refine z_iconst (pc := 46) (v := (nI 2)) dX12_span_46 (by decide) ?_
    refine z_icmp_ne (pc := 47) (tgt := 101) dX12_span_47 (by decide) (fun c3 => ?_) (fun c3 => ?_)
    · replace H := H.1 c3
      refine z_iinc (pc := 101) (v := (x4 + (-1))) (ls' := [some (.inr (some (0, 12, 63))), some (.inl x1), some (.inl x2), some (.inl x3), some (.inl (x4 + (-1)))]) dX12_span_101 rfl (by rw [show Int32.ofInt (-1) = (-1) by decide]) rfl ?_
      refine z_goto (pc := 104) (tgt := 34) dX12_span_104 (by decide) ?_
      exact H
    · replace H := H.2 c3
      refine z_aload_n (pc := 50) dX12_span_50 rfl rfl ?_
      refine z_getk (pc := 51) dX12_span_51 fX12_32 rfl (s_63_10 S) ?_
      refine z_iload (pc := 54) dX12_span_54 rfl ?_
      refine z_iald (pc := 56) dX12_span_56 c2 ?_
      refine z_iload_n (pc := 57) dX12_span_57 rfl rfl ?_
      refine z_icmp_ne (pc := 58) (tgt := 101) dX12_span_58 (by decide) (fun c4 => ?_) (fun c4 => ?_)
      · replace H := H.1 c4
        refine z_iinc (pc := 101) (v := (x4 + (-1))) (ls' := [some (.inr (some (0, 12, 63))), some (.inl x1), some (.inl x2), some (.inl x3), some (.inl (x4 + (-1)))]) dX12_span_101 rfl (by rw [show Int32.ofInt (-1) = (-1) by decide]) rfl ?_
        refine z_goto (pc := 104) (tgt := 34) dX12_span_104 (by decide) ?_
        exact H
      · replace H := H.2 c4
        refine z_aload_n (pc := 61) dX12_span_61 rfl rfl ?_
        refine z_getk (pc := 62) dX12_span_62 fX12_35 rfl (s_63_11 S) ?_
        refine z_iload (pc := 65) dX12_span_65 rfl ?_
        refine z_iald (pc := 67) dX12_span_67 c2 ?_
        refine z_iload_n (pc := 68) dX12_span_68 rfl rfl ?_
        refine z_icmp_gt (pc := 69) (tgt := 101) dX12_span_69 (by decide) (fun c5 => ?_) (fun c5 => ?_)
        · replace H := H.1 c5
          refine z_iinc (pc := 101) (v := (x4 + (-1))) (ls' := [some (.inr (some (0, 12, 63))), some (.inl x1), some (.inl x2), some (.inl x3), some (.inl (x4 + (-1)))]) dX12_span_101 rfl (by rw [show Int32.ofInt (-1) = (-1) by decide]) rfl ?_
          refine z_goto (pc := 104) (tgt := 34) dX12_span_104 (by decide) ?_
          exact H
        · replace H := H.2 c5
          refine z_iload_n (pc := 72) dX12_span_72 rfl rfl ?_
          refine z_aload_n (pc := 73) dX12_span_73 rfl rfl ?_
          refine z_getk (pc := 74) dX12_span_74 fX12_38 rfl (s_63_12 S) ?_
          refine z_iload (pc := 77) dX12_span_77 rfl ?_
          refine z_iald (pc := 79) dX12_span_79 c2 ?_
          refine z_icmp_ge (pc := 80) (tgt := 101) dX12_span_80 (by decide) (fun c6 => ?_) (fun c6 => ?_)
          · replace H := H.1 c6
            refine z_iinc (pc := 101) (v := (x4 + (-1))) (ls' := [some (.inr (some (0, 12, 63))), some (.inl x1), some (.inl x2), some (.inl x3), some (.inl (x4 + (-1)))]) dX12_span_101 rfl (by rw [show Int32.ofInt (-1) = (-1) by decide]) rfl ?_
            refine z_goto (pc := 104) (tgt := 34) dX12_span_104 (by decide) ?_
            exact H
          · replace H := H.2 c6
            refine z_aload_n (pc := 83) dX12_span_83 rfl rfl ?_
            refine z_getk (pc := 84) dX12_span_84 fX12_41 rfl (s_63_13 S) ?_
            refine z_iload (pc := 87) dX12_span_87 rfl ?_
            refine z_zald (pc := 89) dX12_span_89 c2 ?_
            refine z_if_eq (pc := 90) (tgt := 98) dX12_span_90 (by decide) (fun c7 => ?_) (fun c7 => ?_)
            · replace H := H.1 c7
              refine z_iload (pc := 98) dX12_span_98 rfl ?_
              exact z_iret (pc := 100) dX12_span_100 rfl rfl ⟨_, rfl, H⟩
            · replace H := H.2 c7
              refine z_bipush (pc := 93) (v := (-2)) dX12_span_93 (by decide) ?_
              refine z_goto (pc := 95) (tgt := 100) dX12_span_95 (by decide) ?_
              exact z_iret (pc := 100) dX12_span_100 rfl rfl ⟨_, rfl, H⟩

abbrev LX12_series_32 (l : Launch) (E : eE) (d bc bs : Nat) (x1 : Int32) (x2 : Int32) (x3 : Int32) (h : aH) (Q : Int32 → aH → Prop) : Prop := TI l E mX12_series d bc bs 32 [some (.inr (some (0, 12, 63))), some (.inl x1), some (.inl x2), some (.inl x3)] [] h Q

abbrev LX12_series_47 (l : Launch) (E : eE) (d bc bs : Nat) (x1 : Int32) (x2 : Int32) (x3 : Int32) (h : aH) (Q : Int32 → aH → Prop) : Prop := TI l E mX12_series d bc bs 47 [some (.inr (some (0, 12, 63))), some (.inl x1), some (.inl x2), some (.inl x3)] [] h Q

set_option maxRecDepth 20000 in
theorem bX12_series_0 {l : Launch} {E : eE} {d bc bs : Nat} {h : aH} {Q : Int32 → aH → Prop} {x1 : Int32} {x2 : Int32} {x3 : Int32} (S : SH h) (H : (((hI h 63 14) = (nI 4) → Q (-1) h) ∧ (¬ (hI h 63 14) = (nI 4) → ((x1 < (nI 1) → Q (-1) h) ∧ (¬ x1 < (nI 1) → (((nI 6) < x1 → Q (-1) h) ∧ (¬ (nI 6) < x1 → ((x2 = (-1) → LX12_series_32 l E (d + 1) bc bs x1 x2 x3 h Q) ∧ (¬ x2 = (-1) → (CI l E d 0 0 mX12_isSeries [.inr (some (0, 12, 63)), .inl x2] h (fun v5 h5 => SH h5 ∧ ((v5 = 0 → Q (-1) h5) ∧ (¬ v5 = 0 → LX12_series_32 l E (d + 1) bc bs x1 x2 x3 h5 Q))))))))))))) : CI l E (d + 1) bc bs mX12_series [.inr (some (0, 12, 63)), .inl x1, .inl x2, .inl x3] h Q := by
  refine CI.of (by decide) rfl ?_
  show TI l E mX12_series (d + 1) bc bs 0 [some (.inr (some (0, 12, 63))), some (.inl x1), some (.inl x2), some (.inl x3)] [] h Q
  refine z_aload_n (pc := 0) dX12_series_0 rfl rfl ?_
  refine z_geti (pc := 1) dX12_series_1 fX12_126 rfl ?_
  refine z_iconst (pc := 4) (v := (nI 4)) dX12_series_4 (by decide) ?_
  refine z_icmp_eq (pc := 5) (tgt := 45) dX12_series_5 (by decide) (fun c1 => ?_) (fun c1 => ?_)
  · replace H := H.1 c1
    refine z_iconst (pc := 45) (v := (-1)) dX12_series_45 (by decide) ?_
    exact z_iret (pc := 46) dX12_series_46 rfl rfl ⟨_, rfl, H⟩
  · replace H := H.2 c1
    refine z_iload_n (pc := 8) dX12_series_8 rfl rfl ?_
    refine z_iconst (pc := 9) (v := (nI 1)) dX12_series_9 (by decide) ?_
    refine z_icmp_lt (pc := 10) (tgt := 45) dX12_series_10 (by decide) (fun c2 => ?_) (fun c2 => ?_)
    · replace H := H.1 c2
      refine z_iconst (pc := 45) (v := (-1)) dX12_series_45 (by decide) ?_
      exact z_iret (pc := 46) dX12_series_46 rfl rfl ⟨_, rfl, H⟩
    · replace H := H.2 c2
      refine z_iload_n (pc := 13) dX12_series_13 rfl rfl ?_
      refine z_bipush (pc := 14) (v := (nI 6)) dX12_series_14 (by decide) ?_
      refine z_icmp_gt (pc := 16) (tgt := 45) dX12_series_16 (by decide) (fun c3 => ?_) (fun c3 => ?_)
      · replace H := H.1 c3
        refine z_iconst (pc := 45) (v := (-1)) dX12_series_45 (by decide) ?_
        exact z_iret (pc := 46) dX12_series_46 rfl rfl ⟨_, rfl, H⟩
      · replace H := H.2 c3
        refine z_iload_n (pc := 19) dX12_series_19 rfl rfl ?_
        refine z_iconst (pc := 20) (v := (-1)) dX12_series_20 (by decide) ?_
        refine z_icmp_eq (pc := 21) (tgt := 32) dX12_series_21 (by decide) (fun c4 => ?_) (fun c4 => ?_)
        · replace H := H.1 c4
          exact H
        · replace H := H.2 c4
          refine z_aload_n (pc := 24) dX12_series_24 rfl rfl ?_
          refine z_iload_n (pc := 25) dX12_series_25 rfl rfl ?_
          refine y_VI (pc := 26) (bc := bc) (bs := bs) (mc := 0) (ms := 0) (As := [.inl x2]) (rest := []) dX12_series_26 kX12_isSeries lX12_146 ⟨_, _, rfl⟩ rfl rfl (H.use (fun v5 h5 H => ?_))
          have S5 := H.1
          replace H := H.2
          refine z_if_eq (pc := 29) (tgt := 45) dX12_series_29 (by decide) (fun c6 => ?_) (fun c6 => ?_)
          · replace H := H.1 c6
            refine z_iconst (pc := 45) (v := (-1)) dX12_series_45 (by decide) ?_
            exact z_iret (pc := 46) dX12_series_46 rfl rfl ⟨_, rfl, H⟩
          · replace H := H.2 c6
            exact H

set_option maxRecDepth 20000 in
theorem bX12_series_32 {l : Launch} {E : eE} {d bc bs : Nat} {h : aH} {Q : Int32 → aH → Prop} {x1 : Int32} {x2 : Int32} {x3 : Int32} (S : SH h) (H : ((x3 = (-1) → LX12_series_47 l E (d + 1) bc bs x1 x2 x3 h Q) ∧ (¬ x3 = (-1) → (CI l E d 0 0 mX12_isPerson [.inr (some (0, 12, 63)), .inl x3] h (fun v2 h2 => SH h2 ∧ ((¬ v2 = 0 → LX12_series_47 l E (d + 1) bc bs x1 x2 x3 h2 Q) ∧ (v2 = 0 → Q (-1) h2))))))) : LX12_series_32 l E (d + 1) bc bs x1 x2 x3 h Q := by
  refine z_iload_n (pc := 32) dX12_series_32 rfl rfl ?_
  refine z_iconst (pc := 33) (v := (-1)) dX12_series_33 (by decide) ?_
  refine z_icmp_eq (pc := 34) (tgt := 47) dX12_series_34 (by decide) (fun c1 => ?_) (fun c1 => ?_)
  · replace H := H.1 c1
    exact H
  · replace H := H.2 c1
    refine z_aload_n (pc := 37) dX12_series_37 rfl rfl ?_
    refine z_iload_n (pc := 38) dX12_series_38 rfl rfl ?_
    refine y_VI (pc := 39) (bc := bc) (bs := bs) (mc := 0) (ms := 0) (As := [.inl x3]) (rest := []) dX12_series_39 kX12_isPerson lX12_139 ⟨_, _, rfl⟩ rfl rfl (H.use (fun v2 h2 H => ?_))
    have S2 := H.1
    replace H := H.2
    refine z_if_ne (pc := 42) (tgt := 47) dX12_series_42 (by decide) (fun c3 => ?_) (fun c3 => ?_)
    · replace H := H.1 c3
      exact H
    · replace H := H.2 c3
      refine z_iconst (pc := 45) (v := (-1)) dX12_series_45 (by decide) ?_
      exact z_iret (pc := 46) dX12_series_46 rfl rfl ⟨_, rfl, H⟩

set_option maxRecDepth 20000 in
theorem bX12_series_47 {l : Launch} {E : eE} {d bc bs : Nat} {h : aH} {Q : Int32 → aH → Prop} {x1 : Int32} {x2 : Int32} {x3 : Int32} (S : SH h) (H : (vp_in (hI h 63 14) 4 ∧ Q (((hI h 63 14) + (nI 1)) - (nI 1)) (stI (stA (stA (stA h 74 ((hI h 63 14)).toNatClampNeg x1) 75 ((hI h 63 14)).toNatClampNeg x2) 76 ((hI h 63 14)).toNatClampNeg x3) 63 14 ((hI h 63 14) + (nI 1))))) : LX12_series_47 l E (d + 1) bc bs x1 x2 x3 h Q := by
  refine z_aload_n (pc := 47) dX12_series_47 rfl rfl ?_
  refine z_getk (pc := 48) dX12_series_48 fX12_45 rfl (s_63_15 S) ?_
  refine z_aload_n (pc := 51) dX12_series_51 rfl rfl ?_
  refine z_geti (pc := 52) dX12_series_52 fX12_126 rfl ?_
  refine z_iload_n (pc := 55) dX12_series_55 rfl rfl ?_
  have c1 := H.1
  replace H := H.2
  refine z_iast (pc := 56) dX12_series_56 c1 ?_
  refine z_aload_n (pc := 57) dX12_series_57 rfl rfl ?_
  refine z_getk (pc := 58) dX12_series_58 fX12_48 rfl (s_63_16 S) ?_
  refine z_aload_n (pc := 61) dX12_series_61 rfl rfl ?_
  refine z_geti (pc := 62) dX12_series_62 fX12_126 rfl ?_
  refine z_iload_n (pc := 65) dX12_series_65 rfl rfl ?_
  refine z_iast (pc := 66) dX12_series_66 c1 ?_
  refine z_aload_n (pc := 67) dX12_series_67 rfl rfl ?_
  refine z_getk (pc := 68) dX12_series_68 fX12_51 rfl (s_63_17 S) ?_
  refine z_aload_n (pc := 71) dX12_series_71 rfl rfl ?_
  refine z_geti (pc := 72) dX12_series_72 fX12_126 rfl ?_
  refine z_iload_n (pc := 75) dX12_series_75 rfl rfl ?_
  refine z_iast (pc := 76) dX12_series_76 c1 ?_
  refine z_aload_n (pc := 77) dX12_series_77 rfl rfl ?_
  refine z_dup (pc := 78) dX12_series_78 ?_
  refine z_geti (pc := 79) dX12_series_79 fX12_126 rfl ?_
  refine z_iconst (pc := 82) (v := (nI 1)) dX12_series_82 (by decide) ?_
  refine z_iadd (pc := 83) dX12_series_83 ?_
  refine z_puti (pc := 84) dX12_series_84 fX12_126 (uX12_14 _) rfl rfl rfl ?_
  refine z_aload_n (pc := 87) dX12_series_87 rfl rfl ?_
  refine z_geti (pc := 88) dX12_series_88 fX12_126 rfl ?_
  refine z_iconst (pc := 91) (v := (nI 1)) dX12_series_91 (by decide) ?_
  refine z_isub (pc := 92) dX12_series_92 ?_
  exact z_iret (pc := 93) dX12_series_93 rfl rfl ⟨_, rfl, H⟩

set_option maxRecDepth 20000 in
theorem bX12_option_0 {l : Launch} {E : eE} {d bc bs : Nat} {h : aH} {Q : Int32 → aH → Prop} {x1 : Int32} {x2 : Int32} (S : SH h) (H : (CI l E d 0 0 mX12_isSeries [.inr (some (0, 12, 63)), .inl x1] h (fun v1 h1 => SH h1 ∧ ((v1 = 0 → Q (-1) h1) ∧ (¬ v1 = 0 → (vp_in x1 4 ∧ (((hA h1 77 (x1).toNatClampNeg) = (nI 6) → Q (-1) h1) ∧ (¬ (hA h1 77 (x1).toNatClampNeg) = (nI 6) → ((x2 < 0 → Q (-1) h1) ∧ (¬ x2 < 0 → ((x2 < (nI 336) → (vp_in (((nI 6) * x1) + (hA h1 77 (x1).toNatClampNeg)) 24 ∧ Q ((hA (stA (stA h1 78 ((((nI 6) * x1) + (hA h1 77 (x1).toNatClampNeg))).toNatClampNeg x2) 77 (x1).toNatClampNeg ((hA h1 77 (x1).toNatClampNeg) + (nI 1))) 77 (x1).toNatClampNeg) - (nI 1)) (stA (stA h1 78 ((((nI 6) * x1) + (hA h1 77 (x1).toNatClampNeg))).toNatClampNeg x2) 77 (x1).toNatClampNeg ((hA h1 77 (x1).toNatClampNeg) + (nI 1))))) ∧ (¬ x2 < (nI 336) → Q (-1) h1)))))))))))) : CI l E (d + 1) bc bs mX12_option [.inr (some (0, 12, 63)), .inl x1, .inl x2] h Q := by
  refine CI.of (by decide) rfl ?_
  show TI l E mX12_option (d + 1) bc bs 0 [some (.inr (some (0, 12, 63))), some (.inl x1), some (.inl x2)] [] h Q
  refine z_aload_n (pc := 0) dX12_option_0 rfl rfl ?_
  refine z_iload_n (pc := 1) dX12_option_1 rfl rfl ?_
  refine y_VI (pc := 2) (bc := bc) (bs := bs) (mc := 0) (ms := 0) (As := [.inl x1]) (rest := []) dX12_option_2 kX12_isSeries lX12_146 ⟨_, _, rfl⟩ rfl rfl (H.use (fun v1 h1 H => ?_))
  have S1 := H.1
  replace H := H.2
  refine z_if_eq (pc := 5) (tgt := 30) dX12_option_5 (by decide) (fun c2 => ?_) (fun c2 => ?_)
  · replace H := H.1 c2
    refine z_iconst (pc := 30) (v := (-1)) dX12_option_30 (by decide) ?_
    exact z_iret (pc := 31) dX12_option_31 rfl rfl ⟨_, rfl, H⟩
  · replace H := H.2 c2
    refine z_aload_n (pc := 8) dX12_option_8 rfl rfl ?_
    refine z_getk (pc := 9) dX12_option_9 fX12_54 rfl (s_63_18 S1) ?_
    refine z_iload_n (pc := 12) dX12_option_12 rfl rfl ?_
    have c3 := H.1
    replace H := H.2
    refine z_iald (pc := 13) dX12_option_13 c3 ?_
    refine z_bipush (pc := 14) (v := (nI 6)) dX12_option_14 (by decide) ?_
    refine z_icmp_eq (pc := 16) (tgt := 30) dX12_option_16 (by decide) (fun c4 => ?_) (fun c4 => ?_)
    · replace H := H.1 c4
      refine z_iconst (pc := 30) (v := (-1)) dX12_option_30 (by decide) ?_
      exact z_iret (pc := 31) dX12_option_31 rfl rfl ⟨_, rfl, H⟩
    · replace H := H.2 c4
      refine z_iload_n (pc := 19) dX12_option_19 rfl rfl ?_
      refine z_if_lt (pc := 20) (tgt := 30) dX12_option_20 (by decide) (fun c5 => ?_) (fun c5 => ?_)
      · replace H := H.1 c5
        refine z_iconst (pc := 30) (v := (-1)) dX12_option_30 (by decide) ?_
        exact z_iret (pc := 31) dX12_option_31 rfl rfl ⟨_, rfl, H⟩
      · replace H := H.2 c5
        refine z_iload_n (pc := 23) dX12_option_23 rfl rfl ?_
        refine z_sipush (pc := 24) (v := (nI 336)) dX12_option_24 (by decide) ?_
        refine z_icmp_lt (pc := 27) (tgt := 32) dX12_option_27 (by decide) (fun c6 => ?_) (fun c6 => ?_)
        · replace H := H.1 c6
          refine z_aload_n (pc := 32) dX12_option_32 rfl rfl ?_
          refine z_getk (pc := 33) dX12_option_33 fX12_57 rfl (s_63_19 S1) ?_
          refine z_bipush (pc := 36) (v := (nI 6)) dX12_option_36 (by decide) ?_
          refine z_iload_n (pc := 38) dX12_option_38 rfl rfl ?_
          refine z_imul (pc := 39) dX12_option_39 ?_
          refine z_aload_n (pc := 40) dX12_option_40 rfl rfl ?_
          refine z_getk (pc := 41) dX12_option_41 fX12_54 rfl (s_63_18 S1) ?_
          refine z_iload_n (pc := 44) dX12_option_44 rfl rfl ?_
          refine z_iald (pc := 45) dX12_option_45 c3 ?_
          refine z_iadd (pc := 46) dX12_option_46 ?_
          refine z_iload_n (pc := 47) dX12_option_47 rfl rfl ?_
          have c7 := H.1
          replace H := H.2
          refine z_iast (pc := 48) dX12_option_48 c7 ?_
          refine z_aload_n (pc := 49) dX12_option_49 rfl rfl ?_
          refine z_getk (pc := 50) dX12_option_50 fX12_54 rfl (s_63_18 S1) ?_
          refine z_iload_n (pc := 53) dX12_option_53 rfl rfl ?_
          refine z_dup2 (pc := 54) dX12_option_54 ?_
          refine z_iald (pc := 55) dX12_option_55 c3 ?_
          refine z_iconst (pc := 56) (v := (nI 1)) dX12_option_56 (by decide) ?_
          refine z_iadd (pc := 57) dX12_option_57 ?_
          refine z_iast (pc := 58) dX12_option_58 c3 ?_
          refine z_aload_n (pc := 59) dX12_option_59 rfl rfl ?_
          refine z_getk (pc := 60) dX12_option_60 fX12_54 rfl (s_63_18 S1) ?_
          refine z_iload_n (pc := 63) dX12_option_63 rfl rfl ?_
          refine z_iald (pc := 64) dX12_option_64 c3 ?_
          refine z_iconst (pc := 65) (v := (nI 1)) dX12_option_65 (by decide) ?_
          refine z_isub (pc := 66) dX12_option_66 ?_
          exact z_iret (pc := 67) dX12_option_67 rfl rfl ⟨_, rfl, H⟩
        · replace H := H.2 c6
          refine z_iconst (pc := 30) (v := (-1)) dX12_option_30 (by decide) ?_
          exact z_iret (pc := 31) dX12_option_31 rfl rfl ⟨_, rfl, H⟩

set_option maxRecDepth 20000 in
theorem bX12_role_0 {l : Launch} {E : eE} {d bc bs : Nat} {h : aH} {Q : Int32 → aH → Prop} {x1 : Int32} {x2 : Int32} {x3 : Int32} (S : SH h) (H : (CI l E d 0 0 mX12_isSeries [.inr (some (0, 12, 63)), .inl x1] h (fun v1 h1 => SH h1 ∧ ((v1 = 0 → Q (nI 0) h1) ∧ (¬ v1 = 0 → (CI l E d 0 0 mX12_isPerson [.inr (some (0, 12, 63)), .inl x2] h1 (fun v3 h3 => SH h3 ∧ ((v3 = 0 → Q (nI 0) h3) ∧ (¬ v3 = 0 → ((x3 < 0 → Q (nI 0) h3) ∧ (¬ x3 < 0 → ((x3 ≤ (nI 5) → (vp_in (((nI 12) * x1) + x2) 48 ∧ Q (nI 1) (stA h3 79 ((((nI 12) * x1) + x2)).toNatClampNeg x3))) ∧ (¬ x3 ≤ (nI 5) → Q (nI 0) h3))))))))))))) : CI l E (d + 1) bc bs mX12_role [.inr (some (0, 12, 63)), .inl x1, .inl x2, .inl x3] h Q := by
  refine CI.of (by decide) rfl ?_
  show TI l E mX12_role (d + 1) bc bs 0 [some (.inr (some (0, 12, 63))), some (.inl x1), some (.inl x2), some (.inl x3)] [] h Q
  refine z_aload_n (pc := 0) dX12_role_0 rfl rfl ?_
  refine z_iload_n (pc := 1) dX12_role_1 rfl rfl ?_
  refine y_VI (pc := 2) (bc := bc) (bs := bs) (mc := 0) (ms := 0) (As := [.inl x1]) (rest := []) dX12_role_2 kX12_isSeries lX12_146 ⟨_, _, rfl⟩ rfl rfl (H.use (fun v1 h1 H => ?_))
  have S1 := H.1
  replace H := H.2
  refine z_if_eq (pc := 5) (tgt := 25) dX12_role_5 (by decide) (fun c2 => ?_) (fun c2 => ?_)
  · replace H := H.1 c2
    refine z_iconst (pc := 25) (v := (nI 0)) dX12_role_25 (by decide) ?_
    exact z_iret (pc := 26) dX12_role_26 rfl rfl ⟨_, rfl, H⟩
  · replace H := H.2 c2
    refine z_aload_n (pc := 8) dX12_role_8 rfl rfl ?_
    refine z_iload_n (pc := 9) dX12_role_9 rfl rfl ?_
    refine y_VI (pc := 10) (bc := bc) (bs := bs) (mc := 0) (ms := 0) (As := [.inl x2]) (rest := []) dX12_role_10 kX12_isPerson lX12_139 ⟨_, _, rfl⟩ rfl rfl (H.use (fun v3 h3 H => ?_))
    have S3 := H.1
    replace H := H.2
    refine z_if_eq (pc := 13) (tgt := 25) dX12_role_13 (by decide) (fun c4 => ?_) (fun c4 => ?_)
    · replace H := H.1 c4
      refine z_iconst (pc := 25) (v := (nI 0)) dX12_role_25 (by decide) ?_
      exact z_iret (pc := 26) dX12_role_26 rfl rfl ⟨_, rfl, H⟩
    · replace H := H.2 c4
      refine z_iload_n (pc := 16) dX12_role_16 rfl rfl ?_
      refine z_if_lt (pc := 17) (tgt := 25) dX12_role_17 (by decide) (fun c5 => ?_) (fun c5 => ?_)
      · replace H := H.1 c5
        refine z_iconst (pc := 25) (v := (nI 0)) dX12_role_25 (by decide) ?_
        exact z_iret (pc := 26) dX12_role_26 rfl rfl ⟨_, rfl, H⟩
      · replace H := H.2 c5
        refine z_iload_n (pc := 20) dX12_role_20 rfl rfl ?_
        refine z_iconst (pc := 21) (v := (nI 5)) dX12_role_21 (by decide) ?_
        refine z_icmp_le (pc := 22) (tgt := 27) dX12_role_22 (by decide) (fun c6 => ?_) (fun c6 => ?_)
        · replace H := H.1 c6
          refine z_aload_n (pc := 27) dX12_role_27 rfl rfl ?_
          refine z_getk (pc := 28) dX12_role_28 fX12_60 rfl (s_63_20 S3) ?_
          refine z_bipush (pc := 31) (v := (nI 12)) dX12_role_31 (by decide) ?_
          refine z_iload_n (pc := 33) dX12_role_33 rfl rfl ?_
          refine z_imul (pc := 34) dX12_role_34 ?_
          refine z_iload_n (pc := 35) dX12_role_35 rfl rfl ?_
          refine z_iadd (pc := 36) dX12_role_36 ?_
          refine z_iload_n (pc := 37) dX12_role_37 rfl rfl ?_
          have c7 := H.1
          replace H := H.2
          refine z_iast (pc := 38) dX12_role_38 c7 ?_
          refine z_iconst (pc := 39) (v := (nI 1)) dX12_role_39 (by decide) ?_
          exact z_iret (pc := 40) dX12_role_40 rfl rfl ⟨_, rfl, H⟩
        · replace H := H.2 c6
          refine z_iconst (pc := 25) (v := (nI 0)) dX12_role_25 (by decide) ?_
          exact z_iret (pc := 26) dX12_role_26 rfl rfl ⟨_, rfl, H⟩

set_option maxRecDepth 20000 in
theorem bX12_slotOf_0 {l : Launch} {E : eE} {d bc bs : Nat} {h : aH} {Q : Int32 → aH → Prop} {x1 : Int32} {x2 : Int32} (S : SH h) (H : (vp_in (((nI 6) * x1) + x2) 24 ∧ Q (((nI 336) * (hI h 63 22)) + (hA h 78 ((((nI 6) * x1) + x2)).toNatClampNeg)) h)) : CI l E d bc bs mX12_slotOf [.inr (some (0, 12, 63)), .inl x1, .inl x2] h Q := by
  refine CI.of (by decide) rfl ?_
  show TI l E mX12_slotOf d bc bs 0 [some (.inr (some (0, 12, 63))), some (.inl x1), some (.inl x2)] [] h Q
  refine z_sipush (pc := 0) (v := (nI 336)) dX12_slotOf_0 (by decide) ?_
  refine z_aload_n (pc := 3) dX12_slotOf_3 rfl rfl ?_
  refine z_geti (pc := 4) dX12_slotOf_4 fX12_181 rfl ?_
  refine z_imul (pc := 7) dX12_slotOf_7 ?_
  refine z_aload_n (pc := 8) dX12_slotOf_8 rfl rfl ?_
  refine z_getk (pc := 9) dX12_slotOf_9 fX12_57 rfl (s_63_19 S) ?_
  refine z_bipush (pc := 12) (v := (nI 6)) dX12_slotOf_12 (by decide) ?_
  refine z_iload_n (pc := 14) dX12_slotOf_14 rfl rfl ?_
  refine z_imul (pc := 15) dX12_slotOf_15 ?_
  refine z_iload_n (pc := 16) dX12_slotOf_16 rfl rfl ?_
  refine z_iadd (pc := 17) dX12_slotOf_17 ?_
  have c1 := H.1
  replace H := H.2
  refine z_iald (pc := 18) dX12_slotOf_18 c1 ?_
  refine z_iadd (pc := 19) dX12_slotOf_19 ?_
  exact z_iret (pc := 20) dX12_slotOf_20 rfl rfl ⟨_, rfl, H⟩

set_option maxRecDepth 20000 in
theorem bX12_isIn_0 {l : Launch} {E : eE} {d bc bs : Nat} {h : aH} {Q : Int32 → aH → Prop} {x1 : Int32} {x2 : Int32} (S : SH h) (H : (CI l E d 0 0 mX12_slotOf [.inr (some (0, 12, 63)), .inl x1, .inl x2] h (fun v1 h1 => SH h1 ∧ (vp_in x1 4 ∧ (((nI 17472) < (v1 + (hA h1 74 (x1).toNatClampNeg)) → Q (nI 0) h1) ∧ (¬ (nI 17472) < (v1 + (hA h1 74 (x1).toNatClampNeg)) → Q (nI 1) h1)))))) : CI l E (d + 1) bc bs mX12_isIn [.inr (some (0, 12, 63)), .inl x1, .inl x2] h Q := by
  refine CI.of (by decide) rfl ?_
  show TI l E mX12_isIn (d + 1) bc bs 0 [some (.inr (some (0, 12, 63))), some (.inl x1), some (.inl x2)] [] h Q
  refine z_aload_n (pc := 0) dX12_isIn_0 rfl rfl ?_
  refine z_iload_n (pc := 1) dX12_isIn_1 rfl rfl ?_
  refine z_iload_n (pc := 2) dX12_isIn_2 rfl rfl ?_
  refine y_VI (pc := 3) (bc := bc) (bs := bs) (mc := 0) (ms := 0) (As := [.inl x1, .inl x2]) (rest := []) dX12_isIn_3 kX12_slotOf lX12_184 ⟨_, _, rfl⟩ rfl rfl (H.use (fun v1 h1 H => ?_))
  have S1 := H.1
  replace H := H.2
  refine z_aload_n (pc := 6) dX12_isIn_6 rfl rfl ?_
  refine z_getk (pc := 7) dX12_isIn_7 fX12_45 rfl (s_63_15 S1) ?_
  refine z_iload_n (pc := 10) dX12_isIn_10 rfl rfl ?_
  have c2 := H.1
  replace H := H.2
  refine z_iald (pc := 11) dX12_isIn_11 c2 ?_
  refine z_iadd (pc := 12) dX12_isIn_12 ?_
  refine z_sipush (pc := 13) (v := (nI 17472)) dX12_isIn_13 (by decide) ?_
  refine z_icmp_gt (pc := 16) (tgt := 23) dX12_isIn_16 (by decide) (fun c3 => ?_) (fun c3 => ?_)
  · replace H := H.1 c3
    refine z_iconst (pc := 23) (v := (nI 0)) dX12_isIn_23 (by decide) ?_
    exact z_iret (pc := 24) dX12_isIn_24 rfl rfl ⟨_, rfl, H⟩
  · replace H := H.2 c3
    refine z_iconst (pc := 19) (v := (nI 1)) dX12_isIn_19 (by decide) ?_
    refine z_goto (pc := 20) (tgt := 24) dX12_isIn_20 (by decide) ?_
    exact z_iret (pc := 24) dX12_isIn_24 rfl rfl ⟨_, rfl, H⟩

set_option maxRecDepth 20000 in
theorem bX12_meet_0 {l : Launch} {E : eE} {d bc bs : Nat} {h : aH} {Q : Int32 → aH → Prop} {x1 : Int32} {x2 : Int32} {x3 : Int32} {x4 : Int32} (S : SH h) (H : (CI l E d 0 0 mX12_slotOf [.inr (some (0, 12, 63)), .inl x1, .inl x2] h (fun v1 h1 => SH h1 ∧ (CI l E d 0 0 mX12_slotOf [.inr (some (0, 12, 63)), .inl x3, .inl x4] h1 (fun v2 h2 => SH h2 ∧ (vp_in x3 4 ∧ (((v2 + (hA h2 74 (x3).toNatClampNeg)) ≤ v1 → Q (nI 0) h2) ∧ (¬ (v2 + (hA h2 74 (x3).toNatClampNeg)) ≤ v1 → (vp_in x1 4 ∧ (((v1 + (hA h2 74 (x1).toNatClampNeg)) ≤ v2 → Q (nI 0) h2) ∧ (¬ (v1 + (hA h2 74 (x1).toNatClampNeg)) ≤ v2 → Q (nI 1) h2))))))))))) : CI l E (d + 1) bc bs mX12_meet [.inr (some (0, 12, 63)), .inl x1, .inl x2, .inl x3, .inl x4] h Q := by
  refine CI.of (by decide) rfl ?_
  show TI l E mX12_meet (d + 1) bc bs 0 [some (.inr (some (0, 12, 63))), some (.inl x1), some (.inl x2), some (.inl x3), some (.inl x4), none, none] [] h Q
  refine z_aload_n (pc := 0) dX12_meet_0 rfl rfl ?_
  refine z_iload_n (pc := 1) dX12_meet_1 rfl rfl ?_
  refine z_iload_n (pc := 2) dX12_meet_2 rfl rfl ?_
  refine y_VI (pc := 3) (bc := bc) (bs := bs) (mc := 0) (ms := 0) (As := [.inl x1, .inl x2]) (rest := []) dX12_meet_3 kX12_slotOf lX12_184 ⟨_, _, rfl⟩ rfl rfl (H.use (fun v1 h1 H => ?_))
  have S1 := H.1
  replace H := H.2
  refine z_istore (pc := 6) (ls' := [some (.inr (some (0, 12, 63))), some (.inl x1), some (.inl x2), some (.inl x3), some (.inl x4), some (.inl v1), none]) dX12_meet_6 rfl rfl ?_
  refine z_aload_n (pc := 8) dX12_meet_8 rfl rfl ?_
  refine z_iload_n (pc := 9) dX12_meet_9 rfl rfl ?_
  refine z_iload (pc := 10) dX12_meet_10 rfl ?_
  refine y_VI (pc := 12) (bc := bc) (bs := bs) (mc := 0) (ms := 0) (As := [.inl x3, .inl x4]) (rest := []) dX12_meet_12 kX12_slotOf lX12_184 ⟨_, _, rfl⟩ rfl rfl (H.use (fun v2 h2 H => ?_))
  have S2 := H.1
  replace H := H.2
  refine z_istore (pc := 15) (ls' := [some (.inr (some (0, 12, 63))), some (.inl x1), some (.inl x2), some (.inl x3), some (.inl x4), some (.inl v1), some (.inl v2)]) dX12_meet_15 rfl rfl ?_
  refine z_iload (pc := 17) dX12_meet_17 rfl ?_
  refine z_iload (pc := 19) dX12_meet_19 rfl ?_
  refine z_aload_n (pc := 21) dX12_meet_21 rfl rfl ?_
  refine z_getk (pc := 22) dX12_meet_22 fX12_45 rfl (s_63_15 S2) ?_
  refine z_iload_n (pc := 25) dX12_meet_25 rfl rfl ?_
  have c3 := H.1
  replace H := H.2
  refine z_iald (pc := 26) dX12_meet_26 c3 ?_
  refine z_iadd (pc := 27) dX12_meet_27 ?_
  refine z_icmp_ge (pc := 28) (tgt := 49) dX12_meet_28 (by decide) (fun c4 => ?_) (fun c4 => ?_)
  · replace H := H.1 c4
    refine z_iconst (pc := 49) (v := (nI 0)) dX12_meet_49 (by decide) ?_
    exact z_iret (pc := 50) dX12_meet_50 rfl rfl ⟨_, rfl, H⟩
  · replace H := H.2 c4
    refine z_iload (pc := 31) dX12_meet_31 rfl ?_
    refine z_iload (pc := 33) dX12_meet_33 rfl ?_
    refine z_aload_n (pc := 35) dX12_meet_35 rfl rfl ?_
    refine z_getk (pc := 36) dX12_meet_36 fX12_45 rfl (s_63_15 S2) ?_
    refine z_iload_n (pc := 39) dX12_meet_39 rfl rfl ?_
    have c5 := H.1
    replace H := H.2
    refine z_iald (pc := 40) dX12_meet_40 c5 ?_
    refine z_iadd (pc := 41) dX12_meet_41 ?_
    refine z_icmp_ge (pc := 42) (tgt := 49) dX12_meet_42 (by decide) (fun c6 => ?_) (fun c6 => ?_)
    · replace H := H.1 c6
      refine z_iconst (pc := 49) (v := (nI 0)) dX12_meet_49 (by decide) ?_
      exact z_iret (pc := 50) dX12_meet_50 rfl rfl ⟨_, rfl, H⟩
    · replace H := H.2 c6
      refine z_iconst (pc := 45) (v := (nI 1)) dX12_meet_45 (by decide) ?_
      refine z_goto (pc := 46) (tgt := 50) dX12_meet_46 (by decide) ?_
      exact z_iret (pc := 50) dX12_meet_50 rfl rfl ⟨_, rfl, H⟩

abbrev LX12_isFree_29 (l : Launch) (E : eE) (d bc bs : Nat) (x1 : Int32) (x2 : Int32) (x3 : Int32) (x4 : Int32) (h : aH) (Q : Int32 → aH → Prop) : Prop := TI l E mX12_isFree d bc bs 29 [some (.inr (some (0, 12, 63))), some (.inl x1), some (.inl x2), some (.inl x3), some (.inl x4)] [] h Q

abbrev LX12_isFree_96 (l : Launch) (E : eE) (d bc bs : Nat) (x1 : Int32) (x2 : Int32) (x3 : Int32) (x4 : Int32) (h : aH) (Q : Int32 → aH → Prop) : Prop := TI l E mX12_isFree d bc bs 96 [some (.inr (some (0, 12, 63))), some (.inl x1), some (.inl x2), some (.inl x3), some (.inl x4)] [] h Q

abbrev LX12_isFree_138 (l : Launch) (E : eE) (d bc bs : Nat) (x1 : Int32) (x2 : Int32) (x3 : Int32) (x4 : Int32) (h : aH) (Q : Int32 → aH → Prop) : Prop := TI l E mX12_isFree d bc bs 138 [some (.inr (some (0, 12, 63))), some (.inl x1), some (.inl x2), some (.inl x3), some (.inl x4)] [] h Q

set_option maxRecDepth 20000 in
theorem bX12_isFree_0 {l : Launch} {E : eE} {d bc bs : Nat} {h : aH} {Q : Int32 → aH → Prop} {x1 : Int32} {x2 : Int32} {x3 : Int32} (S : SH h) (H : (CI l E d 0 0 mX12_slotOf [.inr (some (0, 12, 63)), .inl x2, .inl x3] h (fun v1 h1 => SH h1 ∧ (vp_in x2 4 ∧ (CI l E d 0 0 mX12_reasons [.inr (some (0, 12, 63)), .inl x1, .inl v1, .inl (hA h1 74 (x2).toNatClampNeg), .inl (hI h1 63 23)] h1 (fun v3 h3 => SH h3 ∧ ((v3 ≤ 0 → LX12_isFree_29 l E (d + 1) bc bs x1 x2 x3 (nI 0) h3 Q) ∧ (¬ v3 ≤ 0 → Q (nI 0) h3)))))))) : CI l E (d + 1) bc bs mX12_isFree [.inr (some (0, 12, 63)), .inl x1, .inl x2, .inl x3] h Q := by
  refine CI.of (by decide) rfl ?_
  show TI l E mX12_isFree (d + 1) bc bs 0 [some (.inr (some (0, 12, 63))), some (.inl x1), some (.inl x2), some (.inl x3), none] [] h Q
  refine z_aload_n (pc := 0) dX12_isFree_0 rfl rfl ?_
  refine z_iload_n (pc := 1) dX12_isFree_1 rfl rfl ?_
  refine z_aload_n (pc := 2) dX12_isFree_2 rfl rfl ?_
  refine z_iload_n (pc := 3) dX12_isFree_3 rfl rfl ?_
  refine z_iload_n (pc := 4) dX12_isFree_4 rfl rfl ?_
  refine y_VI (pc := 5) (bc := bc) (bs := bs) (mc := 0) (ms := 0) (As := [.inl x2, .inl x3]) (rest := [.inl x1, .inr (some (0, 12, 63))]) dX12_isFree_5 kX12_slotOf lX12_184 ⟨_, _, rfl⟩ rfl rfl (H.use (fun v1 h1 H => ?_))
  have S1 := H.1
  replace H := H.2
  refine z_aload_n (pc := 8) dX12_isFree_8 rfl rfl ?_
  refine z_getk (pc := 9) dX12_isFree_9 fX12_45 rfl (s_63_15 S1) ?_
  refine z_iload_n (pc := 12) dX12_isFree_12 rfl rfl ?_
  have c2 := H.1
  replace H := H.2
  refine z_iald (pc := 13) dX12_isFree_13 c2 ?_
  refine z_aload_n (pc := 14) dX12_isFree_14 rfl rfl ?_
  refine z_geti (pc := 15) dX12_isFree_15 fX12_187 rfl ?_
  refine y_VI (pc := 18) (bc := bc) (bs := bs) (mc := 0) (ms := 0) (As := [.inl x1, .inl v1, .inl (hA h1 74 (x2).toNatClampNeg), .inl (hI h1 63 23)]) (rest := []) dX12_isFree_18 kX12_reasons lX12_174 ⟨_, _, rfl⟩ rfl rfl (H.use (fun v3 h3 H => ?_))
  have S3 := H.1
  replace H := H.2
  refine z_if_le (pc := 21) (tgt := 26) dX12_isFree_21 (by decide) (fun c4 => ?_) (fun c4 => ?_)
  · replace H := H.1 c4
    refine z_iconst (pc := 26) (v := (nI 0)) dX12_isFree_26 (by decide) ?_
    refine z_istore (pc := 27) (ls' := [some (.inr (some (0, 12, 63))), some (.inl x1), some (.inl x2), some (.inl x3), some (.inl (nI 0))]) dX12_isFree_27 rfl rfl ?_
    exact H
  · replace H := H.2 c4
    refine z_iconst (pc := 24) (v := (nI 0)) dX12_isFree_24 (by decide) ?_
    exact z_iret (pc := 25) dX12_isFree_25 rfl rfl ⟨_, rfl, H⟩

set_option maxRecDepth 20000 in
theorem bX12_isFree_29 {l : Launch} {E : eE} {d bc bs : Nat} {h : aH} {Q : Int32 → aH → Prop} {x1 : Int32} {x2 : Int32} {x3 : Int32} {x4 : Int32} (S : SH h) (H : (((hI h 63 23) ≤ x4 → LX12_isFree_96 l E (d + 1) bc bs x1 x2 x3 (nI 0) h Q) ∧ (¬ (hI h 63 23) ≤ x4 → (vp_in x4 400 ∧ ((¬ (hA h 69 (x4).toNatClampNeg) = (nI 3) → LX12_isFree_29 l E (d + 1) bc bs x1 x2 x3 (x4 + (nI 1)) h Q) ∧ ((hA h 69 (x4).toNatClampNeg) = (nI 3) → ((¬ (hA h 70 (x4).toNatClampNeg) = x1 → LX12_isFree_29 l E (d + 1) bc bs x1 x2 x3 (x4 + (nI 1)) h Q) ∧ ((hA h 70 (x4).toNatClampNeg) = x1 → ((¬ (hA h 71 (x4).toNatClampNeg) = x2 → LX12_isFree_29 l E (d + 1) bc bs x1 x2 x3 (x4 + (nI 1)) h Q) ∧ ((hA h 71 (x4).toNatClampNeg) = x2 → ((¬ (hA h 72 (x4).toNatClampNeg) = (hI h 63 22) → LX12_isFree_29 l E (d + 1) bc bs x1 x2 x3 (x4 + (nI 1)) h Q) ∧ ((hA h 72 (x4).toNatClampNeg) = (hI h 63 22) → Q (nI 0) h)))))))))))) : LX12_isFree_29 l E (d + 1) bc bs x1 x2 x3 x4 h Q := by
  refine z_iload (pc := 29) dX12_isFree_29 rfl ?_
  refine z_aload_n (pc := 31) dX12_isFree_31 rfl rfl ?_
  refine z_geti (pc := 32) dX12_isFree_32 fX12_187 rfl ?_
  refine z_icmp_ge (pc := 35) (tgt := 93) dX12_isFree_35 (by decide) (fun c1 => ?_) (fun c1 => ?_)
  · replace H := H.1 c1
    refine z_iconst (pc := 93) (v := (nI 0)) dX12_isFree_93 (by decide) ?_
    refine z_istore (pc := 94) (ls' := [some (.inr (some (0, 12, 63))), some (.inl x1), some (.inl x2), some (.inl x3), some (.inl (nI 0))]) dX12_isFree_94 rfl rfl ?_
    exact H
  · replace H := H.2 c1
    refine z_aload_n (pc := 38) dX12_isFree_38 rfl rfl ?_
    refine z_getk (pc := 39) dX12_isFree_39 fX12_29 rfl (s_63_9 S) ?_
    refine z_iload (pc := 42) dX12_isFree_42 rfl ?_
    have c2 := H.1
    replace H := H.2
    refine z_iald (pc := 44) dX12_isFree_44 c2 ?_
    refine z_iconst (pc := 45) (v := (nI 3)) dX12_isFree_45 (by decide) ?_
    refine z_icmp_ne (pc := 46) (tgt := 87) dX12_isFree_46 (by decide) (fun c3 => ?_) (fun c3 => ?_)
    · replace H := H.1 c3
      refine z_iinc (pc := 87) (v := (x4 + (nI 1))) (ls' := [some (.inr (some (0, 12, 63))), some (.inl x1), some (.inl x2), some (.inl x3), some (.inl (x4 + (nI 1)))]) dX12_isFree_87 rfl (by rw [show Int32.ofInt (1) = (nI 1) by decide]) rfl ?_
      refine z_goto (pc := 90) (tgt := 29) dX12_isFree_90 (by decide) ?_
      exact H
    · replace H := H.2 c3
      refine z_aload_n (pc := 49) dX12_isFree_49 rfl rfl ?_
      refine z_getk (pc := 50) dX12_isFree_50 fX12_32 rfl (s_63_10 S) ?_
      refine z_iload (pc := 53) dX12_isFree_53 rfl ?_
      refine z_iald (pc := 55) dX12_isFree_55 c2 ?_
      refine z_iload_n (pc := 56) dX12_isFree_56 rfl rfl ?_
      refine z_icmp_ne (pc := 57) (tgt := 87) dX12_isFree_57 (by decide) (fun c4 => ?_) (fun c4 => ?_)
      · replace H := H.1 c4
        refine z_iinc (pc := 87) (v := (x4 + (nI 1))) (ls' := [some (.inr (some (0, 12, 63))), some (.inl x1), some (.inl x2), some (.inl x3), some (.inl (x4 + (nI 1)))]) dX12_isFree_87 rfl (by rw [show Int32.ofInt (1) = (nI 1) by decide]) rfl ?_
        refine z_goto (pc := 90) (tgt := 29) dX12_isFree_90 (by decide) ?_
        exact H
      · replace H := H.2 c4
        refine z_aload_n (pc := 60) dX12_isFree_60 rfl rfl ?_
        refine z_getk (pc := 61) dX12_isFree_61 fX12_35 rfl (s_63_11 S) ?_
        refine z_iload (pc := 64) dX12_isFree_64 rfl ?_
        refine z_iald (pc := 66) dX12_isFree_66 c2 ?_
        refine z_iload_n (pc := 67) dX12_isFree_67 rfl rfl ?_
        refine z_icmp_ne (pc := 68) (tgt := 87) dX12_isFree_68 (by decide) (fun c5 => ?_) (fun c5 => ?_)
        · replace H := H.1 c5
          refine z_iinc (pc := 87) (v := (x4 + (nI 1))) (ls' := [some (.inr (some (0, 12, 63))), some (.inl x1), some (.inl x2), some (.inl x3), some (.inl (x4 + (nI 1)))]) dX12_isFree_87 rfl (by rw [show Int32.ofInt (1) = (nI 1) by decide]) rfl ?_
          refine z_goto (pc := 90) (tgt := 29) dX12_isFree_90 (by decide) ?_
          exact H
        · replace H := H.2 c5
          refine z_aload_n (pc := 71) dX12_isFree_71 rfl rfl ?_
          refine z_getk (pc := 72) dX12_isFree_72 fX12_38 rfl (s_63_12 S) ?_
          refine z_iload (pc := 75) dX12_isFree_75 rfl ?_
          refine z_iald (pc := 77) dX12_isFree_77 c2 ?_
          refine z_aload_n (pc := 78) dX12_isFree_78 rfl rfl ?_
          refine z_geti (pc := 79) dX12_isFree_79 fX12_181 rfl ?_
          refine z_icmp_ne (pc := 82) (tgt := 87) dX12_isFree_82 (by decide) (fun c6 => ?_) (fun c6 => ?_)
          · replace H := H.1 c6
            refine z_iinc (pc := 87) (v := (x4 + (nI 1))) (ls' := [some (.inr (some (0, 12, 63))), some (.inl x1), some (.inl x2), some (.inl x3), some (.inl (x4 + (nI 1)))]) dX12_isFree_87 rfl (by rw [show Int32.ofInt (1) = (nI 1) by decide]) rfl ?_
            refine z_goto (pc := 90) (tgt := 29) dX12_isFree_90 (by decide) ?_
            exact H
          · replace H := H.2 c6
            refine z_iconst (pc := 85) (v := (nI 0)) dX12_isFree_85 (by decide) ?_
            exact z_iret (pc := 86) dX12_isFree_86 rfl rfl ⟨_, rfl, H⟩

set_option maxRecDepth 20000 in
theorem bX12_isFree_96 {l : Launch} {E : eE} {d bc bs : Nat} {h : aH} {Q : Int32 → aH → Prop} {x1 : Int32} {x2 : Int32} {x3 : Int32} {x4 : Int32} (S : SH h) (H : ((x2 ≤ x4 → Q (nI 1) h) ∧ (¬ x2 ≤ x4 → (vp_in (((nI 12) * x4) + x1) 48 ∧ ((¬ ((hA h 83 ((((nI 12) * x4) + x1)).toNatClampNeg) &&& (nI 1)) = (nI 1) → LX12_isFree_138 l E (d + 1) bc bs x1 x2 x3 x4 h Q) ∧ (((hA h 83 ((((nI 12) * x4) + x1)).toNatClampNeg) &&& (nI 1)) = (nI 1) → (vp_in x4 4 ∧ (CI l E d 0 0 mX12_meet [.inr (some (0, 12, 63)), .inl x2, .inl x3, .inl x4, .inl (hA h 81 (x4).toNatClampNeg)] h (fun v5 h5 => SH h5 ∧ ((¬ v5 = 0 → Q (nI 0) h5) ∧ (v5 = 0 → LX12_isFree_138 l E (d + 1) bc bs x1 x2 x3 x4 h5 Q))))))))))) : LX12_isFree_96 l E (d + 1) bc bs x1 x2 x3 x4 h Q := by
  refine z_iload (pc := 96) dX12_isFree_96 rfl ?_
  refine z_iload_n (pc := 98) dX12_isFree_98 rfl rfl ?_
  refine z_icmp_ge (pc := 99) (tgt := 182) dX12_isFree_99 (by decide) (fun c1 => ?_) (fun c1 => ?_)
  · replace H := H.1 c1
    refine z_iconst (pc := 182) (v := (nI 1)) dX12_isFree_182 (by decide) ?_
    exact z_iret (pc := 183) dX12_isFree_183 rfl rfl ⟨_, rfl, H⟩
  · replace H := H.2 c1
    refine z_aload_n (pc := 102) dX12_isFree_102 rfl rfl ?_
    refine z_getk (pc := 103) dX12_isFree_103 fX12_72 rfl (s_63_26 S) ?_
    refine z_bipush (pc := 106) (v := (nI 12)) dX12_isFree_106 (by decide) ?_
    refine z_iload (pc := 108) dX12_isFree_108 rfl ?_
    refine z_imul (pc := 110) dX12_isFree_110 ?_
    refine z_iload_n (pc := 111) dX12_isFree_111 rfl rfl ?_
    refine z_iadd (pc := 112) dX12_isFree_112 ?_
    have c2 := H.1
    replace H := H.2
    refine z_iald (pc := 113) dX12_isFree_113 c2 ?_
    refine z_iconst (pc := 114) (v := (nI 1)) dX12_isFree_114 (by decide) ?_
    refine z_iand (pc := 115) dX12_isFree_115 ?_
    refine z_iconst (pc := 116) (v := (nI 1)) dX12_isFree_116 (by decide) ?_
    refine z_icmp_ne (pc := 117) (tgt := 138) dX12_isFree_117 (by decide) (fun c3 => ?_) (fun c3 => ?_)
    · replace H := H.1 c3
      exact H
    · replace H := H.2 c3
      refine z_aload_n (pc := 120) dX12_isFree_120 rfl rfl ?_
      refine z_iload_n (pc := 121) dX12_isFree_121 rfl rfl ?_
      refine z_iload_n (pc := 122) dX12_isFree_122 rfl rfl ?_
      refine z_iload (pc := 123) dX12_isFree_123 rfl ?_
      refine z_aload_n (pc := 125) dX12_isFree_125 rfl rfl ?_
      refine z_getk (pc := 126) dX12_isFree_126 fX12_66 rfl (s_63_24 S) ?_
      refine z_iload (pc := 129) dX12_isFree_129 rfl ?_
      have c4 := H.1
      replace H := H.2
      refine z_iald (pc := 131) dX12_isFree_131 c4 ?_
      refine y_VI (pc := 132) (bc := bc) (bs := bs) (mc := 0) (ms := 0) (As := [.inl x2, .inl x3, .inl x4, .inl (hA h 81 (x4).toNatClampNeg)]) (rest := []) dX12_isFree_132 kX12_meet lX12_190 ⟨_, _, rfl⟩ rfl rfl (H.use (fun v5 h5 H => ?_))
      have S5 := H.1
      replace H := H.2
      refine z_if_ne (pc := 135) (tgt := 174) dX12_isFree_135 (by decide) (fun c6 => ?_) (fun c6 => ?_)
      · replace H := H.1 c6
        refine z_iconst (pc := 174) (v := (nI 0)) dX12_isFree_174 (by decide) ?_
        exact z_iret (pc := 175) dX12_isFree_175 rfl rfl ⟨_, rfl, H⟩
      · replace H := H.2 c6
        exact H

set_option maxRecDepth 20000 in
theorem bX12_isFree_138 {l : Launch} {E : eE} {d bc bs : Nat} {h : aH} {Q : Int32 → aH → Prop} {x1 : Int32} {x2 : Int32} {x3 : Int32} {x4 : Int32} (S : SH h) (H : (vp_in (((nI 12) * x4) + x1) 48 ∧ ((¬ ((hA h 83 ((((nI 12) * x4) + x1)).toNatClampNeg) &&& (nI 2)) = (nI 2) → LX12_isFree_96 l E (d + 1) bc bs x1 x2 x3 (x4 + (nI 1)) h Q) ∧ (((hA h 83 ((((nI 12) * x4) + x1)).toNatClampNeg) &&& (nI 2)) = (nI 2) → (vp_in x4 4 ∧ (CI l E d 0 0 mX12_meet [.inr (some (0, 12, 63)), .inl x2, .inl x3, .inl x4, .inl (hA h 82 (x4).toNatClampNeg)] h (fun v4 h4 => SH h4 ∧ ((v4 = 0 → LX12_isFree_96 l E (d + 1) bc bs x1 x2 x3 (x4 + (nI 1)) h4 Q) ∧ (¬ v4 = 0 → Q (nI 0) h4))))))))) : LX12_isFree_138 l E (d + 1) bc bs x1 x2 x3 x4 h Q := by
  refine z_aload_n (pc := 138) dX12_isFree_138 rfl rfl ?_
  refine z_getk (pc := 139) dX12_isFree_139 fX12_72 rfl (s_63_26 S) ?_
  refine z_bipush (pc := 142) (v := (nI 12)) dX12_isFree_142 (by decide) ?_
  refine z_iload (pc := 144) dX12_isFree_144 rfl ?_
  refine z_imul (pc := 146) dX12_isFree_146 ?_
  refine z_iload_n (pc := 147) dX12_isFree_147 rfl rfl ?_
  refine z_iadd (pc := 148) dX12_isFree_148 ?_
  have c1 := H.1
  replace H := H.2
  refine z_iald (pc := 149) dX12_isFree_149 c1 ?_
  refine z_iconst (pc := 150) (v := (nI 2)) dX12_isFree_150 (by decide) ?_
  refine z_iand (pc := 151) dX12_isFree_151 ?_
  refine z_iconst (pc := 152) (v := (nI 2)) dX12_isFree_152 (by decide) ?_
  refine z_icmp_ne (pc := 153) (tgt := 176) dX12_isFree_153 (by decide) (fun c2 => ?_) (fun c2 => ?_)
  · replace H := H.1 c2
    refine z_iinc (pc := 176) (v := (x4 + (nI 1))) (ls' := [some (.inr (some (0, 12, 63))), some (.inl x1), some (.inl x2), some (.inl x3), some (.inl (x4 + (nI 1)))]) dX12_isFree_176 rfl (by rw [show Int32.ofInt (1) = (nI 1) by decide]) rfl ?_
    refine z_goto (pc := 179) (tgt := 96) dX12_isFree_179 (by decide) ?_
    exact H
  · replace H := H.2 c2
    refine z_aload_n (pc := 156) dX12_isFree_156 rfl rfl ?_
    refine z_iload_n (pc := 157) dX12_isFree_157 rfl rfl ?_
    refine z_iload_n (pc := 158) dX12_isFree_158 rfl rfl ?_
    refine z_iload (pc := 159) dX12_isFree_159 rfl ?_
    refine z_aload_n (pc := 161) dX12_isFree_161 rfl rfl ?_
    refine z_getk (pc := 162) dX12_isFree_162 fX12_69 rfl (s_63_25 S) ?_
    refine z_iload (pc := 165) dX12_isFree_165 rfl ?_
    have c3 := H.1
    replace H := H.2
    refine z_iald (pc := 167) dX12_isFree_167 c3 ?_
    refine y_VI (pc := 168) (bc := bc) (bs := bs) (mc := 0) (ms := 0) (As := [.inl x2, .inl x3, .inl x4, .inl (hA h 82 (x4).toNatClampNeg)]) (rest := []) dX12_isFree_168 kX12_meet lX12_190 ⟨_, _, rfl⟩ rfl rfl (H.use (fun v4 h4 H => ?_))
    have S4 := H.1
    replace H := H.2
    refine z_if_eq (pc := 171) (tgt := 176) dX12_isFree_171 (by decide) (fun c5 => ?_) (fun c5 => ?_)
    · replace H := H.1 c5
      refine z_iinc (pc := 176) (v := (x4 + (nI 1))) (ls' := [some (.inr (some (0, 12, 63))), some (.inl x1), some (.inl x2), some (.inl x3), some (.inl (x4 + (nI 1)))]) dX12_isFree_176 rfl (by rw [show Int32.ofInt (1) = (nI 1) by decide]) rfl ?_
      refine z_goto (pc := 179) (tgt := 96) dX12_isFree_179 (by decide) ?_
      exact H
    · replace H := H.2 c5
      refine z_iconst (pc := 174) (v := (nI 0)) dX12_isFree_174 (by decide) ?_
      exact z_iret (pc := 175) dX12_isFree_175 rfl rfl ⟨_, rfl, H⟩

abbrev LX12_asksFree_2 (l : Launch) (E : eE) (d bc bs : Nat) (x1 : Int32) (x2 : Int32) (h : aH) (Q : aH → Prop) : Prop := TV l E mX12_asksFree d bc bs 2 [some (.inr (some (0, 12, 63))), some (.inl x1), some (.inl x2), none] [] h Q

abbrev LX12_asksFree_12 (l : Launch) (E : eE) (d bc bs : Nat) (x1 : Int32) (x2 : Int32) (x3 : Int32) (h : aH) (Q : aH → Prop) : Prop := TV l E mX12_asksFree d bc bs 12 [some (.inr (some (0, 12, 63))), some (.inl x1), some (.inl x2), some (.inl x3)] [] h Q

set_option maxRecDepth 20000 in
theorem bX12_asksFree_0 {l : Launch} {E : eE} {d bc bs : Nat} {h : aH} {Q : aH → Prop} {x1 : Int32} (S : SH h) (H : LX12_asksFree_2 l E (d + 1) bc bs x1 (nI 0) h Q) : CV l E (d + 1) bc bs mX12_asksFree [.inr (some (0, 12, 63)), .inl x1] h Q := by
  refine CV.of (by decide) rfl ?_
  show TV l E mX12_asksFree (d + 1) bc bs 0 [some (.inr (some (0, 12, 63))), some (.inl x1), none, none] [] h Q
  refine z_iconst (pc := 0) (v := (nI 0)) dX12_asksFree_0 (by decide) ?_
  refine z_istore_n (pc := 1) (ls' := [some (.inr (some (0, 12, 63))), some (.inl x1), some (.inl (nI 0)), none]) dX12_asksFree_1 rfl rfl rfl ?_
  exact H

set_option maxRecDepth 20000 in
theorem bX12_asksFree_2 {l : Launch} {E : eE} {d bc bs : Nat} {h : aH} {Q : aH → Prop} {x1 : Int32} {x2 : Int32} (S : SH h) (H : (((hI h 63 3) ≤ x2 → Q h) ∧ (¬ (hI h 63 3) ≤ x2 → LX12_asksFree_12 l E (d + 1) bc bs x1 x2 (nI 0) h Q))) : LX12_asksFree_2 l E (d + 1) bc bs x1 x2 h Q := by
  refine z_iload_n (pc := 2) dX12_asksFree_2 rfl rfl ?_
  refine z_aload_n (pc := 3) dX12_asksFree_3 rfl rfl ?_
  refine z_geti (pc := 4) dX12_asksFree_4 fX12_123 rfl ?_
  refine z_icmp_ge (pc := 7) (tgt := 69) dX12_asksFree_7 (by decide) (fun c1 => ?_) (fun c1 => ?_)
  · replace H := H.1 c1
    exact z_ret (pc := 69) dX12_asksFree_69 rfl ⟨rfl, H⟩
  · replace H := H.2 c1
    refine z_iconst (pc := 10) (v := (nI 0)) dX12_asksFree_10 (by decide) ?_
    refine z_istore_n (pc := 11) (ls' := [some (.inr (some (0, 12, 63))), some (.inl x1), some (.inl x2), some (.inl (nI 0))]) dX12_asksFree_11 rfl rfl rfl ?_
    exact H

set_option maxRecDepth 20000 in
theorem bX12_asksFree_12 {l : Launch} {E : eE} {d bc bs : Nat} {h : aH} {Q : aH → Prop} {x1 : Int32} {x2 : Int32} {x3 : Int32} (S : SH h) (H : (vp_in x1 4 ∧ (((hA h 77 (x1).toNatClampNeg) ≤ x3 → LX12_asksFree_2 l E (d + 1) bc bs x1 (x2 + (nI 1)) h Q) ∧ (¬ (hA h 77 (x1).toNatClampNeg) ≤ x3 → (CI l E d 0 0 mX12_isIn [.inr (some (0, 12, 63)), .inl x1, .inl x3] h (fun v3 h3 => SH h3 ∧ ((v3 = 0 → (vp_in (((nI 6) * x2) + x3) 72 ∧ LX12_asksFree_12 l E (d + 1) bc bs x1 x2 (x3 + (nI 1)) (stA h3 84 ((((nI 6) * x2) + x3)).toNatClampNeg (vp_nar .boolean (nI 0))) Q)) ∧ (¬ v3 = 0 → (CI l E d 0 0 mX12_isFree [.inr (some (0, 12, 63)), .inl x2, .inl x1, .inl x3] h3 (fun v6 h6 => SH h6 ∧ ((v6 = 0 → (vp_in (((nI 6) * x2) + x3) 72 ∧ LX12_asksFree_12 l E (d + 1) bc bs x1 x2 (x3 + (nI 1)) (stA h6 84 ((((nI 6) * x2) + x3)).toNatClampNeg (vp_nar .boolean (nI 0))) Q)) ∧ (¬ v6 = 0 → (vp_in (((nI 6) * x2) + x3) 72 ∧ LX12_asksFree_12 l E (d + 1) bc bs x1 x2 (x3 + (nI 1)) (stA h6 84 ((((nI 6) * x2) + x3)).toNatClampNeg (vp_nar .boolean (nI 1))) Q))))))))))))) : LX12_asksFree_12 l E (d + 1) bc bs x1 x2 x3 h Q := by
  refine z_iload_n (pc := 12) dX12_asksFree_12 rfl rfl ?_
  refine z_aload_n (pc := 13) dX12_asksFree_13 rfl rfl ?_
  refine z_getk (pc := 14) dX12_asksFree_14 fX12_54 rfl (s_63_18 S) ?_
  refine z_iload_n (pc := 17) dX12_asksFree_17 rfl rfl ?_
  have c1 := H.1
  replace H := H.2
  refine z_iald (pc := 18) dX12_asksFree_18 c1 ?_
  refine z_icmp_ge (pc := 19) (tgt := 63) dX12_asksFree_19 (by decide) (fun c2 => ?_) (fun c2 => ?_)
  · replace H := H.1 c2
    refine z_iinc (pc := 63) (v := (x2 + (nI 1))) (ls' := [some (.inr (some (0, 12, 63))), some (.inl x1), some (.inl (x2 + (nI 1))), some (.inl x3)]) dX12_asksFree_63 rfl (by rw [show Int32.ofInt (1) = (nI 1) by decide]) rfl ?_
    refine z_goto (pc := 66) (tgt := 2) dX12_asksFree_66 (by decide) ?_
    exact z_drop (ls' := [some (.inr (some (0, 12, 63))), some (.inl x1), some (.inl (x2 + (nI 1))), none]) (by simp [dropL]) H
  · replace H := H.2 c2
    refine z_aload_n (pc := 22) dX12_asksFree_22 rfl rfl ?_
    refine z_getk (pc := 23) dX12_asksFree_23 fX12_75 rfl (s_63_27 S) ?_
    refine z_bipush (pc := 26) (v := (nI 6)) dX12_asksFree_26 (by decide) ?_
    refine z_iload_n (pc := 28) dX12_asksFree_28 rfl rfl ?_
    refine z_imul (pc := 29) dX12_asksFree_29 ?_
    refine z_iload_n (pc := 30) dX12_asksFree_30 rfl rfl ?_
    refine z_iadd (pc := 31) dX12_asksFree_31 ?_
    refine z_aload_n (pc := 32) dX12_asksFree_32 rfl rfl ?_
    refine z_iload_n (pc := 33) dX12_asksFree_33 rfl rfl ?_
    refine z_iload_n (pc := 34) dX12_asksFree_34 rfl rfl ?_
    refine y_VI (pc := 35) (bc := bc) (bs := bs) (mc := 0) (ms := 0) (As := [.inl x1, .inl x3]) (rest := [.inl (((nI 6) * x2) + x3), .inr (some (2, 72, 84))]) dX12_asksFree_35 kX12_isIn lX12_193 ⟨_, _, rfl⟩ rfl rfl (H.use (fun v3 h3 H => ?_))
    have S3 := H.1
    replace H := H.2
    refine z_if_eq (pc := 38) (tgt := 55) dX12_asksFree_38 (by decide) (fun c4 => ?_) (fun c4 => ?_)
    · replace H := H.1 c4
      refine z_iconst (pc := 55) (v := (nI 0)) dX12_asksFree_55 (by decide) ?_
      have c5 := H.1
      replace H := H.2
      refine z_zast (pc := 56) dX12_asksFree_56 c5 ?_
      refine z_iinc (pc := 57) (v := (x3 + (nI 1))) (ls' := [some (.inr (some (0, 12, 63))), some (.inl x1), some (.inl x2), some (.inl (x3 + (nI 1)))]) dX12_asksFree_57 rfl (by rw [show Int32.ofInt (1) = (nI 1) by decide]) rfl ?_
      refine z_goto (pc := 60) (tgt := 12) dX12_asksFree_60 (by decide) ?_
      exact H
    · replace H := H.2 c4
      refine z_aload_n (pc := 41) dX12_asksFree_41 rfl rfl ?_
      refine z_iload_n (pc := 42) dX12_asksFree_42 rfl rfl ?_
      refine z_iload_n (pc := 43) dX12_asksFree_43 rfl rfl ?_
      refine z_iload_n (pc := 44) dX12_asksFree_44 rfl rfl ?_
      refine y_VI (pc := 45) (bc := bc) (bs := bs) (mc := 0) (ms := 0) (As := [.inl x2, .inl x1, .inl x3]) (rest := [.inl (((nI 6) * x2) + x3), .inr (some (2, 72, 84))]) dX12_asksFree_45 kX12_isFree lX12_197 ⟨_, _, rfl⟩ rfl rfl (H.use (fun v6 h6 H => ?_))
      have S6 := H.1
      replace H := H.2
      refine z_if_eq (pc := 48) (tgt := 55) dX12_asksFree_48 (by decide) (fun c7 => ?_) (fun c7 => ?_)
      · replace H := H.1 c7
        refine z_iconst (pc := 55) (v := (nI 0)) dX12_asksFree_55 (by decide) ?_
        have c8 := H.1
        replace H := H.2
        refine z_zast (pc := 56) dX12_asksFree_56 c8 ?_
        refine z_iinc (pc := 57) (v := (x3 + (nI 1))) (ls' := [some (.inr (some (0, 12, 63))), some (.inl x1), some (.inl x2), some (.inl (x3 + (nI 1)))]) dX12_asksFree_57 rfl (by rw [show Int32.ofInt (1) = (nI 1) by decide]) rfl ?_
        refine z_goto (pc := 60) (tgt := 12) dX12_asksFree_60 (by decide) ?_
        exact H
      · replace H := H.2 c7
        refine z_iconst (pc := 51) (v := (nI 1)) dX12_asksFree_51 (by decide) ?_
        refine z_goto (pc := 52) (tgt := 56) dX12_asksFree_52 (by decide) ?_
        have c9 := H.1
        replace H := H.2
        refine z_zast (pc := 56) dX12_asksFree_56 c9 ?_
        refine z_iinc (pc := 57) (v := (x3 + (nI 1))) (ls' := [some (.inr (some (0, 12, 63))), some (.inl x1), some (.inl x2), some (.inl (x3 + (nI 1)))]) dX12_asksFree_57 rfl (by rw [show Int32.ofInt (1) = (nI 1) by decide]) rfl ?_
        refine z_goto (pc := 60) (tgt := 12) dX12_asksFree_60 (by decide) ?_
        exact H

abbrev LX12_comesTo_125 (l : Launch) (E : eE) (d bc bs : Nat) (x1 : Int32) (x2 : Int32) (x3 : Int32) (x4 : Int32) (x5 : Int32) (x6 : Int32) (h : aH) (Q : Int32 → aH → Prop) : Prop := TI l E mX12_comesTo d bc bs 125 [some (.inr (some (0, 12, 63))), some (.inl x1), some (.inl x2), some (.inl x3), some (.inl x4), some (.inl x5), some (.inl x6)] [] h Q

set_option maxRecDepth 20000 in
theorem bX12_comesTo_0 {l : Launch} {E : eE} {d bc bs : Nat} {h : aH} {Q : Int32 → aH → Prop} {x1 : Int32} {x2 : Int32} {x3 : Int32} {x4 : Int32} (S : SH h) (H : ((¬ x4 = (-1) → (vp_in (((nI 6) * x1) + x3) 72 ∧ (vp_in (((nI 6) * x1) + x4) 72 ∧ (vp_in x2 4 ∧ ((¬ x1 = (hA h 76 (x2).toNatClampNeg) → (vp_in (((nI 12) * x2) + x1) 48 ∧ (((hA h 79 ((((nI 12) * x2) + x1)).toNatClampNeg) = 0 → Q (nI 0) h) ∧ (¬ (hA h 79 ((((nI 12) * x2) + x1)).toNatClampNeg) = 0 → ((¬ (hA h 84 ((((nI 6) * x1) + x3)).toNatClampNeg) = 0 → LX12_comesTo_125 l E (d + 1) bc bs x1 x2 x3 x4 (hA h 84 ((((nI 6) * x1) + x3)).toNatClampNeg) (hA h 84 ((((nI 6) * x1) + x4)).toNatClampNeg) h Q) ∧ ((hA h 84 ((((nI 6) * x1) + x3)).toNatClampNeg) = 0 → ((¬ (hA h 84 ((((nI 6) * x1) + x4)).toNatClampNeg) = 0 → LX12_comesTo_125 l E (d + 1) bc bs x1 x2 x3 x4 (hA h 84 ((((nI 6) * x1) + x3)).toNatClampNeg) (hA h 84 ((((nI 6) * x1) + x4)).toNatClampNeg) h Q) ∧ ((hA h 84 ((((nI 6) * x1) + x4)).toNatClampNeg) = 0 → Q (nI 0) h)))))))) ∧ (x1 = (hA h 76 (x2).toNatClampNeg) → (((hA h 84 ((((nI 6) * x1) + x3)).toNatClampNeg) = 0 → (((hA h 84 ((((nI 6) * x1) + x4)).toNatClampNeg) = 0 → Q ((nI 0) + (nI 0)) h) ∧ (¬ (hA h 84 ((((nI 6) * x1) + x4)).toNatClampNeg) = 0 → Q ((nI 0) + (nI 2)) h))) ∧ (¬ (hA h 84 ((((nI 6) * x1) + x3)).toNatClampNeg) = 0 → (((hA h 84 ((((nI 6) * x1) + x4)).toNatClampNeg) = 0 → Q ((nI 1) + (nI 0)) h) ∧ (¬ (hA h 84 ((((nI 6) * x1) + x4)).toNatClampNeg) = 0 → Q ((nI 1) + (nI 2)) h)))))))))) ∧ (x4 = (-1) → (vp_in (((nI 12) * x2) + x1) 48 ∧ (((hA h 79 ((((nI 12) * x2) + x1)).toNatClampNeg) ≤ 0 → Q (nI 0) h) ∧ (¬ (hA h 79 ((((nI 12) * x2) + x1)).toNatClampNeg) ≤ 0 → (vp_in (((nI 6) * x1) + x3) 72 ∧ (((hA h 84 ((((nI 6) * x1) + x3)).toNatClampNeg) = 0 → Q (nI 0) h) ∧ (¬ (hA h 84 ((((nI 6) * x1) + x3)).toNatClampNeg) = 0 → Q (nI 1) h))))))))) : CI l E (d + 1) bc bs mX12_comesTo [.inr (some (0, 12, 63)), .inl x1, .inl x2, .inl x3, .inl x4] h Q := by
  refine CI.of (by decide) rfl ?_
  show TI l E mX12_comesTo (d + 1) bc bs 0 [some (.inr (some (0, 12, 63))), some (.inl x1), some (.inl x2), some (.inl x3), some (.inl x4), none, none] [] h Q
  refine z_iload (pc := 0) dX12_comesTo_0 rfl ?_
  refine z_iconst (pc := 2) (v := (-1)) dX12_comesTo_2 (by decide) ?_
  refine z_icmp_ne (pc := 3) (tgt := 40) dX12_comesTo_3 (by decide) (fun c1 => ?_) (fun c1 => ?_)
  · replace H := H.1 c1
    refine z_aload_n (pc := 40) dX12_comesTo_40 rfl rfl ?_
    refine z_getk (pc := 41) dX12_comesTo_41 fX12_75 rfl (s_63_27 S) ?_
    refine z_bipush (pc := 44) (v := (nI 6)) dX12_comesTo_44 (by decide) ?_
    refine z_iload_n (pc := 46) dX12_comesTo_46 rfl rfl ?_
    refine z_imul (pc := 47) dX12_comesTo_47 ?_
    refine z_iload_n (pc := 48) dX12_comesTo_48 rfl rfl ?_
    refine z_iadd (pc := 49) dX12_comesTo_49 ?_
    have c2 := H.1
    replace H := H.2
    refine z_zald (pc := 50) dX12_comesTo_50 c2 ?_
    refine z_istore (pc := 51) (ls' := [some (.inr (some (0, 12, 63))), some (.inl x1), some (.inl x2), some (.inl x3), some (.inl x4), some (.inl (hA h 84 ((((nI 6) * x1) + x3)).toNatClampNeg)), none]) dX12_comesTo_51 rfl rfl ?_
    refine z_aload_n (pc := 53) dX12_comesTo_53 rfl rfl ?_
    refine z_getk (pc := 54) dX12_comesTo_54 fX12_75 rfl (s_63_27 S) ?_
    refine z_bipush (pc := 57) (v := (nI 6)) dX12_comesTo_57 (by decide) ?_
    refine z_iload_n (pc := 59) dX12_comesTo_59 rfl rfl ?_
    refine z_imul (pc := 60) dX12_comesTo_60 ?_
    refine z_iload (pc := 61) dX12_comesTo_61 rfl ?_
    refine z_iadd (pc := 63) dX12_comesTo_63 ?_
    have c3 := H.1
    replace H := H.2
    refine z_zald (pc := 64) dX12_comesTo_64 c3 ?_
    refine z_istore (pc := 65) (ls' := [some (.inr (some (0, 12, 63))), some (.inl x1), some (.inl x2), some (.inl x3), some (.inl x4), some (.inl (hA h 84 ((((nI 6) * x1) + x3)).toNatClampNeg)), some (.inl (hA h 84 ((((nI 6) * x1) + x4)).toNatClampNeg))]) dX12_comesTo_65 rfl rfl ?_
    refine z_iload_n (pc := 67) dX12_comesTo_67 rfl rfl ?_
    refine z_aload_n (pc := 68) dX12_comesTo_68 rfl rfl ?_
    refine z_getk (pc := 69) dX12_comesTo_69 fX12_51 rfl (s_63_17 S) ?_
    refine z_iload_n (pc := 72) dX12_comesTo_72 rfl rfl ?_
    have c4 := H.1
    replace H := H.2
    refine z_iald (pc := 73) dX12_comesTo_73 c4 ?_
    refine z_icmp_ne (pc := 74) (tgt := 99) dX12_comesTo_74 (by decide) (fun c5 => ?_) (fun c5 => ?_)
    · replace H := H.1 c5
      refine z_aload_n (pc := 99) dX12_comesTo_99 rfl rfl ?_
      refine z_getk (pc := 100) dX12_comesTo_100 fX12_60 rfl (s_63_20 S) ?_
      refine z_bipush (pc := 103) (v := (nI 12)) dX12_comesTo_103 (by decide) ?_
      refine z_iload_n (pc := 105) dX12_comesTo_105 rfl rfl ?_
      refine z_imul (pc := 106) dX12_comesTo_106 ?_
      refine z_iload_n (pc := 107) dX12_comesTo_107 rfl rfl ?_
      refine z_iadd (pc := 108) dX12_comesTo_108 ?_
      have c6 := H.1
      replace H := H.2
      refine z_iald (pc := 109) dX12_comesTo_109 c6 ?_
      refine z_if_eq (pc := 110) (tgt := 123) dX12_comesTo_110 (by decide) (fun c7 => ?_) (fun c7 => ?_)
      · replace H := H.1 c7
        refine z_iconst (pc := 123) (v := (nI 0)) dX12_comesTo_123 (by decide) ?_
        exact z_iret (pc := 124) dX12_comesTo_124 rfl rfl ⟨_, rfl, H⟩
      · replace H := H.2 c7
        refine z_iload (pc := 113) dX12_comesTo_113 rfl ?_
        refine z_if_ne (pc := 115) (tgt := 125) dX12_comesTo_115 (by decide) (fun c8 => ?_) (fun c8 => ?_)
        · replace H := H.1 c8
          exact H
        · replace H := H.2 c8
          refine z_iload (pc := 118) dX12_comesTo_118 rfl ?_
          refine z_if_ne (pc := 120) (tgt := 125) dX12_comesTo_120 (by decide) (fun c9 => ?_) (fun c9 => ?_)
          · replace H := H.1 c9
            exact H
          · replace H := H.2 c9
            refine z_iconst (pc := 123) (v := (nI 0)) dX12_comesTo_123 (by decide) ?_
            exact z_iret (pc := 124) dX12_comesTo_124 rfl rfl ⟨_, rfl, H⟩
    · replace H := H.2 c5
      refine z_iload (pc := 77) dX12_comesTo_77 rfl ?_
      refine z_if_eq (pc := 79) (tgt := 86) dX12_comesTo_79 (by decide) (fun c10 => ?_) (fun c10 => ?_)
      · replace H := H.1 c10
        refine z_iconst (pc := 86) (v := (nI 0)) dX12_comesTo_86 (by decide) ?_
        refine z_iload (pc := 87) dX12_comesTo_87 rfl ?_
        refine z_if_eq (pc := 89) (tgt := 96) dX12_comesTo_89 (by decide) (fun c11 => ?_) (fun c11 => ?_)
        · replace H := H.1 c11
          refine z_iconst (pc := 96) (v := (nI 0)) dX12_comesTo_96 (by decide) ?_
          refine z_iadd (pc := 97) dX12_comesTo_97 ?_
          exact z_iret (pc := 98) dX12_comesTo_98 rfl rfl ⟨_, rfl, H⟩
        · replace H := H.2 c11
          refine z_iconst (pc := 92) (v := (nI 2)) dX12_comesTo_92 (by decide) ?_
          refine z_goto (pc := 93) (tgt := 97) dX12_comesTo_93 (by decide) ?_
          refine z_iadd (pc := 97) dX12_comesTo_97 ?_
          exact z_iret (pc := 98) dX12_comesTo_98 rfl rfl ⟨_, rfl, H⟩
      · replace H := H.2 c10
        refine z_iconst (pc := 82) (v := (nI 1)) dX12_comesTo_82 (by decide) ?_
        refine z_goto (pc := 83) (tgt := 87) dX12_comesTo_83 (by decide) ?_
        refine z_iload (pc := 87) dX12_comesTo_87 rfl ?_
        refine z_if_eq (pc := 89) (tgt := 96) dX12_comesTo_89 (by decide) (fun c12 => ?_) (fun c12 => ?_)
        · replace H := H.1 c12
          refine z_iconst (pc := 96) (v := (nI 0)) dX12_comesTo_96 (by decide) ?_
          refine z_iadd (pc := 97) dX12_comesTo_97 ?_
          exact z_iret (pc := 98) dX12_comesTo_98 rfl rfl ⟨_, rfl, H⟩
        · replace H := H.2 c12
          refine z_iconst (pc := 92) (v := (nI 2)) dX12_comesTo_92 (by decide) ?_
          refine z_goto (pc := 93) (tgt := 97) dX12_comesTo_93 (by decide) ?_
          refine z_iadd (pc := 97) dX12_comesTo_97 ?_
          exact z_iret (pc := 98) dX12_comesTo_98 rfl rfl ⟨_, rfl, H⟩
  · replace H := H.2 c1
    refine z_aload_n (pc := 6) dX12_comesTo_6 rfl rfl ?_
    refine z_getk (pc := 7) dX12_comesTo_7 fX12_60 rfl (s_63_20 S) ?_
    refine z_bipush (pc := 10) (v := (nI 12)) dX12_comesTo_10 (by decide) ?_
    refine z_iload_n (pc := 12) dX12_comesTo_12 rfl rfl ?_
    refine z_imul (pc := 13) dX12_comesTo_13 ?_
    refine z_iload_n (pc := 14) dX12_comesTo_14 rfl rfl ?_
    refine z_iadd (pc := 15) dX12_comesTo_15 ?_
    have c13 := H.1
    replace H := H.2
    refine z_iald (pc := 16) dX12_comesTo_16 c13 ?_
    refine z_if_le (pc := 17) (tgt := 38) dX12_comesTo_17 (by decide) (fun c14 => ?_) (fun c14 => ?_)
    · replace H := H.1 c14
      refine z_iconst (pc := 38) (v := (nI 0)) dX12_comesTo_38 (by decide) ?_
      exact z_iret (pc := 39) dX12_comesTo_39 rfl rfl ⟨_, rfl, H⟩
    · replace H := H.2 c14
      refine z_aload_n (pc := 20) dX12_comesTo_20 rfl rfl ?_
      refine z_getk (pc := 21) dX12_comesTo_21 fX12_75 rfl (s_63_27 S) ?_
      refine z_bipush (pc := 24) (v := (nI 6)) dX12_comesTo_24 (by decide) ?_
      refine z_iload_n (pc := 26) dX12_comesTo_26 rfl rfl ?_
      refine z_imul (pc := 27) dX12_comesTo_27 ?_
      refine z_iload_n (pc := 28) dX12_comesTo_28 rfl rfl ?_
      refine z_iadd (pc := 29) dX12_comesTo_29 ?_
      have c15 := H.1
      replace H := H.2
      refine z_zald (pc := 30) dX12_comesTo_30 c15 ?_
      refine z_if_eq (pc := 31) (tgt := 38) dX12_comesTo_31 (by decide) (fun c16 => ?_) (fun c16 => ?_)
      · replace H := H.1 c16
        refine z_iconst (pc := 38) (v := (nI 0)) dX12_comesTo_38 (by decide) ?_
        exact z_iret (pc := 39) dX12_comesTo_39 rfl rfl ⟨_, rfl, H⟩
      · replace H := H.2 c16
        refine z_iconst (pc := 34) (v := (nI 1)) dX12_comesTo_34 (by decide) ?_
        refine z_goto (pc := 35) (tgt := 39) dX12_comesTo_35 (by decide) ?_
        exact z_iret (pc := 39) dX12_comesTo_39 rfl rfl ⟨_, rfl, H⟩

set_option maxRecDepth 20000 in
theorem bX12_comesTo_125 {l : Launch} {E : eE} {d bc bs : Nat} {h : aH} {Q : Int32 → aH → Prop} {x1 : Int32} {x2 : Int32} {x3 : Int32} {x4 : Int32} {x5 : Int32} {x6 : Int32} (S : SH h) (H : ((x5 = 0 → ((x5 = 0 → Q (nI 2) h) ∧ (¬ x5 = 0 → Q (nI 1) h))) ∧ (¬ x5 = 0 → ((x6 = 0 → ((x5 = 0 → Q (nI 2) h) ∧ (¬ x5 = 0 → Q (nI 1) h))) ∧ (¬ x6 = 0 → (CI l E d 0 0 mX12_slotOf [.inr (some (0, 12, 63)), .inl x2, .inl x4] h (fun v5 h5 => SH h5 ∧ (vp_in x2 4 ∧ (CI l E d 0 0 mX12_costs [.inr (some (0, 12, 63)), .inl x1, .inl v5, .inl (hA h5 74 (x2).toNatClampNeg), .inl (hI h5 63 23)] h5 (fun v7 h7 => SH h7 ∧ (CI l E d 0 0 mX12_slotOf [.inr (some (0, 12, 63)), .inl x2, .inl x3] h7 (fun v8 h8 => SH h8 ∧ (vp_in x2 4 ∧ (CI l E d 0 0 mX12_costs [.inr (some (0, 12, 63)), .inl x1, .inl v8, .inl (hA h8 74 (x2).toNatClampNeg), .inl (hI h8 63 23)] h8 (fun v10 h10 => SH h10 ∧ ((v10 ≤ v7 → Q (nI 1) h10) ∧ (¬ v10 ≤ v7 → Q (nI 2) h10))))))))))))))))) : LX12_comesTo_125 l E (d + 1) bc bs x1 x2 x3 x4 x5 x6 h Q := by
  refine z_iload (pc := 125) dX12_comesTo_125 rfl ?_
  refine z_if_eq (pc := 127) (tgt := 187) dX12_comesTo_127 (by decide) (fun c1 => ?_) (fun c1 => ?_)
  · replace H := H.1 c1
    refine z_iload (pc := 187) dX12_comesTo_187 rfl ?_
    refine z_if_eq (pc := 189) (tgt := 196) dX12_comesTo_189 (by decide) (fun c2 => ?_) (fun c2 => ?_)
    · replace H := H.1 c2
      refine z_iconst (pc := 196) (v := (nI 2)) dX12_comesTo_196 (by decide) ?_
      exact z_iret (pc := 197) dX12_comesTo_197 rfl rfl ⟨_, rfl, H⟩
    · replace H := H.2 c2
      refine z_iconst (pc := 192) (v := (nI 1)) dX12_comesTo_192 (by decide) ?_
      refine z_goto (pc := 193) (tgt := 197) dX12_comesTo_193 (by decide) ?_
      exact z_iret (pc := 197) dX12_comesTo_197 rfl rfl ⟨_, rfl, H⟩
  · replace H := H.2 c1
    refine z_iload (pc := 130) dX12_comesTo_130 rfl ?_
    refine z_if_eq (pc := 132) (tgt := 187) dX12_comesTo_132 (by decide) (fun c3 => ?_) (fun c3 => ?_)
    · replace H := H.1 c3
      refine z_iload (pc := 187) dX12_comesTo_187 rfl ?_
      refine z_if_eq (pc := 189) (tgt := 196) dX12_comesTo_189 (by decide) (fun c4 => ?_) (fun c4 => ?_)
      · replace H := H.1 c4
        refine z_iconst (pc := 196) (v := (nI 2)) dX12_comesTo_196 (by decide) ?_
        exact z_iret (pc := 197) dX12_comesTo_197 rfl rfl ⟨_, rfl, H⟩
      · replace H := H.2 c4
        refine z_iconst (pc := 192) (v := (nI 1)) dX12_comesTo_192 (by decide) ?_
        refine z_goto (pc := 193) (tgt := 197) dX12_comesTo_193 (by decide) ?_
        exact z_iret (pc := 197) dX12_comesTo_197 rfl rfl ⟨_, rfl, H⟩
    · replace H := H.2 c3
      refine z_aload_n (pc := 135) dX12_comesTo_135 rfl rfl ?_
      refine z_iload_n (pc := 136) dX12_comesTo_136 rfl rfl ?_
      refine z_aload_n (pc := 137) dX12_comesTo_137 rfl rfl ?_
      refine z_iload_n (pc := 138) dX12_comesTo_138 rfl rfl ?_
      refine z_iload (pc := 139) dX12_comesTo_139 rfl ?_
      refine y_VI (pc := 141) (bc := bc) (bs := bs) (mc := 0) (ms := 0) (As := [.inl x2, .inl x4]) (rest := [.inl x1, .inr (some (0, 12, 63))]) dX12_comesTo_141 kX12_slotOf lX12_184 ⟨_, _, rfl⟩ rfl rfl (H.use (fun v5 h5 H => ?_))
      have S5 := H.1
      replace H := H.2
      refine z_aload_n (pc := 144) dX12_comesTo_144 rfl rfl ?_
      refine z_getk (pc := 145) dX12_comesTo_145 fX12_45 rfl (s_63_15 S5) ?_
      refine z_iload_n (pc := 148) dX12_comesTo_148 rfl rfl ?_
      have c6 := H.1
      replace H := H.2
      refine z_iald (pc := 149) dX12_comesTo_149 c6 ?_
      refine z_aload_n (pc := 150) dX12_comesTo_150 rfl rfl ?_
      refine z_geti (pc := 151) dX12_comesTo_151 fX12_187 rfl ?_
      refine y_VI (pc := 154) (bc := bc) (bs := bs) (mc := 0) (ms := 0) (As := [.inl x1, .inl v5, .inl (hA h5 74 (x2).toNatClampNeg), .inl (hI h5 63 23)]) (rest := []) dX12_comesTo_154 kX12_costs lX12_178 ⟨_, _, rfl⟩ rfl rfl (H.use (fun v7 h7 H => ?_))
      have S7 := H.1
      replace H := H.2
      refine z_aload_n (pc := 157) dX12_comesTo_157 rfl rfl ?_
      refine z_iload_n (pc := 158) dX12_comesTo_158 rfl rfl ?_
      refine z_aload_n (pc := 159) dX12_comesTo_159 rfl rfl ?_
      refine z_iload_n (pc := 160) dX12_comesTo_160 rfl rfl ?_
      refine z_iload_n (pc := 161) dX12_comesTo_161 rfl rfl ?_
      refine y_VI (pc := 162) (bc := bc) (bs := bs) (mc := 0) (ms := 0) (As := [.inl x2, .inl x3]) (rest := [.inl x1, .inr (some (0, 12, 63)), .inl v7]) dX12_comesTo_162 kX12_slotOf lX12_184 ⟨_, _, rfl⟩ rfl rfl (H.use (fun v8 h8 H => ?_))
      have S8 := H.1
      replace H := H.2
      refine z_aload_n (pc := 165) dX12_comesTo_165 rfl rfl ?_
      refine z_getk (pc := 166) dX12_comesTo_166 fX12_45 rfl (s_63_15 S8) ?_
      refine z_iload_n (pc := 169) dX12_comesTo_169 rfl rfl ?_
      have c9 := H.1
      replace H := H.2
      refine z_iald (pc := 170) dX12_comesTo_170 c9 ?_
      refine z_aload_n (pc := 171) dX12_comesTo_171 rfl rfl ?_
      refine z_geti (pc := 172) dX12_comesTo_172 fX12_187 rfl ?_
      refine y_VI (pc := 175) (bc := bc) (bs := bs) (mc := 0) (ms := 0) (As := [.inl x1, .inl v8, .inl (hA h8 74 (x2).toNatClampNeg), .inl (hI h8 63 23)]) (rest := [.inl v7]) dX12_comesTo_175 kX12_costs lX12_178 ⟨_, _, rfl⟩ rfl rfl (H.use (fun v10 h10 H => ?_))
      have S10 := H.1
      replace H := H.2
      refine z_icmp_ge (pc := 178) (tgt := 185) dX12_comesTo_178 (by decide) (fun c11 => ?_) (fun c11 => ?_)
      · replace H := H.1 c11
        refine z_iconst (pc := 185) (v := (nI 1)) dX12_comesTo_185 (by decide) ?_
        exact z_iret (pc := 186) dX12_comesTo_186 rfl rfl ⟨_, rfl, H⟩
      · replace H := H.2 c11
        refine z_iconst (pc := 181) (v := (nI 2)) dX12_comesTo_181 (by decide) ?_
        refine z_goto (pc := 182) (tgt := 186) dX12_comesTo_182 (by decide) ?_
        exact z_iret (pc := 186) dX12_comesTo_186 rfl rfl ⟨_, rfl, H⟩

abbrev LX12_comeAll_2 (l : Launch) (E : eE) (d bc bs : Nat) (x1 : Int32) (x2 : Int32) (h : aH) (Q : aH → Prop) : Prop := TV l E mX12_comeAll d bc bs 2 [some (.inr (some (0, 12, 63))), some (.inl x1), some (.inl x2), none] [] h Q

abbrev LX12_comeAll_9 (l : Launch) (E : eE) (d bc bs : Nat) (x1 : Int32) (x2 : Int32) (x3 : Int32) (h : aH) (Q : aH → Prop) : Prop := TV l E mX12_comeAll d bc bs 9 [some (.inr (some (0, 12, 63))), some (.inl x1), some (.inl x2), some (.inl x3)] [] h Q

abbrev LX12_comeAll_53 (l : Launch) (E : eE) (d bc bs : Nat) (x1 : Int32) (x2 : Int32) (x3 : Int32) (h : aH) (Q : aH → Prop) : Prop := TV l E mX12_comeAll d bc bs 53 [some (.inr (some (0, 12, 63))), some (.inl x1), some (.inl x2), some (.inl x3)] [] h Q

set_option maxRecDepth 20000 in
theorem bX12_comeAll_0 {l : Launch} {E : eE} {d bc bs : Nat} {h : aH} {Q : aH → Prop} {x1 : Int32} (S : SH h) (H : LX12_comeAll_2 l E (d + 1) bc bs x1 (nI 0) h Q) : CV l E (d + 1) bc bs mX12_comeAll [.inr (some (0, 12, 63)), .inl x1] h Q := by
  refine CV.of (by decide) rfl ?_
  show TV l E mX12_comeAll (d + 1) bc bs 0 [some (.inr (some (0, 12, 63))), some (.inl x1), none, none] [] h Q
  refine z_iconst (pc := 0) (v := (nI 0)) dX12_comeAll_0 (by decide) ?_
  refine z_istore_n (pc := 1) (ls' := [some (.inr (some (0, 12, 63))), some (.inl x1), some (.inl (nI 0)), none]) dX12_comeAll_1 rfl rfl rfl ?_
  exact H

set_option maxRecDepth 20000 in
theorem bX12_comeAll_2 {l : Launch} {E : eE} {d bc bs : Nat} {h : aH} {Q : aH → Prop} {x1 : Int32} {x2 : Int32} (S : SH h) (H : ((x1 ≤ x2 → Q h) ∧ (¬ x1 ≤ x2 → LX12_comeAll_9 l E (d + 1) bc bs x1 x2 (nI 0) h Q))) : LX12_comeAll_2 l E (d + 1) bc bs x1 x2 h Q := by
  refine z_iload_n (pc := 2) dX12_comeAll_2 rfl rfl ?_
  refine z_iload_n (pc := 3) dX12_comeAll_3 rfl rfl ?_
  refine z_icmp_ge (pc := 4) (tgt := 102) dX12_comeAll_4 (by decide) (fun c1 => ?_) (fun c1 => ?_)
  · replace H := H.1 c1
    exact z_ret (pc := 102) dX12_comeAll_102 rfl ⟨rfl, H⟩
  · replace H := H.2 c1
    refine z_iconst (pc := 7) (v := (nI 0)) dX12_comeAll_7 (by decide) ?_
    refine z_istore_n (pc := 8) (ls' := [some (.inr (some (0, 12, 63))), some (.inl x1), some (.inl x2), some (.inl (nI 0))]) dX12_comeAll_8 rfl rfl rfl ?_
    exact H

set_option maxRecDepth 20000 in
theorem bX12_comeAll_9 {l : Launch} {E : eE} {d bc bs : Nat} {h : aH} {Q : aH → Prop} {x1 : Int32} {x2 : Int32} {x3 : Int32} (S : SH h) (H : (((nI 12) ≤ x3 → (vp_in x2 4 ∧ ((¬ (hA h 81 (x2).toNatClampNeg) = (-1) → (CV l E d 0 0 mX12_asksFree [.inr (some (0, 12, 63)), .inl x2] h (fun h4 => SH h4 ∧ LX12_comeAll_53 l E (d + 1) bc bs x1 x2 (nI 0) h4 Q))) ∧ ((hA h 81 (x2).toNatClampNeg) = (-1) → LX12_comeAll_2 l E (d + 1) bc bs x1 (x2 + (nI 1)) h Q)))) ∧ (¬ (nI 12) ≤ x3 → (vp_in (((nI 12) * x2) + x3) 48 ∧ LX12_comeAll_9 l E (d + 1) bc bs x1 x2 (x3 + (nI 1)) (stA h 83 ((((nI 12) * x2) + x3)).toNatClampNeg (nI 0)) Q)))) : LX12_comeAll_9 l E (d + 1) bc bs x1 x2 x3 h Q := by
  refine z_iload_n (pc := 9) dX12_comeAll_9 rfl rfl ?_
  refine z_bipush (pc := 10) (v := (nI 12)) dX12_comeAll_10 (by decide) ?_
  refine z_icmp_ge (pc := 12) (tgt := 33) dX12_comeAll_12 (by decide) (fun c1 => ?_) (fun c1 => ?_)
  · replace H := H.1 c1
    refine z_aload_n (pc := 33) dX12_comeAll_33 rfl rfl ?_
    refine z_getk (pc := 34) dX12_comeAll_34 fX12_66 rfl (s_63_24 S) ?_
    refine z_iload_n (pc := 37) dX12_comeAll_37 rfl rfl ?_
    have c2 := H.1
    replace H := H.2
    refine z_iald (pc := 38) dX12_comeAll_38 c2 ?_
    refine z_iconst (pc := 39) (v := (-1)) dX12_comeAll_39 (by decide) ?_
    refine z_icmp_ne (pc := 40) (tgt := 46) dX12_comeAll_40 (by decide) (fun c3 => ?_) (fun c3 => ?_)
    · replace H := H.1 c3
      refine z_aload_n (pc := 46) dX12_comeAll_46 rfl rfl ?_
      refine z_iload_n (pc := 47) dX12_comeAll_47 rfl rfl ?_
      refine y_VV (pc := 48) (bc := bc) (bs := bs) (mc := 0) (ms := 0) (As := [.inl x2]) (rest := []) dX12_comeAll_48 kX12_asksFree lX12_201 ⟨_, _, rfl⟩ rfl rfl (H.use (fun h4 H => ?_))
      have S4 := H.1
      replace H := H.2
      refine z_iconst (pc := 51) (v := (nI 0)) dX12_comeAll_51 (by decide) ?_
      refine z_istore_n (pc := 52) (ls' := [some (.inr (some (0, 12, 63))), some (.inl x1), some (.inl x2), some (.inl (nI 0))]) dX12_comeAll_52 rfl rfl rfl ?_
      exact H
    · replace H := H.2 c3
      refine z_goto (pc := 43) (tgt := 96) dX12_comeAll_43 (by decide) ?_
      refine z_iinc (pc := 96) (v := (x2 + (nI 1))) (ls' := [some (.inr (some (0, 12, 63))), some (.inl x1), some (.inl (x2 + (nI 1))), some (.inl x3)]) dX12_comeAll_96 rfl (by rw [show Int32.ofInt (1) = (nI 1) by decide]) rfl ?_
      refine z_goto (pc := 99) (tgt := 2) dX12_comeAll_99 (by decide) ?_
      exact z_drop (ls' := [some (.inr (some (0, 12, 63))), some (.inl x1), some (.inl (x2 + (nI 1))), none]) (by simp [dropL]) H
  · replace H := H.2 c1
    refine z_aload_n (pc := 15) dX12_comeAll_15 rfl rfl ?_
    refine z_getk (pc := 16) dX12_comeAll_16 fX12_72 rfl (s_63_26 S) ?_
    refine z_bipush (pc := 19) (v := (nI 12)) dX12_comeAll_19 (by decide) ?_
    refine z_iload_n (pc := 21) dX12_comeAll_21 rfl rfl ?_
    refine z_imul (pc := 22) dX12_comeAll_22 ?_
    refine z_iload_n (pc := 23) dX12_comeAll_23 rfl rfl ?_
    refine z_iadd (pc := 24) dX12_comeAll_24 ?_
    refine z_iconst (pc := 25) (v := (nI 0)) dX12_comeAll_25 (by decide) ?_
    have c5 := H.1
    replace H := H.2
    refine z_iast (pc := 26) dX12_comeAll_26 c5 ?_
    refine z_iinc (pc := 27) (v := (x3 + (nI 1))) (ls' := [some (.inr (some (0, 12, 63))), some (.inl x1), some (.inl x2), some (.inl (x3 + (nI 1)))]) dX12_comeAll_27 rfl (by rw [show Int32.ofInt (1) = (nI 1) by decide]) rfl ?_
    refine z_goto (pc := 30) (tgt := 9) dX12_comeAll_30 (by decide) ?_
    exact H

set_option maxRecDepth 20000 in
theorem bX12_comeAll_53 {l : Launch} {E : eE} {d bc bs : Nat} {h : aH} {Q : aH → Prop} {x1 : Int32} {x2 : Int32} {x3 : Int32} (S : SH h) (H : (((hI h 63 3) ≤ x3 → LX12_comeAll_2 l E (d + 1) bc bs x1 (x2 + (nI 1)) h Q) ∧ (¬ (hI h 63 3) ≤ x3 → (vp_in x2 4 ∧ (CI l E d 0 0 mX12_comesTo [.inr (some (0, 12, 63)), .inl x3, .inl x2, .inl (hA h 81 (x2).toNatClampNeg), .inl (hA h 82 (x2).toNatClampNeg)] h (fun v3 h3 => SH h3 ∧ (vp_in (((nI 12) * x2) + x3) 48 ∧ LX12_comeAll_53 l E (d + 1) bc bs x1 x2 (x3 + (nI 1)) (stA h3 83 ((((nI 12) * x2) + x3)).toNatClampNeg v3) Q))))))) : LX12_comeAll_53 l E (d + 1) bc bs x1 x2 x3 h Q := by
  refine z_iload_n (pc := 53) dX12_comeAll_53 rfl rfl ?_
  refine z_aload_n (pc := 54) dX12_comeAll_54 rfl rfl ?_
  refine z_geti (pc := 55) dX12_comeAll_55 fX12_123 rfl ?_
  refine z_icmp_ge (pc := 58) (tgt := 96) dX12_comeAll_58 (by decide) (fun c1 => ?_) (fun c1 => ?_)
  · replace H := H.1 c1
    refine z_iinc (pc := 96) (v := (x2 + (nI 1))) (ls' := [some (.inr (some (0, 12, 63))), some (.inl x1), some (.inl (x2 + (nI 1))), some (.inl x3)]) dX12_comeAll_96 rfl (by rw [show Int32.ofInt (1) = (nI 1) by decide]) rfl ?_
    refine z_goto (pc := 99) (tgt := 2) dX12_comeAll_99 (by decide) ?_
    exact z_drop (ls' := [some (.inr (some (0, 12, 63))), some (.inl x1), some (.inl (x2 + (nI 1))), none]) (by simp [dropL]) H
  · replace H := H.2 c1
    refine z_aload_n (pc := 61) dX12_comeAll_61 rfl rfl ?_
    refine z_getk (pc := 62) dX12_comeAll_62 fX12_72 rfl (s_63_26 S) ?_
    refine z_bipush (pc := 65) (v := (nI 12)) dX12_comeAll_65 (by decide) ?_
    refine z_iload_n (pc := 67) dX12_comeAll_67 rfl rfl ?_
    refine z_imul (pc := 68) dX12_comeAll_68 ?_
    refine z_iload_n (pc := 69) dX12_comeAll_69 rfl rfl ?_
    refine z_iadd (pc := 70) dX12_comeAll_70 ?_
    refine z_aload_n (pc := 71) dX12_comeAll_71 rfl rfl ?_
    refine z_iload_n (pc := 72) dX12_comeAll_72 rfl rfl ?_
    refine z_iload_n (pc := 73) dX12_comeAll_73 rfl rfl ?_
    refine z_aload_n (pc := 74) dX12_comeAll_74 rfl rfl ?_
    refine z_getk (pc := 75) dX12_comeAll_75 fX12_66 rfl (s_63_24 S) ?_
    refine z_iload_n (pc := 78) dX12_comeAll_78 rfl rfl ?_
    have c2 := H.1
    replace H := H.2
    refine z_iald (pc := 79) dX12_comeAll_79 c2 ?_
    refine z_aload_n (pc := 80) dX12_comeAll_80 rfl rfl ?_
    refine z_getk (pc := 81) dX12_comeAll_81 fX12_69 rfl (s_63_25 S) ?_
    refine z_iload_n (pc := 84) dX12_comeAll_84 rfl rfl ?_
    refine z_iald (pc := 85) dX12_comeAll_85 c2 ?_
    refine y_VI (pc := 86) (bc := bc) (bs := bs) (mc := 0) (ms := 0) (As := [.inl x3, .inl x2, .inl (hA h 81 (x2).toNatClampNeg), .inl (hA h 82 (x2).toNatClampNeg)]) (rest := [.inl (((nI 12) * x2) + x3), .inr (some (1, 48, 83))]) dX12_comeAll_86 kX12_comesTo lX12_205 ⟨_, _, rfl⟩ rfl rfl (H.use (fun v3 h3 H => ?_))
    have S3 := H.1
    replace H := H.2
    have c4 := H.1
    replace H := H.2
    refine z_iast (pc := 89) dX12_comeAll_89 c4 ?_
    refine z_iinc (pc := 90) (v := (x3 + (nI 1))) (ls' := [some (.inr (some (0, 12, 63))), some (.inl x1), some (.inl x2), some (.inl (x3 + (nI 1)))]) dX12_comeAll_90 rfl (by rw [show Int32.ofInt (1) = (nI 1) by decide]) rfl ?_
    refine z_goto (pc := 93) (tgt := 53) dX12_comeAll_93 (by decide) ?_
    exact H

abbrev LX12_takesWeek_12 (l : Launch) (E : eE) (d bc bs : Nat) (x1 : Int32) (x2 : Int32) (x3 : Int32) (h : aH) (Q : aH → Prop) : Prop := TV l E mX12_takesWeek d bc bs 12 [some (.inr (some (0, 12, 63))), some (.inl x1), some (.inl x2), some (.inl x3)] [] h Q

set_option maxRecDepth 20000 in
theorem bX12_takesWeek_0 {l : Launch} {E : eE} {d bc bs : Nat} {h : aH} {Q : aH → Prop} {x1 : Int32} {x2 : Int32} (S : SH h) (H : LX12_takesWeek_12 l E d bc bs x1 x2 (nI 0) (stI (stI h 63 22 x1) 63 23 x2) Q) : CV l E d bc bs mX12_takesWeek [.inr (some (0, 12, 63)), .inl x1, .inl x2] h Q := by
  refine CV.of (by decide) rfl ?_
  show TV l E mX12_takesWeek d bc bs 0 [some (.inr (some (0, 12, 63))), some (.inl x1), some (.inl x2), none] [] h Q
  refine z_aload_n (pc := 0) dX12_takesWeek_0 rfl rfl ?_
  refine z_iload_n (pc := 1) dX12_takesWeek_1 rfl rfl ?_
  refine z_puti (pc := 2) dX12_takesWeek_2 fX12_181 (uX12_22 _) rfl rfl rfl ?_
  refine z_aload_n (pc := 5) dX12_takesWeek_5 rfl rfl ?_
  refine z_iload_n (pc := 6) dX12_takesWeek_6 rfl rfl ?_
  refine z_puti (pc := 7) dX12_takesWeek_7 fX12_187 (uX12_23 _) rfl rfl rfl ?_
  refine z_iconst (pc := 10) (v := (nI 0)) dX12_takesWeek_10 (by decide) ?_
  refine z_istore_n (pc := 11) (ls' := [some (.inr (some (0, 12, 63))), some (.inl x1), some (.inl x2), some (.inl (nI 0))]) dX12_takesWeek_11 rfl rfl rfl ?_
  exact H

set_option maxRecDepth 20000 in
theorem bX12_takesWeek_12 {l : Launch} {E : eE} {d bc bs : Nat} {h : aH} {Q : aH → Prop} {x1 : Int32} {x2 : Int32} {x3 : Int32} (S : SH h) (H : (((nI 4) ≤ x3 → Q h) ∧ (¬ (nI 4) ≤ x3 → (vp_in ((nI 2) * (((nI 52) * x3) + x1)) 416 ∧ (vp_in x3 4 ∧ (vp_in (((nI 2) * (((nI 52) * x3) + x1)) + (nI 1)) 416 ∧ LX12_takesWeek_12 l E d bc bs x1 x2 (x3 + (nI 1)) (stA (stA h 81 (x3).toNatClampNeg (hA h 80 (((nI 2) * (((nI 52) * x3) + x1))).toNatClampNeg)) 82 (x3).toNatClampNeg (hA h 80 ((((nI 2) * (((nI 52) * x3) + x1)) + (nI 1))).toNatClampNeg)) Q)))))) : LX12_takesWeek_12 l E d bc bs x1 x2 x3 h Q := by
  refine z_iload_n (pc := 12) dX12_takesWeek_12 rfl rfl ?_
  refine z_iconst (pc := 13) (v := (nI 4)) dX12_takesWeek_13 (by decide) ?_
  refine z_icmp_ge (pc := 14) (tgt := 63) dX12_takesWeek_14 (by decide) (fun c1 => ?_) (fun c1 => ?_)
  · replace H := H.1 c1
    exact z_ret (pc := 63) dX12_takesWeek_63 rfl ⟨rfl, H⟩
  · replace H := H.2 c1
    refine z_aload_n (pc := 17) dX12_takesWeek_17 rfl rfl ?_
    refine z_getk (pc := 18) dX12_takesWeek_18 fX12_66 rfl (s_63_24 S) ?_
    refine z_iload_n (pc := 21) dX12_takesWeek_21 rfl rfl ?_
    refine z_aload_n (pc := 22) dX12_takesWeek_22 rfl rfl ?_
    refine z_getk (pc := 23) dX12_takesWeek_23 fX12_63 rfl (s_63_21 S) ?_
    refine z_iconst (pc := 26) (v := (nI 2)) dX12_takesWeek_26 (by decide) ?_
    refine z_bipush (pc := 27) (v := (nI 52)) dX12_takesWeek_27 (by decide) ?_
    refine z_iload_n (pc := 29) dX12_takesWeek_29 rfl rfl ?_
    refine z_imul (pc := 30) dX12_takesWeek_30 ?_
    refine z_iload_n (pc := 31) dX12_takesWeek_31 rfl rfl ?_
    refine z_iadd (pc := 32) dX12_takesWeek_32 ?_
    refine z_imul (pc := 33) dX12_takesWeek_33 ?_
    have c2 := H.1
    replace H := H.2
    refine z_iald (pc := 34) dX12_takesWeek_34 c2 ?_
    have c3 := H.1
    replace H := H.2
    refine z_iast (pc := 35) dX12_takesWeek_35 c3 ?_
    refine z_aload_n (pc := 36) dX12_takesWeek_36 rfl rfl ?_
    refine z_getk (pc := 37) dX12_takesWeek_37 fX12_69 rfl (s_63_25 S) ?_
    refine z_iload_n (pc := 40) dX12_takesWeek_40 rfl rfl ?_
    refine z_aload_n (pc := 41) dX12_takesWeek_41 rfl rfl ?_
    refine z_getk (pc := 42) dX12_takesWeek_42 fX12_63 rfl (s_63_21 S) ?_
    refine z_iconst (pc := 45) (v := (nI 2)) dX12_takesWeek_45 (by decide) ?_
    refine z_bipush (pc := 46) (v := (nI 52)) dX12_takesWeek_46 (by decide) ?_
    refine z_iload_n (pc := 48) dX12_takesWeek_48 rfl rfl ?_
    refine z_imul (pc := 49) dX12_takesWeek_49 ?_
    refine z_iload_n (pc := 50) dX12_takesWeek_50 rfl rfl ?_
    refine z_iadd (pc := 51) dX12_takesWeek_51 ?_
    refine z_imul (pc := 52) dX12_takesWeek_52 ?_
    refine z_iconst (pc := 53) (v := (nI 1)) dX12_takesWeek_53 (by decide) ?_
    refine z_iadd (pc := 54) dX12_takesWeek_54 ?_
    have c4 := H.1
    replace H := H.2
    refine z_iald (pc := 55) dX12_takesWeek_55 c4 ?_
    refine z_iast (pc := 56) dX12_takesWeek_56 c3 ?_
    refine z_iinc (pc := 57) (v := (x3 + (nI 1))) (ls' := [some (.inr (some (0, 12, 63))), some (.inl x1), some (.inl x2), some (.inl (x3 + (nI 1)))]) dX12_takesWeek_57 rfl (by rw [show Int32.ofInt (1) = (nI 1) by decide]) rfl ?_
    refine z_goto (pc := 60) (tgt := 12) dX12_takesWeek_60 (by decide) ?_
    exact H

set_option maxRecDepth 20000 in
theorem bX12_isBehind_0 {l : Launch} {E : eE} {d bc bs : Nat} {h : aH} {Q : Int32 → aH → Prop} {x1 : Int32} {x2 : Int32} (S : SH h) (H : (vp_in x1 4 ∧ (((hA h 75 (x1).toNatClampNeg) = (-1) → Q (nI 1) h) ∧ (¬ (hA h 75 (x1).toNatClampNeg) = (-1) → (vp_in (hA h 75 (x1).toNatClampNeg) 4 ∧ ((¬ (hA h 81 ((hA h 75 (x1).toNatClampNeg)).toNatClampNeg) = (-1) → (CI l E d 0 0 mX12_slotOf [.inr (some (0, 12, 63)), .inl (hA h 75 (x1).toNatClampNeg), .inl (hA h 81 ((hA h 75 (x1).toNatClampNeg)).toNatClampNeg)] h (fun v5 h5 => SH h5 ∧ (vp_in (hA h 75 (x1).toNatClampNeg) 4 ∧ (CI l E d 0 0 mX12_slotOf [.inr (some (0, 12, 63)), .inl x1, .inl x2] h5 (fun v7 h7 => SH h7 ∧ (((v5 + (hA h5 74 ((hA h 75 (x1).toNatClampNeg)).toNatClampNeg)) ≤ v7 → (vp_in (hA h 75 (x1).toNatClampNeg) 4 ∧ (((hA h7 82 ((hA h 75 (x1).toNatClampNeg)).toNatClampNeg) = (-1) → Q (nI 1) h7) ∧ (¬ (hA h7 82 ((hA h 75 (x1).toNatClampNeg)).toNatClampNeg) = (-1) → (CI l E d 0 0 mX12_slotOf [.inr (some (0, 12, 63)), .inl (hA h 75 (x1).toNatClampNeg), .inl (hA h7 82 ((hA h 75 (x1).toNatClampNeg)).toNatClampNeg)] h7 (fun v11 h11 => SH h11 ∧ (vp_in (hA h 75 (x1).toNatClampNeg) 4 ∧ (CI l E d 0 0 mX12_slotOf [.inr (some (0, 12, 63)), .inl x1, .inl x2] h11 (fun v13 h13 => SH h13 ∧ ((v13 < (v11 + (hA h11 74 ((hA h 75 (x1).toNatClampNeg)).toNatClampNeg)) → Q (nI 0) h13) ∧ (¬ v13 < (v11 + (hA h11 74 ((hA h 75 (x1).toNatClampNeg)).toNatClampNeg)) → Q (nI 1) h13))))))))))) ∧ (¬ (v5 + (hA h5 74 ((hA h 75 (x1).toNatClampNeg)).toNatClampNeg)) ≤ v7 → Q (nI 0) h7)))))))) ∧ ((hA h 81 ((hA h 75 (x1).toNatClampNeg)).toNatClampNeg) = (-1) → Q (nI 1) h))))))) : CI l E (d + 1) bc bs mX12_isBehind [.inr (some (0, 12, 63)), .inl x1, .inl x2] h Q := by
  refine CI.of (by decide) rfl ?_
  show TI l E mX12_isBehind (d + 1) bc bs 0 [some (.inr (some (0, 12, 63))), some (.inl x1), some (.inl x2), none] [] h Q
  refine z_aload_n (pc := 0) dX12_isBehind_0 rfl rfl ?_
  refine z_getk (pc := 1) dX12_isBehind_1 fX12_48 rfl (s_63_16 S) ?_
  refine z_iload_n (pc := 4) dX12_isBehind_4 rfl rfl ?_
  have c1 := H.1
  replace H := H.2
  refine z_iald (pc := 5) dX12_isBehind_5 c1 ?_
  refine z_istore_n (pc := 6) (ls' := [some (.inr (some (0, 12, 63))), some (.inl x1), some (.inl x2), some (.inl (hA h 75 (x1).toNatClampNeg))]) dX12_isBehind_6 rfl rfl rfl ?_
  refine z_iload_n (pc := 7) dX12_isBehind_7 rfl rfl ?_
  refine z_iconst (pc := 8) (v := (-1)) dX12_isBehind_8 (by decide) ?_
  refine z_icmp_eq (pc := 9) (tgt := 22) dX12_isBehind_9 (by decide) (fun c2 => ?_) (fun c2 => ?_)
  · replace H := H.1 c2
    refine z_iconst (pc := 22) (v := (nI 1)) dX12_isBehind_22 (by decide) ?_
    exact z_iret (pc := 23) dX12_isBehind_23 rfl rfl ⟨_, rfl, H⟩
  · replace H := H.2 c2
    refine z_aload_n (pc := 12) dX12_isBehind_12 rfl rfl ?_
    refine z_getk (pc := 13) dX12_isBehind_13 fX12_66 rfl (s_63_24 S) ?_
    refine z_iload_n (pc := 16) dX12_isBehind_16 rfl rfl ?_
    have c3 := H.1
    replace H := H.2
    refine z_iald (pc := 17) dX12_isBehind_17 c3 ?_
    refine z_iconst (pc := 18) (v := (-1)) dX12_isBehind_18 (by decide) ?_
    refine z_icmp_ne (pc := 19) (tgt := 24) dX12_isBehind_19 (by decide) (fun c4 => ?_) (fun c4 => ?_)
    · replace H := H.1 c4
      refine z_aload_n (pc := 24) dX12_isBehind_24 rfl rfl ?_
      refine z_iload_n (pc := 25) dX12_isBehind_25 rfl rfl ?_
      refine z_aload_n (pc := 26) dX12_isBehind_26 rfl rfl ?_
      refine z_getk (pc := 27) dX12_isBehind_27 fX12_66 rfl (s_63_24 S) ?_
      refine z_iload_n (pc := 30) dX12_isBehind_30 rfl rfl ?_
      refine z_iald (pc := 31) dX12_isBehind_31 c3 ?_
      refine y_VI (pc := 32) (bc := bc) (bs := bs) (mc := 0) (ms := 0) (As := [.inl (hA h 75 (x1).toNatClampNeg), .inl (hA h 81 ((hA h 75 (x1).toNatClampNeg)).toNatClampNeg)]) (rest := []) dX12_isBehind_32 kX12_slotOf lX12_184 ⟨_, _, rfl⟩ rfl rfl (H.use (fun v5 h5 H => ?_))
      have S5 := H.1
      replace H := H.2
      refine z_aload_n (pc := 35) dX12_isBehind_35 rfl rfl ?_
      refine z_getk (pc := 36) dX12_isBehind_36 fX12_45 rfl (s_63_15 S5) ?_
      refine z_iload_n (pc := 39) dX12_isBehind_39 rfl rfl ?_
      have c6 := H.1
      replace H := H.2
      refine z_iald (pc := 40) dX12_isBehind_40 c6 ?_
      refine z_iadd (pc := 41) dX12_isBehind_41 ?_
      refine z_aload_n (pc := 42) dX12_isBehind_42 rfl rfl ?_
      refine z_iload_n (pc := 43) dX12_isBehind_43 rfl rfl ?_
      refine z_iload_n (pc := 44) dX12_isBehind_44 rfl rfl ?_
      refine y_VI (pc := 45) (bc := bc) (bs := bs) (mc := 0) (ms := 0) (As := [.inl x1, .inl x2]) (rest := [.inl (v5 + (hA h5 74 ((hA h 75 (x1).toNatClampNeg)).toNatClampNeg))]) dX12_isBehind_45 kX12_slotOf lX12_184 ⟨_, _, rfl⟩ rfl rfl (H.use (fun v7 h7 H => ?_))
      have S7 := H.1
      replace H := H.2
      refine z_icmp_le (pc := 48) (tgt := 53) dX12_isBehind_48 (by decide) (fun c8 => ?_) (fun c8 => ?_)
      · replace H := H.1 c8
        refine z_aload_n (pc := 53) dX12_isBehind_53 rfl rfl ?_
        refine z_getk (pc := 54) dX12_isBehind_54 fX12_69 rfl (s_63_25 S7) ?_
        refine z_iload_n (pc := 57) dX12_isBehind_57 rfl rfl ?_
        have c9 := H.1
        replace H := H.2
        refine z_iald (pc := 58) dX12_isBehind_58 c9 ?_
        refine z_iconst (pc := 59) (v := (-1)) dX12_isBehind_59 (by decide) ?_
        refine z_icmp_eq (pc := 60) (tgt := 90) dX12_isBehind_60 (by decide) (fun c10 => ?_) (fun c10 => ?_)
        · replace H := H.1 c10
          refine z_iconst (pc := 90) (v := (nI 1)) dX12_isBehind_90 (by decide) ?_
          refine z_goto (pc := 91) (tgt := 95) dX12_isBehind_91 (by decide) ?_
          exact z_iret (pc := 95) dX12_isBehind_95 rfl rfl ⟨_, rfl, H⟩
        · replace H := H.2 c10
          refine z_aload_n (pc := 63) dX12_isBehind_63 rfl rfl ?_
          refine z_iload_n (pc := 64) dX12_isBehind_64 rfl rfl ?_
          refine z_aload_n (pc := 65) dX12_isBehind_65 rfl rfl ?_
          refine z_getk (pc := 66) dX12_isBehind_66 fX12_69 rfl (s_63_25 S7) ?_
          refine z_iload_n (pc := 69) dX12_isBehind_69 rfl rfl ?_
          refine z_iald (pc := 70) dX12_isBehind_70 c9 ?_
          refine y_VI (pc := 71) (bc := bc) (bs := bs) (mc := 0) (ms := 0) (As := [.inl (hA h 75 (x1).toNatClampNeg), .inl (hA h7 82 ((hA h 75 (x1).toNatClampNeg)).toNatClampNeg)]) (rest := []) dX12_isBehind_71 kX12_slotOf lX12_184 ⟨_, _, rfl⟩ rfl rfl (H.use (fun v11 h11 H => ?_))
          have S11 := H.1
          replace H := H.2
          refine z_aload_n (pc := 74) dX12_isBehind_74 rfl rfl ?_
          refine z_getk (pc := 75) dX12_isBehind_75 fX12_45 rfl (s_63_15 S11) ?_
          refine z_iload_n (pc := 78) dX12_isBehind_78 rfl rfl ?_
          have c12 := H.1
          replace H := H.2
          refine z_iald (pc := 79) dX12_isBehind_79 c12 ?_
          refine z_iadd (pc := 80) dX12_isBehind_80 ?_
          refine z_aload_n (pc := 81) dX12_isBehind_81 rfl rfl ?_
          refine z_iload_n (pc := 82) dX12_isBehind_82 rfl rfl ?_
          refine z_iload_n (pc := 83) dX12_isBehind_83 rfl rfl ?_
          refine y_VI (pc := 84) (bc := bc) (bs := bs) (mc := 0) (ms := 0) (As := [.inl x1, .inl x2]) (rest := [.inl (v11 + (hA h11 74 ((hA h 75 (x1).toNatClampNeg)).toNatClampNeg))]) dX12_isBehind_84 kX12_slotOf lX12_184 ⟨_, _, rfl⟩ rfl rfl (H.use (fun v13 h13 H => ?_))
          have S13 := H.1
          replace H := H.2
          refine z_icmp_gt (pc := 87) (tgt := 94) dX12_isBehind_87 (by decide) (fun c14 => ?_) (fun c14 => ?_)
          · replace H := H.1 c14
            refine z_iconst (pc := 94) (v := (nI 0)) dX12_isBehind_94 (by decide) ?_
            exact z_iret (pc := 95) dX12_isBehind_95 rfl rfl ⟨_, rfl, H⟩
          · replace H := H.2 c14
            refine z_iconst (pc := 90) (v := (nI 1)) dX12_isBehind_90 (by decide) ?_
            refine z_goto (pc := 91) (tgt := 95) dX12_isBehind_91 (by decide) ?_
            exact z_iret (pc := 95) dX12_isBehind_95 rfl rfl ⟨_, rfl, H⟩
      · replace H := H.2 c8
        refine z_iconst (pc := 51) (v := (nI 0)) dX12_isBehind_51 (by decide) ?_
        exact z_iret (pc := 52) dX12_isBehind_52 rfl rfl ⟨_, rfl, H⟩
    · replace H := H.2 c4
      refine z_iconst (pc := 22) (v := (nI 1)) dX12_isBehind_22 (by decide) ?_
      exact z_iret (pc := 23) dX12_isBehind_23 rfl rfl ⟨_, rfl, H⟩

abbrev LX12_fitsBy_65 (l : Launch) (E : eE) (d bc bs : Nat) (x1 : Int32) (x2 : Int32) (x3 : Int32) (x4 : Int32) (x5 : Int32) (x6 : Int32) (h : aH) (Q : Int32 → aH → Prop) : Prop := TI l E mX12_fitsBy d bc bs 65 [some (.inr (some (0, 12, 63))), some (.inl x1), some (.inl x2), some (.inl x3), some (.inl x4), some (.inl x5), some (.inl x6), none, none, none] [] h Q

abbrev LX12_fitsBy_127 (l : Launch) (E : eE) (d bc bs : Nat) (x1 : Int32) (x2 : Int32) (x3 : Int32) (x4 : Int32) (x5 : Int32) (x6 : Int32) (x7 : Int32) (x8 : Int32) (h : aH) (Q : Int32 → aH → Prop) : Prop := TI l E mX12_fitsBy d bc bs 127 [some (.inr (some (0, 12, 63))), some (.inl x1), some (.inl x2), some (.inl x3), some (.inl x4), some (.inl x5), some (.inl x6), some (.inl x7), some (.inl x8), none] [] h Q

abbrev LX12_fitsBy_131 (l : Launch) (E : eE) (d bc bs : Nat) (x1 : Int32) (x2 : Int32) (x3 : Int32) (x4 : Int32) (x5 : Int32) (x6 : Int32) (x7 : Int32) (x8 : Int32) (h : aH) (Q : Int32 → aH → Prop) : Prop := TI l E mX12_fitsBy d bc bs 131 [some (.inr (some (0, 12, 63))), some (.inl x1), some (.inl x2), some (.inl x3), some (.inl x4), some (.inl x5), some (.inl x6), some (.inl x7), some (.inl x8), none] [] h Q

abbrev LX12_fitsBy_147 (l : Launch) (E : eE) (d bc bs : Nat) (x1 : Int32) (x2 : Int32) (x3 : Int32) (x4 : Int32) (x5 : Int32) (x6 : Int32) (x7 : Int32) (x8 : Int32) (x9 : Int32) (h : aH) (Q : Int32 → aH → Prop) : Prop := TI l E mX12_fitsBy d bc bs 147 [some (.inr (some (0, 12, 63))), some (.inl x1), some (.inl x2), some (.inl x3), some (.inl x4), some (.inl x5), some (.inl x6), some (.inl x7), some (.inl x8), some (.inl x9)] [] h Q

abbrev LX12_fitsBy_185 (l : Launch) (E : eE) (d bc bs : Nat) (x1 : Int32) (x2 : Int32) (x3 : Int32) (x4 : Int32) (x5 : Int32) (x6 : Int32) (x7 : Int32) (x8 : Int32) (x9 : Int32) (h : aH) (Q : Int32 → aH → Prop) : Prop := TI l E mX12_fitsBy d bc bs 185 [some (.inr (some (0, 12, 63))), some (.inl x1), some (.inl x2), some (.inl x3), some (.inl x4), some (.inl x5), some (.inl x6), some (.inl x7), some (.inl x8), some (.inl x9)] [] h Q

set_option maxRecDepth 20000 in
theorem bX12_fitsBy_0 {l : Launch} {E : eE} {d bc bs : Nat} {h : aH} {Q : Int32 → aH → Prop} {x1 : Int32} {x2 : Int32} {x3 : Int32} (S : SH h) (H : (CI l E d 0 0 mX12_isIn [.inr (some (0, 12, 63)), .inl x1, .inl x2] h (fun v1 h1 => SH h1 ∧ ((v1 = 0 → Q (nI 0) h1) ∧ (¬ v1 = 0 → (CI l E d 0 0 mX12_isBehind [.inr (some (0, 12, 63)), .inl x1, .inl x2] h1 (fun v3 h3 => SH h3 ∧ ((¬ v3 = 0 → ((x3 = (-1) → LX12_fitsBy_65 l E (d + 1) bc bs x1 x2 x3 (nI 0) (nI 0) (nI 0) h3 Q) ∧ (¬ x3 = (-1) → (CI l E d 0 0 mX12_isIn [.inr (some (0, 12, 63)), .inl x1, .inl x3] h3 (fun v6 h6 => SH h6 ∧ ((v6 = 0 → Q (nI 0) h6) ∧ (¬ v6 = 0 → (CI l E d 0 0 mX12_isBehind [.inr (some (0, 12, 63)), .inl x1, .inl x3] h6 (fun v8 h8 => SH h8 ∧ ((v8 = 0 → Q (nI 0) h8) ∧ (¬ v8 = 0 → (CI l E d 0 0 mX12_meet [.inr (some (0, 12, 63)), .inl x1, .inl x2, .inl x1, .inl x3] h8 (fun v10 h10 => SH h10 ∧ ((v10 = 0 → LX12_fitsBy_65 l E (d + 1) bc bs x1 x2 x3 (nI 0) (nI 0) (nI 0) h10 Q) ∧ (¬ v10 = 0 → Q (nI 0) h10))))))))))))))) ∧ (v3 = 0 → Q (nI 0) h3))))))))) : CI l E (d + 1) bc bs mX12_fitsBy [.inr (some (0, 12, 63)), .inl x1, .inl x2, .inl x3] h Q := by
  refine CI.of (by decide) rfl ?_
  show TI l E mX12_fitsBy (d + 1) bc bs 0 [some (.inr (some (0, 12, 63))), some (.inl x1), some (.inl x2), some (.inl x3), none, none, none, none, none, none] [] h Q
  refine z_aload_n (pc := 0) dX12_fitsBy_0 rfl rfl ?_
  refine z_iload_n (pc := 1) dX12_fitsBy_1 rfl rfl ?_
  refine z_iload_n (pc := 2) dX12_fitsBy_2 rfl rfl ?_
  refine y_VI (pc := 3) (bc := bc) (bs := bs) (mc := 0) (ms := 0) (As := [.inl x1, .inl x2]) (rest := []) dX12_fitsBy_3 kX12_isIn lX12_193 ⟨_, _, rfl⟩ rfl rfl (H.use (fun v1 h1 H => ?_))
  have S1 := H.1
  replace H := H.2
  refine z_if_eq (pc := 6) (tgt := 18) dX12_fitsBy_6 (by decide) (fun c2 => ?_) (fun c2 => ?_)
  · replace H := H.1 c2
    refine z_iconst (pc := 18) (v := (nI 0)) dX12_fitsBy_18 (by decide) ?_
    exact z_iret (pc := 19) dX12_fitsBy_19 rfl rfl ⟨_, rfl, H⟩
  · replace H := H.2 c2
    refine z_aload_n (pc := 9) dX12_fitsBy_9 rfl rfl ?_
    refine z_iload_n (pc := 10) dX12_fitsBy_10 rfl rfl ?_
    refine z_iload_n (pc := 11) dX12_fitsBy_11 rfl rfl ?_
    refine y_VI (pc := 12) (bc := bc) (bs := bs) (mc := 0) (ms := 0) (As := [.inl x1, .inl x2]) (rest := []) dX12_fitsBy_12 kX12_isBehind lX12_208 ⟨_, _, rfl⟩ rfl rfl (H.use (fun v3 h3 H => ?_))
    have S3 := H.1
    replace H := H.2
    refine z_if_ne (pc := 15) (tgt := 20) dX12_fitsBy_15 (by decide) (fun c4 => ?_) (fun c4 => ?_)
    · replace H := H.1 c4
      refine z_iload_n (pc := 20) dX12_fitsBy_20 rfl rfl ?_
      refine z_iconst (pc := 21) (v := (-1)) dX12_fitsBy_21 (by decide) ?_
      refine z_icmp_eq (pc := 22) (tgt := 56) dX12_fitsBy_22 (by decide) (fun c5 => ?_) (fun c5 => ?_)
      · replace H := H.1 c5
        refine z_iconst (pc := 56) (v := (nI 0)) dX12_fitsBy_56 (by decide) ?_
        refine z_istore (pc := 57) (ls' := [some (.inr (some (0, 12, 63))), some (.inl x1), some (.inl x2), some (.inl x3), some (.inl (nI 0)), none, none, none, none, none]) dX12_fitsBy_57 rfl rfl ?_
        refine z_iconst (pc := 59) (v := (nI 0)) dX12_fitsBy_59 (by decide) ?_
        refine z_istore (pc := 60) (ls' := [some (.inr (some (0, 12, 63))), some (.inl x1), some (.inl x2), some (.inl x3), some (.inl (nI 0)), some (.inl (nI 0)), none, none, none, none]) dX12_fitsBy_60 rfl rfl ?_
        refine z_iconst (pc := 62) (v := (nI 0)) dX12_fitsBy_62 (by decide) ?_
        refine z_istore (pc := 63) (ls' := [some (.inr (some (0, 12, 63))), some (.inl x1), some (.inl x2), some (.inl x3), some (.inl (nI 0)), some (.inl (nI 0)), some (.inl (nI 0)), none, none, none]) dX12_fitsBy_63 rfl rfl ?_
        exact H
      · replace H := H.2 c5
        refine z_aload_n (pc := 25) dX12_fitsBy_25 rfl rfl ?_
        refine z_iload_n (pc := 26) dX12_fitsBy_26 rfl rfl ?_
        refine z_iload_n (pc := 27) dX12_fitsBy_27 rfl rfl ?_
        refine y_VI (pc := 28) (bc := bc) (bs := bs) (mc := 0) (ms := 0) (As := [.inl x1, .inl x3]) (rest := []) dX12_fitsBy_28 kX12_isIn lX12_193 ⟨_, _, rfl⟩ rfl rfl (H.use (fun v6 h6 H => ?_))
        have S6 := H.1
        replace H := H.2
        refine z_if_eq (pc := 31) (tgt := 54) dX12_fitsBy_31 (by decide) (fun c7 => ?_) (fun c7 => ?_)
        · replace H := H.1 c7
          refine z_iconst (pc := 54) (v := (nI 0)) dX12_fitsBy_54 (by decide) ?_
          exact z_iret (pc := 55) dX12_fitsBy_55 rfl rfl ⟨_, rfl, H⟩
        · replace H := H.2 c7
          refine z_aload_n (pc := 34) dX12_fitsBy_34 rfl rfl ?_
          refine z_iload_n (pc := 35) dX12_fitsBy_35 rfl rfl ?_
          refine z_iload_n (pc := 36) dX12_fitsBy_36 rfl rfl ?_
          refine y_VI (pc := 37) (bc := bc) (bs := bs) (mc := 0) (ms := 0) (As := [.inl x1, .inl x3]) (rest := []) dX12_fitsBy_37 kX12_isBehind lX12_208 ⟨_, _, rfl⟩ rfl rfl (H.use (fun v8 h8 H => ?_))
          have S8 := H.1
          replace H := H.2
          refine z_if_eq (pc := 40) (tgt := 54) dX12_fitsBy_40 (by decide) (fun c9 => ?_) (fun c9 => ?_)
          · replace H := H.1 c9
            refine z_iconst (pc := 54) (v := (nI 0)) dX12_fitsBy_54 (by decide) ?_
            exact z_iret (pc := 55) dX12_fitsBy_55 rfl rfl ⟨_, rfl, H⟩
          · replace H := H.2 c9
            refine z_aload_n (pc := 43) dX12_fitsBy_43 rfl rfl ?_
            refine z_iload_n (pc := 44) dX12_fitsBy_44 rfl rfl ?_
            refine z_iload_n (pc := 45) dX12_fitsBy_45 rfl rfl ?_
            refine z_iload_n (pc := 46) dX12_fitsBy_46 rfl rfl ?_
            refine z_iload_n (pc := 47) dX12_fitsBy_47 rfl rfl ?_
            refine y_VI (pc := 48) (bc := bc) (bs := bs) (mc := 0) (ms := 0) (As := [.inl x1, .inl x2, .inl x1, .inl x3]) (rest := []) dX12_fitsBy_48 kX12_meet lX12_190 ⟨_, _, rfl⟩ rfl rfl (H.use (fun v10 h10 H => ?_))
            have S10 := H.1
            replace H := H.2
            refine z_if_eq (pc := 51) (tgt := 56) dX12_fitsBy_51 (by decide) (fun c11 => ?_) (fun c11 => ?_)
            · replace H := H.1 c11
              refine z_iconst (pc := 56) (v := (nI 0)) dX12_fitsBy_56 (by decide) ?_
              refine z_istore (pc := 57) (ls' := [some (.inr (some (0, 12, 63))), some (.inl x1), some (.inl x2), some (.inl x3), some (.inl (nI 0)), none, none, none, none, none]) dX12_fitsBy_57 rfl rfl ?_
              refine z_iconst (pc := 59) (v := (nI 0)) dX12_fitsBy_59 (by decide) ?_
              refine z_istore (pc := 60) (ls' := [some (.inr (some (0, 12, 63))), some (.inl x1), some (.inl x2), some (.inl x3), some (.inl (nI 0)), some (.inl (nI 0)), none, none, none, none]) dX12_fitsBy_60 rfl rfl ?_
              refine z_iconst (pc := 62) (v := (nI 0)) dX12_fitsBy_62 (by decide) ?_
              refine z_istore (pc := 63) (ls' := [some (.inr (some (0, 12, 63))), some (.inl x1), some (.inl x2), some (.inl x3), some (.inl (nI 0)), some (.inl (nI 0)), some (.inl (nI 0)), none, none, none]) dX12_fitsBy_63 rfl rfl ?_
              exact H
            · replace H := H.2 c11
              refine z_iconst (pc := 54) (v := (nI 0)) dX12_fitsBy_54 (by decide) ?_
              exact z_iret (pc := 55) dX12_fitsBy_55 rfl rfl ⟨_, rfl, H⟩
    · replace H := H.2 c4
      refine z_iconst (pc := 18) (v := (nI 0)) dX12_fitsBy_18 (by decide) ?_
      exact z_iret (pc := 19) dX12_fitsBy_19 rfl rfl ⟨_, rfl, H⟩

set_option maxRecDepth 20000 in
theorem bX12_fitsBy_65 {l : Launch} {E : eE} {d bc bs : Nat} {h : aH} {Q : Int32 → aH → Prop} {x1 : Int32} {x2 : Int32} {x3 : Int32} {x4 : Int32} {x5 : Int32} {x6 : Int32} (S : SH h) (H : (((hI h 63 3) ≤ x6 → ((¬ x4 = x5 → Q (nI 0) h) ∧ (x4 = x5 → Q (nI 1) h))) ∧ (¬ (hI h 63 3) ≤ x6 → (vp_in (((nI 12) * x1) + x6) 48 ∧ (vp_in (((nI 6) * x6) + x2) 72 ∧ ((¬ (hA h 84 ((((nI 6) * x6) + x2)).toNatClampNeg) = 0 → LX12_fitsBy_127 l E (d + 1) bc bs x1 x2 x3 x4 x5 x6 (hA h 79 ((((nI 12) * x1) + x6)).toNatClampNeg) (hA h 84 ((((nI 6) * x6) + x2)).toNatClampNeg) h Q) ∧ ((hA h 84 ((((nI 6) * x6) + x2)).toNatClampNeg) = 0 → ((x3 = (-1) → LX12_fitsBy_131 l E (d + 1) bc bs x1 x2 x3 x4 x5 x6 (hA h 79 ((((nI 12) * x1) + x6)).toNatClampNeg) (hA h 84 ((((nI 6) * x6) + x2)).toNatClampNeg) h Q) ∧ (¬ x3 = (-1) → (vp_in (((nI 6) * x6) + x3) 72 ∧ (((hA h 84 ((((nI 6) * x6) + x3)).toNatClampNeg) = 0 → LX12_fitsBy_131 l E (d + 1) bc bs x1 x2 x3 x4 x5 x6 (hA h 79 ((((nI 12) * x1) + x6)).toNatClampNeg) (hA h 84 ((((nI 6) * x6) + x2)).toNatClampNeg) h Q) ∧ (¬ (hA h 84 ((((nI 6) * x6) + x3)).toNatClampNeg) = 0 → LX12_fitsBy_127 l E (d + 1) bc bs x1 x2 x3 x4 x5 x6 (hA h 79 ((((nI 12) * x1) + x6)).toNatClampNeg) (hA h 84 ((((nI 6) * x6) + x2)).toNatClampNeg) h Q)))))))))))) : LX12_fitsBy_65 l E (d + 1) bc bs x1 x2 x3 x4 x5 x6 h Q := by
  refine z_iload (pc := 65) dX12_fitsBy_65 rfl ?_
  refine z_aload_n (pc := 67) dX12_fitsBy_67 rfl rfl ?_
  refine z_geti (pc := 68) dX12_fitsBy_68 fX12_123 rfl ?_
  refine z_icmp_ge (pc := 71) (tgt := 223) dX12_fitsBy_71 (by decide) (fun c1 => ?_) (fun c1 => ?_)
  · replace H := H.1 c1
    refine z_iload (pc := 223) dX12_fitsBy_223 rfl ?_
    refine z_iload (pc := 225) dX12_fitsBy_225 rfl ?_
    refine z_icmp_ne (pc := 227) (tgt := 234) dX12_fitsBy_227 (by decide) (fun c2 => ?_) (fun c2 => ?_)
    · replace H := H.1 c2
      refine z_iconst (pc := 234) (v := (nI 0)) dX12_fitsBy_234 (by decide) ?_
      exact z_iret (pc := 235) dX12_fitsBy_235 rfl rfl ⟨_, rfl, H⟩
    · replace H := H.2 c2
      refine z_iconst (pc := 230) (v := (nI 1)) dX12_fitsBy_230 (by decide) ?_
      refine z_goto (pc := 231) (tgt := 235) dX12_fitsBy_231 (by decide) ?_
      exact z_iret (pc := 235) dX12_fitsBy_235 rfl rfl ⟨_, rfl, H⟩
  · replace H := H.2 c1
    refine z_aload_n (pc := 74) dX12_fitsBy_74 rfl rfl ?_
    refine z_getk (pc := 75) dX12_fitsBy_75 fX12_60 rfl (s_63_20 S) ?_
    refine z_bipush (pc := 78) (v := (nI 12)) dX12_fitsBy_78 (by decide) ?_
    refine z_iload_n (pc := 80) dX12_fitsBy_80 rfl rfl ?_
    refine z_imul (pc := 81) dX12_fitsBy_81 ?_
    refine z_iload (pc := 82) dX12_fitsBy_82 rfl ?_
    refine z_iadd (pc := 84) dX12_fitsBy_84 ?_
    have c3 := H.1
    replace H := H.2
    refine z_iald (pc := 85) dX12_fitsBy_85 c3 ?_
    refine z_istore (pc := 86) (ls' := [some (.inr (some (0, 12, 63))), some (.inl x1), some (.inl x2), some (.inl x3), some (.inl x4), some (.inl x5), some (.inl x6), some (.inl (hA h 79 ((((nI 12) * x1) + x6)).toNatClampNeg)), none, none]) dX12_fitsBy_86 rfl rfl ?_
    refine z_aload_n (pc := 88) dX12_fitsBy_88 rfl rfl ?_
    refine z_getk (pc := 89) dX12_fitsBy_89 fX12_75 rfl (s_63_27 S) ?_
    refine z_bipush (pc := 92) (v := (nI 6)) dX12_fitsBy_92 (by decide) ?_
    refine z_iload (pc := 94) dX12_fitsBy_94 rfl ?_
    refine z_imul (pc := 96) dX12_fitsBy_96 ?_
    refine z_iload_n (pc := 97) dX12_fitsBy_97 rfl rfl ?_
    refine z_iadd (pc := 98) dX12_fitsBy_98 ?_
    have c4 := H.1
    replace H := H.2
    refine z_zald (pc := 99) dX12_fitsBy_99 c4 ?_
    refine z_istore (pc := 100) (ls' := [some (.inr (some (0, 12, 63))), some (.inl x1), some (.inl x2), some (.inl x3), some (.inl x4), some (.inl x5), some (.inl x6), some (.inl (hA h 79 ((((nI 12) * x1) + x6)).toNatClampNeg)), some (.inl (hA h 84 ((((nI 6) * x6) + x2)).toNatClampNeg)), none]) dX12_fitsBy_100 rfl rfl ?_
    refine z_iload (pc := 102) dX12_fitsBy_102 rfl ?_
    refine z_if_ne (pc := 104) (tgt := 127) dX12_fitsBy_104 (by decide) (fun c5 => ?_) (fun c5 => ?_)
    · replace H := H.1 c5
      exact H
    · replace H := H.2 c5
      refine z_iload_n (pc := 107) dX12_fitsBy_107 rfl rfl ?_
      refine z_iconst (pc := 108) (v := (-1)) dX12_fitsBy_108 (by decide) ?_
      refine z_icmp_eq (pc := 109) (tgt := 131) dX12_fitsBy_109 (by decide) (fun c6 => ?_) (fun c6 => ?_)
      · replace H := H.1 c6
        exact H
      · replace H := H.2 c6
        refine z_aload_n (pc := 112) dX12_fitsBy_112 rfl rfl ?_
        refine z_getk (pc := 113) dX12_fitsBy_113 fX12_75 rfl (s_63_27 S) ?_
        refine z_bipush (pc := 116) (v := (nI 6)) dX12_fitsBy_116 (by decide) ?_
        refine z_iload (pc := 118) dX12_fitsBy_118 rfl ?_
        refine z_imul (pc := 120) dX12_fitsBy_120 ?_
        refine z_iload_n (pc := 121) dX12_fitsBy_121 rfl rfl ?_
        refine z_iadd (pc := 122) dX12_fitsBy_122 ?_
        have c7 := H.1
        replace H := H.2
        refine z_zald (pc := 123) dX12_fitsBy_123 c7 ?_
        refine z_if_eq (pc := 124) (tgt := 131) dX12_fitsBy_124 (by decide) (fun c8 => ?_) (fun c8 => ?_)
        · replace H := H.1 c8
          exact H
        · replace H := H.2 c8
          exact H

set_option maxRecDepth 20000 in
theorem bX12_fitsBy_127 {l : Launch} {E : eE} {d bc bs : Nat} {h : aH} {Q : Int32 → aH → Prop} {x1 : Int32} {x2 : Int32} {x3 : Int32} {x4 : Int32} {x5 : Int32} {x6 : Int32} {x7 : Int32} {x8 : Int32} (S : SH h) (H : ((¬ x7 = (nI 1) → LX12_fitsBy_147 l E (d + 1) bc bs x1 x2 x3 x4 x5 x6 x7 x8 (nI 1) h Q) ∧ (x7 = (nI 1) → ((¬ (nI 1) = 0 → LX12_fitsBy_147 l E (d + 1) bc bs x1 x2 x3 x4 x5 x6 x7 x8 (nI 1) h Q) ∧ ((nI 1) = 0 → Q (nI 0) h))))) : LX12_fitsBy_127 l E (d + 1) bc bs x1 x2 x3 x4 x5 x6 x7 x8 h Q := by
  refine z_iconst (pc := 127) (v := (nI 1)) dX12_fitsBy_127 (by decide) ?_
  refine z_goto (pc := 128) (tgt := 132) dX12_fitsBy_128 (by decide) ?_
  refine z_istore (pc := 132) (ls' := [some (.inr (some (0, 12, 63))), some (.inl x1), some (.inl x2), some (.inl x3), some (.inl x4), some (.inl x5), some (.inl x6), some (.inl x7), some (.inl x8), some (.inl (nI 1))]) dX12_fitsBy_132 rfl rfl ?_
  refine z_iload (pc := 134) dX12_fitsBy_134 rfl ?_
  refine z_iconst (pc := 136) (v := (nI 1)) dX12_fitsBy_136 (by decide) ?_
  refine z_icmp_ne (pc := 137) (tgt := 147) dX12_fitsBy_137 (by decide) (fun c1 => ?_) (fun c1 => ?_)
  · replace H := H.1 c1
    exact H
  · replace H := H.2 c1
    refine z_iload (pc := 140) dX12_fitsBy_140 rfl ?_
    refine z_if_ne (pc := 142) (tgt := 147) dX12_fitsBy_142 (by decide) (fun c2 => ?_) (fun c2 => ?_)
    · replace H := H.1 c2
      exact H
    · replace H := H.2 c2
      refine z_iconst (pc := 145) (v := (nI 0)) dX12_fitsBy_145 (by decide) ?_
      exact z_iret (pc := 146) dX12_fitsBy_146 rfl rfl ⟨_, rfl, H⟩

set_option maxRecDepth 20000 in
theorem bX12_fitsBy_131 {l : Launch} {E : eE} {d bc bs : Nat} {h : aH} {Q : Int32 → aH → Prop} {x1 : Int32} {x2 : Int32} {x3 : Int32} {x4 : Int32} {x5 : Int32} {x6 : Int32} {x7 : Int32} {x8 : Int32} (S : SH h) (H : ((¬ x7 = (nI 1) → LX12_fitsBy_147 l E (d + 1) bc bs x1 x2 x3 x4 x5 x6 x7 x8 (nI 0) h Q) ∧ (x7 = (nI 1) → ((¬ (nI 0) = 0 → LX12_fitsBy_147 l E (d + 1) bc bs x1 x2 x3 x4 x5 x6 x7 x8 (nI 0) h Q) ∧ ((nI 0) = 0 → Q (nI 0) h))))) : LX12_fitsBy_131 l E (d + 1) bc bs x1 x2 x3 x4 x5 x6 x7 x8 h Q := by
  refine z_iconst (pc := 131) (v := (nI 0)) dX12_fitsBy_131 (by decide) ?_
  refine z_istore (pc := 132) (ls' := [some (.inr (some (0, 12, 63))), some (.inl x1), some (.inl x2), some (.inl x3), some (.inl x4), some (.inl x5), some (.inl x6), some (.inl x7), some (.inl x8), some (.inl (nI 0))]) dX12_fitsBy_132 rfl rfl ?_
  refine z_iload (pc := 134) dX12_fitsBy_134 rfl ?_
  refine z_iconst (pc := 136) (v := (nI 1)) dX12_fitsBy_136 (by decide) ?_
  refine z_icmp_ne (pc := 137) (tgt := 147) dX12_fitsBy_137 (by decide) (fun c1 => ?_) (fun c1 => ?_)
  · replace H := H.1 c1
    exact H
  · replace H := H.2 c1
    refine z_iload (pc := 140) dX12_fitsBy_140 rfl ?_
    refine z_if_ne (pc := 142) (tgt := 147) dX12_fitsBy_142 (by decide) (fun c2 => ?_) (fun c2 => ?_)
    · replace H := H.1 c2
      exact H
    · replace H := H.2 c2
      refine z_iconst (pc := 145) (v := (nI 0)) dX12_fitsBy_145 (by decide) ?_
      exact z_iret (pc := 146) dX12_fitsBy_146 rfl rfl ⟨_, rfl, H⟩

set_option maxRecDepth 20000 in
theorem bX12_fitsBy_147 {l : Launch} {E : eE} {d bc bs : Nat} {h : aH} {Q : Int32 → aH → Prop} {x1 : Int32} {x2 : Int32} {x3 : Int32} {x4 : Int32} {x5 : Int32} {x6 : Int32} {x7 : Int32} {x8 : Int32} {x9 : Int32} (S : SH h) (H : (vp_in x1 4 ∧ ((¬ x6 = (hA h 76 (x1).toNatClampNeg) → LX12_fitsBy_185 l E (d + 1) bc bs x1 x2 x3 x4 x5 x6 x7 x8 x9 h Q) ∧ (x6 = (hA h 76 (x1).toNatClampNeg) → ((x3 = (-1) → LX12_fitsBy_185 l E (d + 1) bc bs x1 x2 x3 x4 x5 x6 x7 x8 x9 h Q) ∧ (¬ x3 = (-1) → ((x8 = 0 → Q (nI 0) h) ∧ (¬ x8 = 0 → (vp_in (((nI 6) * x6) + x3) 72 ∧ ((¬ (hA h 84 ((((nI 6) * x6) + x3)).toNatClampNeg) = 0 → LX12_fitsBy_185 l E (d + 1) bc bs x1 x2 x3 x4 x5 x6 x7 x8 x9 h Q) ∧ ((hA h 84 ((((nI 6) * x6) + x3)).toNatClampNeg) = 0 → Q (nI 0) h))))))))))) : LX12_fitsBy_147 l E (d + 1) bc bs x1 x2 x3 x4 x5 x6 x7 x8 x9 h Q := by
  refine z_iload (pc := 147) dX12_fitsBy_147 rfl ?_
  refine z_aload_n (pc := 149) dX12_fitsBy_149 rfl rfl ?_
  refine z_getk (pc := 150) dX12_fitsBy_150 fX12_51 rfl (s_63_17 S) ?_
  refine z_iload_n (pc := 153) dX12_fitsBy_153 rfl rfl ?_
  have c1 := H.1
  replace H := H.2
  refine z_iald (pc := 154) dX12_fitsBy_154 c1 ?_
  refine z_icmp_ne (pc := 155) (tgt := 185) dX12_fitsBy_155 (by decide) (fun c2 => ?_) (fun c2 => ?_)
  · replace H := H.1 c2
    exact H
  · replace H := H.2 c2
    refine z_iload_n (pc := 158) dX12_fitsBy_158 rfl rfl ?_
    refine z_iconst (pc := 159) (v := (-1)) dX12_fitsBy_159 (by decide) ?_
    refine z_icmp_eq (pc := 160) (tgt := 185) dX12_fitsBy_160 (by decide) (fun c3 => ?_) (fun c3 => ?_)
    · replace H := H.1 c3
      exact H
    · replace H := H.2 c3
      refine z_iload (pc := 163) dX12_fitsBy_163 rfl ?_
      refine z_if_eq (pc := 165) (tgt := 183) dX12_fitsBy_165 (by decide) (fun c4 => ?_) (fun c4 => ?_)
      · replace H := H.1 c4
        refine z_iconst (pc := 183) (v := (nI 0)) dX12_fitsBy_183 (by decide) ?_
        exact z_iret (pc := 184) dX12_fitsBy_184 rfl rfl ⟨_, rfl, H⟩
      · replace H := H.2 c4
        refine z_aload_n (pc := 168) dX12_fitsBy_168 rfl rfl ?_
        refine z_getk (pc := 169) dX12_fitsBy_169 fX12_75 rfl (s_63_27 S) ?_
        refine z_bipush (pc := 172) (v := (nI 6)) dX12_fitsBy_172 (by decide) ?_
        refine z_iload (pc := 174) dX12_fitsBy_174 rfl ?_
        refine z_imul (pc := 176) dX12_fitsBy_176 ?_
        refine z_iload_n (pc := 177) dX12_fitsBy_177 rfl rfl ?_
        refine z_iadd (pc := 178) dX12_fitsBy_178 ?_
        have c5 := H.1
        replace H := H.2
        refine z_zald (pc := 179) dX12_fitsBy_179 c5 ?_
        refine z_if_ne (pc := 180) (tgt := 185) dX12_fitsBy_180 (by decide) (fun c6 => ?_) (fun c6 => ?_)
        · replace H := H.1 c6
          exact H
        · replace H := H.2 c6
          refine z_iconst (pc := 183) (v := (nI 0)) dX12_fitsBy_183 (by decide) ?_
          exact z_iret (pc := 184) dX12_fitsBy_184 rfl rfl ⟨_, rfl, H⟩

set_option maxRecDepth 20000 in
theorem bX12_fitsBy_185 {l : Launch} {E : eE} {d bc bs : Nat} {h : aH} {Q : Int32 → aH → Prop} {x1 : Int32} {x2 : Int32} {x3 : Int32} {x4 : Int32} {x5 : Int32} {x6 : Int32} {x7 : Int32} {x8 : Int32} {x9 : Int32} (S : SH h) (H : (((nI 3) ≤ x7 → ((x9 = 0 → LX12_fitsBy_65 l E (d + 1) bc bs x1 x2 x3 (x4 ||| ((nI 1) <<< (x7 &&& 31))) x5 (x6 + (nI 1)) h Q) ∧ (¬ x9 = 0 → LX12_fitsBy_65 l E (d + 1) bc bs x1 x2 x3 (x4 ||| ((nI 1) <<< (x7 &&& 31))) (x5 ||| ((nI 1) <<< (x7 &&& 31))) (x6 + (nI 1)) h Q))) ∧ (¬ (nI 3) ≤ x7 → LX12_fitsBy_65 l E (d + 1) bc bs x1 x2 x3 x4 x5 (x6 + (nI 1)) h Q))) : LX12_fitsBy_185 l E (d + 1) bc bs x1 x2 x3 x4 x5 x6 x7 x8 x9 h Q := by
  refine z_iload (pc := 185) dX12_fitsBy_185 rfl ?_
  refine z_iconst (pc := 187) (v := (nI 3)) dX12_fitsBy_187 (by decide) ?_
  refine z_icmp_ge (pc := 188) (tgt := 194) dX12_fitsBy_188 (by decide) (fun c1 => ?_) (fun c1 => ?_)
  · replace H := H.1 c1
    refine z_iload (pc := 194) dX12_fitsBy_194 rfl ?_
    refine z_iconst (pc := 196) (v := (nI 1)) dX12_fitsBy_196 (by decide) ?_
    refine z_iload (pc := 197) dX12_fitsBy_197 rfl ?_
    refine z_ishl (pc := 199) dX12_fitsBy_199 ?_
    refine z_ior (pc := 200) dX12_fitsBy_200 ?_
    refine z_istore (pc := 201) (ls' := [some (.inr (some (0, 12, 63))), some (.inl x1), some (.inl x2), some (.inl x3), some (.inl (x4 ||| ((nI 1) <<< (x7 &&& 31)))), some (.inl x5), some (.inl x6), some (.inl x7), some (.inl x8), some (.inl x9)]) dX12_fitsBy_201 rfl rfl ?_
    refine z_iload (pc := 203) dX12_fitsBy_203 rfl ?_
    refine z_if_eq (pc := 205) (tgt := 217) dX12_fitsBy_205 (by decide) (fun c2 => ?_) (fun c2 => ?_)
    · replace H := H.1 c2
      refine z_iinc (pc := 217) (v := (x6 + (nI 1))) (ls' := [some (.inr (some (0, 12, 63))), some (.inl x1), some (.inl x2), some (.inl x3), some (.inl (x4 ||| ((nI 1) <<< (x7 &&& 31)))), some (.inl x5), some (.inl (x6 + (nI 1))), some (.inl x7), some (.inl x8), some (.inl x9)]) dX12_fitsBy_217 rfl (by rw [show Int32.ofInt (1) = (nI 1) by decide]) rfl ?_
      refine z_goto (pc := 220) (tgt := 65) dX12_fitsBy_220 (by decide) ?_
      exact z_drop (ls' := [some (.inr (some (0, 12, 63))), some (.inl x1), some (.inl x2), some (.inl x3), some (.inl (x4 ||| ((nI 1) <<< (x7 &&& 31)))), some (.inl x5), some (.inl (x6 + (nI 1))), none, none, none]) (by simp [dropL]) H
    · replace H := H.2 c2
      refine z_iload (pc := 208) dX12_fitsBy_208 rfl ?_
      refine z_iconst (pc := 210) (v := (nI 1)) dX12_fitsBy_210 (by decide) ?_
      refine z_iload (pc := 211) dX12_fitsBy_211 rfl ?_
      refine z_ishl (pc := 213) dX12_fitsBy_213 ?_
      refine z_ior (pc := 214) dX12_fitsBy_214 ?_
      refine z_istore (pc := 215) (ls' := [some (.inr (some (0, 12, 63))), some (.inl x1), some (.inl x2), some (.inl x3), some (.inl (x4 ||| ((nI 1) <<< (x7 &&& 31)))), some (.inl (x5 ||| ((nI 1) <<< (x7 &&& 31)))), some (.inl x6), some (.inl x7), some (.inl x8), some (.inl x9)]) dX12_fitsBy_215 rfl rfl ?_
      refine z_iinc (pc := 217) (v := (x6 + (nI 1))) (ls' := [some (.inr (some (0, 12, 63))), some (.inl x1), some (.inl x2), some (.inl x3), some (.inl (x4 ||| ((nI 1) <<< (x7 &&& 31)))), some (.inl (x5 ||| ((nI 1) <<< (x7 &&& 31)))), some (.inl (x6 + (nI 1))), some (.inl x7), some (.inl x8), some (.inl x9)]) dX12_fitsBy_217 rfl (by rw [show Int32.ofInt (1) = (nI 1) by decide]) rfl ?_
      refine z_goto (pc := 220) (tgt := 65) dX12_fitsBy_220 (by decide) ?_
      exact z_drop (ls' := [some (.inr (some (0, 12, 63))), some (.inl x1), some (.inl x2), some (.inl x3), some (.inl (x4 ||| ((nI 1) <<< (x7 &&& 31)))), some (.inl (x5 ||| ((nI 1) <<< (x7 &&& 31)))), some (.inl (x6 + (nI 1))), none, none, none]) (by simp [dropL]) H
  · replace H := H.2 c1
    refine z_goto (pc := 191) (tgt := 217) dX12_fitsBy_191 (by decide) ?_
    refine z_iinc (pc := 217) (v := (x6 + (nI 1))) (ls' := [some (.inr (some (0, 12, 63))), some (.inl x1), some (.inl x2), some (.inl x3), some (.inl x4), some (.inl x5), some (.inl (x6 + (nI 1))), some (.inl x7), some (.inl x8), some (.inl x9)]) dX12_fitsBy_217 rfl (by rw [show Int32.ofInt (1) = (nI 1) by decide]) rfl ?_
    refine z_goto (pc := 220) (tgt := 65) dX12_fitsBy_220 (by decide) ?_
    exact z_drop (ls' := [some (.inr (some (0, 12, 63))), some (.inl x1), some (.inl x2), some (.inl x3), some (.inl x4), some (.inl x5), some (.inl (x6 + (nI 1))), none, none, none]) (by simp [dropL]) H

set_option maxRecDepth 20000 in
theorem bX12_isPair_0 {l : Launch} {E : eE} {d bc bs : Nat} {h : aH} {Q : Int32 → aH → Prop} {x1 : Int32} {x2 : Int32} {x3 : Int32} (S : SH h) (H : ((x2 < 0 → Q (nI 0) h) ∧ (¬ x2 < 0 → (vp_in x1 4 ∧ ((x2 < (hA h 77 (x1).toNatClampNeg) → ((¬ (hA h 76 (x1).toNatClampNeg) = (-1) → ((x3 ≤ x2 → Q (nI 0) h) ∧ (¬ x3 ≤ x2 → (((hA h 77 (x1).toNatClampNeg) ≤ x3 → Q (nI 0) h) ∧ (¬ (hA h 77 (x1).toNatClampNeg) ≤ x3 → Q (nI 1) h))))) ∧ ((hA h 76 (x1).toNatClampNeg) = (-1) → ((¬ x3 = (-1) → Q (nI 0) h) ∧ (x3 = (-1) → Q (nI 1) h))))) ∧ (¬ x2 < (hA h 77 (x1).toNatClampNeg) → Q (nI 0) h)))))) : CI l E d bc bs mX12_isPair [.inr (some (0, 12, 63)), .inl x1, .inl x2, .inl x3] h Q := by
  refine CI.of (by decide) rfl ?_
  show TI l E mX12_isPair d bc bs 0 [some (.inr (some (0, 12, 63))), some (.inl x1), some (.inl x2), some (.inl x3)] [] h Q
  refine z_iload_n (pc := 0) dX12_isPair_0 rfl rfl ?_
  refine z_if_lt (pc := 1) (tgt := 14) dX12_isPair_1 (by decide) (fun c1 => ?_) (fun c1 => ?_)
  · replace H := H.1 c1
    refine z_iconst (pc := 14) (v := (nI 0)) dX12_isPair_14 (by decide) ?_
    exact z_iret (pc := 15) dX12_isPair_15 rfl rfl ⟨_, rfl, H⟩
  · replace H := H.2 c1
    refine z_iload_n (pc := 4) dX12_isPair_4 rfl rfl ?_
    refine z_aload_n (pc := 5) dX12_isPair_5 rfl rfl ?_
    refine z_getk (pc := 6) dX12_isPair_6 fX12_54 rfl (s_63_18 S) ?_
    refine z_iload_n (pc := 9) dX12_isPair_9 rfl rfl ?_
    have c2 := H.1
    replace H := H.2
    refine z_iald (pc := 10) dX12_isPair_10 c2 ?_
    refine z_icmp_lt (pc := 11) (tgt := 16) dX12_isPair_11 (by decide) (fun c3 => ?_) (fun c3 => ?_)
    · replace H := H.1 c3
      refine z_aload_n (pc := 16) dX12_isPair_16 rfl rfl ?_
      refine z_getk (pc := 17) dX12_isPair_17 fX12_51 rfl (s_63_17 S) ?_
      refine z_iload_n (pc := 20) dX12_isPair_20 rfl rfl ?_
      refine z_iald (pc := 21) dX12_isPair_21 c2 ?_
      refine z_iconst (pc := 22) (v := (-1)) dX12_isPair_22 (by decide) ?_
      refine z_icmp_ne (pc := 23) (tgt := 39) dX12_isPair_23 (by decide) (fun c4 => ?_) (fun c4 => ?_)
      · replace H := H.1 c4
        refine z_iload_n (pc := 39) dX12_isPair_39 rfl rfl ?_
        refine z_iload_n (pc := 40) dX12_isPair_40 rfl rfl ?_
        refine z_icmp_ge (pc := 41) (tgt := 58) dX12_isPair_41 (by decide) (fun c5 => ?_) (fun c5 => ?_)
        · replace H := H.1 c5
          refine z_iconst (pc := 58) (v := (nI 0)) dX12_isPair_58 (by decide) ?_
          exact z_iret (pc := 59) dX12_isPair_59 rfl rfl ⟨_, rfl, H⟩
        · replace H := H.2 c5
          refine z_iload_n (pc := 44) dX12_isPair_44 rfl rfl ?_
          refine z_aload_n (pc := 45) dX12_isPair_45 rfl rfl ?_
          refine z_getk (pc := 46) dX12_isPair_46 fX12_54 rfl (s_63_18 S) ?_
          refine z_iload_n (pc := 49) dX12_isPair_49 rfl rfl ?_
          refine z_iald (pc := 50) dX12_isPair_50 c2 ?_
          refine z_icmp_ge (pc := 51) (tgt := 58) dX12_isPair_51 (by decide) (fun c6 => ?_) (fun c6 => ?_)
          · replace H := H.1 c6
            refine z_iconst (pc := 58) (v := (nI 0)) dX12_isPair_58 (by decide) ?_
            exact z_iret (pc := 59) dX12_isPair_59 rfl rfl ⟨_, rfl, H⟩
          · replace H := H.2 c6
            refine z_iconst (pc := 54) (v := (nI 1)) dX12_isPair_54 (by decide) ?_
            refine z_goto (pc := 55) (tgt := 59) dX12_isPair_55 (by decide) ?_
            exact z_iret (pc := 59) dX12_isPair_59 rfl rfl ⟨_, rfl, H⟩
      · replace H := H.2 c4
        refine z_iload_n (pc := 26) dX12_isPair_26 rfl rfl ?_
        refine z_iconst (pc := 27) (v := (-1)) dX12_isPair_27 (by decide) ?_
        refine z_icmp_ne (pc := 28) (tgt := 35) dX12_isPair_28 (by decide) (fun c7 => ?_) (fun c7 => ?_)
        · replace H := H.1 c7
          refine z_iconst (pc := 35) (v := (nI 0)) dX12_isPair_35 (by decide) ?_
          refine z_goto (pc := 36) (tgt := 59) dX12_isPair_36 (by decide) ?_
          exact z_iret (pc := 59) dX12_isPair_59 rfl rfl ⟨_, rfl, H⟩
        · replace H := H.2 c7
          refine z_iconst (pc := 31) (v := (nI 1)) dX12_isPair_31 (by decide) ?_
          refine z_goto (pc := 32) (tgt := 59) dX12_isPair_32 (by decide) ?_
          exact z_iret (pc := 59) dX12_isPair_59 rfl rfl ⟨_, rfl, H⟩
    · replace H := H.2 c3
      refine z_iconst (pc := 14) (v := (nI 0)) dX12_isPair_14 (by decide) ?_
      exact z_iret (pc := 15) dX12_isPair_15 rfl rfl ⟨_, rfl, H⟩

set_option maxRecDepth 20000 in
theorem bX12_fits_0 {l : Launch} {E : eE} {d bc bs : Nat} {h : aH} {Q : Int32 → aH → Prop} {x1 : Int32} {x2 : Int32} {x3 : Int32} {x4 : Int32} {x5 : Int32} (S : SH h) (H : (CI l E d 0 0 mX12_isSeries [.inr (some (0, 12, 63)), .inl x1] h (fun v1 h1 => SH h1 ∧ ((v1 = 0 → Q (-1) h1) ∧ (¬ v1 = 0 → (CI l E d 0 0 mX12_isWeek [.inl x2] h1 (fun v3 h3 => SH h3 ∧ ((v3 = 0 → Q (-1) h3) ∧ (¬ v3 = 0 → (CI l E d 0 0 mX12_isKnown [.inr (some (0, 12, 63)), .inl x5] h3 (fun v5 h5 => SH h5 ∧ ((v5 = 0 → Q (-1) h5) ∧ (¬ v5 = 0 → (CI l E d 0 0 mX12_isPair [.inr (some (0, 12, 63)), .inl x1, .inl x3, .inl x4] h5 (fun v7 h7 => SH h7 ∧ ((¬ v7 = 0 → (CV l E d 0 0 mX12_takesWeek [.inr (some (0, 12, 63)), .inl x2, .inl x5] h7 (fun h9 => SH h9 ∧ (CV l E d 0 0 mX12_comeAll [.inr (some (0, 12, 63)), .inl x1] h9 (fun h10 => SH h10 ∧ (CV l E d 0 0 mX12_asksFree [.inr (some (0, 12, 63)), .inl x1] h10 (fun h11 => SH h11 ∧ (CI l E d 0 0 mX12_fitsBy [.inr (some (0, 12, 63)), .inl x1, .inl x3, .inl x4] h11 (fun v12 h12 => SH h12 ∧ ((v12 = 0 → Q (nI 0) h12) ∧ (¬ v12 = 0 → Q (nI 1) h12))))))))))) ∧ (v7 = 0 → Q (-1) h7))))))))))))))))) : CI l E (d + 1) bc bs mX12_fits [.inr (some (0, 12, 63)), .inl x1, .inl x2, .inl x3, .inl x4, .inl x5] h Q := by
  refine CI.of (by decide) rfl ?_
  show TI l E mX12_fits (d + 1) bc bs 0 [some (.inr (some (0, 12, 63))), some (.inl x1), some (.inl x2), some (.inl x3), some (.inl x4), some (.inl x5)] [] h Q
  refine z_aload_n (pc := 0) dX12_fits_0 rfl rfl ?_
  refine z_iload_n (pc := 1) dX12_fits_1 rfl rfl ?_
  refine y_VI (pc := 2) (bc := bc) (bs := bs) (mc := 0) (ms := 0) (As := [.inl x1]) (rest := []) dX12_fits_2 kX12_isSeries lX12_146 ⟨_, _, rfl⟩ rfl rfl (H.use (fun v1 h1 H => ?_))
  have S1 := H.1
  replace H := H.2
  refine z_if_eq (pc := 5) (tgt := 35) dX12_fits_5 (by decide) (fun c2 => ?_) (fun c2 => ?_)
  · replace H := H.1 c2
    refine z_iconst (pc := 35) (v := (-1)) dX12_fits_35 (by decide) ?_
    exact z_iret (pc := 36) dX12_fits_36 rfl rfl ⟨_, rfl, H⟩
  · replace H := H.2 c2
    refine z_iload_n (pc := 8) dX12_fits_8 rfl rfl ?_
    refine y_SI (pc := 9) (bc := bc) (bs := bs) (mc := 0) (ms := 0) (As := [.inl x2]) (rest := []) dX12_fits_9 kX12_isWeek lX12_149 rfl rfl (H.use (fun v3 h3 H => ?_))
    have S3 := H.1
    replace H := H.2
    refine z_if_eq (pc := 12) (tgt := 35) dX12_fits_12 (by decide) (fun c4 => ?_) (fun c4 => ?_)
    · replace H := H.1 c4
      refine z_iconst (pc := 35) (v := (-1)) dX12_fits_35 (by decide) ?_
      exact z_iret (pc := 36) dX12_fits_36 rfl rfl ⟨_, rfl, H⟩
    · replace H := H.2 c4
      refine z_aload_n (pc := 15) dX12_fits_15 rfl rfl ?_
      refine z_iload (pc := 16) dX12_fits_16 rfl ?_
      refine y_VI (pc := 18) (bc := bc) (bs := bs) (mc := 0) (ms := 0) (As := [.inl x5]) (rest := []) dX12_fits_18 kX12_isKnown lX12_152 ⟨_, _, rfl⟩ rfl rfl (H.use (fun v5 h5 H => ?_))
      have S5 := H.1
      replace H := H.2
      refine z_if_eq (pc := 21) (tgt := 35) dX12_fits_21 (by decide) (fun c6 => ?_) (fun c6 => ?_)
      · replace H := H.1 c6
        refine z_iconst (pc := 35) (v := (-1)) dX12_fits_35 (by decide) ?_
        exact z_iret (pc := 36) dX12_fits_36 rfl rfl ⟨_, rfl, H⟩
      · replace H := H.2 c6
        refine z_aload_n (pc := 24) dX12_fits_24 rfl rfl ?_
        refine z_iload_n (pc := 25) dX12_fits_25 rfl rfl ?_
        refine z_iload_n (pc := 26) dX12_fits_26 rfl rfl ?_
        refine z_iload (pc := 27) dX12_fits_27 rfl ?_
        refine y_VI (pc := 29) (bc := bc) (bs := bs) (mc := 0) (ms := 0) (As := [.inl x1, .inl x3, .inl x4]) (rest := []) dX12_fits_29 kX12_isPair lX12_211 ⟨_, _, rfl⟩ rfl rfl (H.use (fun v7 h7 H => ?_))
        have S7 := H.1
        replace H := H.2
        refine z_if_ne (pc := 32) (tgt := 37) dX12_fits_32 (by decide) (fun c8 => ?_) (fun c8 => ?_)
        · replace H := H.1 c8
          refine z_aload_n (pc := 37) dX12_fits_37 rfl rfl ?_
          refine z_iload_n (pc := 38) dX12_fits_38 rfl rfl ?_
          refine z_iload (pc := 39) dX12_fits_39 rfl ?_
          refine y_VV (pc := 41) (bc := bc) (bs := bs) (mc := 0) (ms := 0) (As := [.inl x2, .inl x5]) (rest := []) dX12_fits_41 kX12_takesWeek lX12_214 ⟨_, _, rfl⟩ rfl rfl (H.use (fun h9 H => ?_))
          have S9 := H.1
          replace H := H.2
          refine z_aload_n (pc := 44) dX12_fits_44 rfl rfl ?_
          refine z_iload_n (pc := 45) dX12_fits_45 rfl rfl ?_
          refine y_VV (pc := 46) (bc := bc) (bs := bs) (mc := 0) (ms := 0) (As := [.inl x1]) (rest := []) dX12_fits_46 kX12_comeAll lX12_218 ⟨_, _, rfl⟩ rfl rfl (H.use (fun h10 H => ?_))
          have S10 := H.1
          replace H := H.2
          refine z_aload_n (pc := 49) dX12_fits_49 rfl rfl ?_
          refine z_iload_n (pc := 50) dX12_fits_50 rfl rfl ?_
          refine y_VV (pc := 51) (bc := bc) (bs := bs) (mc := 0) (ms := 0) (As := [.inl x1]) (rest := []) dX12_fits_51 kX12_asksFree lX12_201 ⟨_, _, rfl⟩ rfl rfl (H.use (fun h11 H => ?_))
          have S11 := H.1
          replace H := H.2
          refine z_aload_n (pc := 54) dX12_fits_54 rfl rfl ?_
          refine z_iload_n (pc := 55) dX12_fits_55 rfl rfl ?_
          refine z_iload_n (pc := 56) dX12_fits_56 rfl rfl ?_
          refine z_iload (pc := 57) dX12_fits_57 rfl ?_
          refine y_VI (pc := 59) (bc := bc) (bs := bs) (mc := 0) (ms := 0) (As := [.inl x1, .inl x3, .inl x4]) (rest := []) dX12_fits_59 kX12_fitsBy lX12_221 ⟨_, _, rfl⟩ rfl rfl (H.use (fun v12 h12 H => ?_))
          have S12 := H.1
          replace H := H.2
          refine z_if_eq (pc := 62) (tgt := 69) dX12_fits_62 (by decide) (fun c13 => ?_) (fun c13 => ?_)
          · replace H := H.1 c13
            refine z_iconst (pc := 69) (v := (nI 0)) dX12_fits_69 (by decide) ?_
            exact z_iret (pc := 70) dX12_fits_70 rfl rfl ⟨_, rfl, H⟩
          · replace H := H.2 c13
            refine z_iconst (pc := 65) (v := (nI 1)) dX12_fits_65 (by decide) ?_
            refine z_goto (pc := 66) (tgt := 70) dX12_fits_66 (by decide) ?_
            exact z_iret (pc := 70) dX12_fits_70 rfl rfl ⟨_, rfl, H⟩
        · replace H := H.2 c8
          refine z_iconst (pc := 35) (v := (-1)) dX12_fits_35 (by decide) ?_
          exact z_iret (pc := 36) dX12_fits_36 rfl rfl ⟨_, rfl, H⟩

abbrev LX12_lists_9 (l : Launch) (E : eE) (d bc bs : Nat) (x1 : Int32) (x2 : Int32) (h : aH) (Q : aH → Prop) : Prop := TV l E mX12_lists d bc bs 9 [some (.inr (some (0, 12, 63))), some (.inl x1), some (.inl x2), none, none] [] h Q

abbrev LX12_lists_37 (l : Launch) (E : eE) (d bc bs : Nat) (x1 : Int32) (x2 : Int32) (x3 : Int32) (h : aH) (Q : aH → Prop) : Prop := TV l E mX12_lists d bc bs 37 [some (.inr (some (0, 12, 63))), some (.inl x1), some (.inl x2), some (.inl x3), none] [] h Q

set_option maxRecDepth 20000 in
theorem bX12_lists_0 {l : Launch} {E : eE} {d bc bs : Nat} {h : aH} {Q : aH → Prop} {x1 : Int32} (S : SH h) (H : (vp_in x1 4 ∧ LX12_lists_9 l E d bc bs x1 (nI 0) (stA h 87 (x1).toNatClampNeg (nI 0)) Q)) : CV l E d bc bs mX12_lists [.inr (some (0, 12, 63)), .inl x1] h Q := by
  refine CV.of (by decide) rfl ?_
  show TV l E mX12_lists d bc bs 0 [some (.inr (some (0, 12, 63))), some (.inl x1), none, none, none] [] h Q
  refine z_aload_n (pc := 0) dX12_lists_0 rfl rfl ?_
  refine z_getk (pc := 1) dX12_lists_1 fX12_84 rfl (s_63_30 S) ?_
  refine z_iload_n (pc := 4) dX12_lists_4 rfl rfl ?_
  refine z_iconst (pc := 5) (v := (nI 0)) dX12_lists_5 (by decide) ?_
  have c1 := H.1
  replace H := H.2
  refine z_iast (pc := 6) dX12_lists_6 c1 ?_
  refine z_iconst (pc := 7) (v := (nI 0)) dX12_lists_7 (by decide) ?_
  refine z_istore_n (pc := 8) (ls' := [some (.inr (some (0, 12, 63))), some (.inl x1), some (.inl (nI 0)), none, none]) dX12_lists_8 rfl rfl rfl ?_
  exact H

set_option maxRecDepth 20000 in
theorem bX12_lists_9 {l : Launch} {E : eE} {d bc bs : Nat} {h : aH} {Q : aH → Prop} {x1 : Int32} {x2 : Int32} (S : SH h) (H : (vp_in x1 4 ∧ (((hA h 77 (x1).toNatClampNeg) ≤ x2 → Q h) ∧ (¬ (hA h 77 (x1).toNatClampNeg) ≤ x2 → ((¬ (hA h 76 (x1).toNatClampNeg) = (-1) → LX12_lists_37 l E d bc bs x1 x2 (x2 + (nI 1)) h Q) ∧ ((hA h 76 (x1).toNatClampNeg) = (-1) → LX12_lists_37 l E d bc bs x1 x2 (-1) h Q)))))) : LX12_lists_9 l E d bc bs x1 x2 h Q := by
  refine z_iload_n (pc := 9) dX12_lists_9 rfl rfl ?_
  refine z_aload_n (pc := 10) dX12_lists_10 rfl rfl ?_
  refine z_getk (pc := 11) dX12_lists_11 fX12_54 rfl (s_63_18 S) ?_
  refine z_iload_n (pc := 14) dX12_lists_14 rfl rfl ?_
  have c1 := H.1
  replace H := H.2
  refine z_iald (pc := 15) dX12_lists_15 c1 ?_
  refine z_icmp_ge (pc := 16) (tgt := 111) dX12_lists_16 (by decide) (fun c2 => ?_) (fun c2 => ?_)
  · replace H := H.1 c2
    exact z_ret (pc := 111) dX12_lists_111 rfl ⟨rfl, H⟩
  · replace H := H.2 c2
    refine z_aload_n (pc := 19) dX12_lists_19 rfl rfl ?_
    refine z_getk (pc := 20) dX12_lists_20 fX12_51 rfl (s_63_17 S) ?_
    refine z_iload_n (pc := 23) dX12_lists_23 rfl rfl ?_
    refine z_iald (pc := 24) dX12_lists_24 c1 ?_
    refine z_iconst (pc := 25) (v := (-1)) dX12_lists_25 (by decide) ?_
    refine z_icmp_ne (pc := 26) (tgt := 33) dX12_lists_26 (by decide) (fun c3 => ?_) (fun c3 => ?_)
    · replace H := H.1 c3
      refine z_iload_n (pc := 33) dX12_lists_33 rfl rfl ?_
      refine z_iconst (pc := 34) (v := (nI 1)) dX12_lists_34 (by decide) ?_
      refine z_iadd (pc := 35) dX12_lists_35 ?_
      refine z_istore_n (pc := 36) (ls' := [some (.inr (some (0, 12, 63))), some (.inl x1), some (.inl x2), some (.inl (x2 + (nI 1))), none]) dX12_lists_36 rfl rfl rfl ?_
      exact H
    · replace H := H.2 c3
      refine z_iconst (pc := 29) (v := (-1)) dX12_lists_29 (by decide) ?_
      refine z_goto (pc := 30) (tgt := 36) dX12_lists_30 (by decide) ?_
      refine z_istore_n (pc := 36) (ls' := [some (.inr (some (0, 12, 63))), some (.inl x1), some (.inl x2), some (.inl (-1)), none]) dX12_lists_36 rfl rfl rfl ?_
      exact H

set_option maxRecDepth 20000 in
theorem bX12_lists_37 {l : Launch} {E : eE} {d bc bs : Nat} {h : aH} {Q : aH → Prop} {x1 : Int32} {x2 : Int32} {x3 : Int32} (S : SH h) (H : (vp_in x1 4 ∧ (((hA h 77 (x1).toNatClampNeg) ≤ x3 → LX12_lists_9 l E d bc bs x1 (x2 + (nI 1)) h Q) ∧ (¬ (hA h 77 (x1).toNatClampNeg) ≤ x3 → (vp_in (((nI 15) * x1) + (hA h 87 (x1).toNatClampNeg)) 60 ∧ ((¬ (hA h 76 (x1).toNatClampNeg) = (-1) → LX12_lists_37 l E d bc bs x1 x2 (x3 + (nI 1)) (stA (stA (stA h 85 ((((nI 15) * x1) + (hA h 87 (x1).toNatClampNeg))).toNatClampNeg x2) 86 ((((nI 15) * x1) + (hA h 87 (x1).toNatClampNeg))).toNatClampNeg x3) 87 (x1).toNatClampNeg ((hA h 87 (x1).toNatClampNeg) + (nI 1))) Q) ∧ ((hA h 76 (x1).toNatClampNeg) = (-1) → LX12_lists_9 l E d bc bs x1 (x2 + (nI 1)) (stA (stA (stA h 85 ((((nI 15) * x1) + (hA h 87 (x1).toNatClampNeg))).toNatClampNeg x2) 86 ((((nI 15) * x1) + (hA h 87 (x1).toNatClampNeg))).toNatClampNeg x3) 87 (x1).toNatClampNeg ((hA h 87 (x1).toNatClampNeg) + (nI 1))) Q))))))) : LX12_lists_37 l E d bc bs x1 x2 x3 h Q := by
  refine z_iload_n (pc := 37) dX12_lists_37 rfl rfl ?_
  refine z_aload_n (pc := 38) dX12_lists_38 rfl rfl ?_
  refine z_getk (pc := 39) dX12_lists_39 fX12_54 rfl (s_63_18 S) ?_
  refine z_iload_n (pc := 42) dX12_lists_42 rfl rfl ?_
  have c1 := H.1
  replace H := H.2
  refine z_iald (pc := 43) dX12_lists_43 c1 ?_
  refine z_icmp_ge (pc := 44) (tgt := 105) dX12_lists_44 (by decide) (fun c2 => ?_) (fun c2 => ?_)
  · replace H := H.1 c2
    refine z_iinc (pc := 105) (v := (x2 + (nI 1))) (ls' := [some (.inr (some (0, 12, 63))), some (.inl x1), some (.inl (x2 + (nI 1))), some (.inl x3), none]) dX12_lists_105 rfl (by rw [show Int32.ofInt (1) = (nI 1) by decide]) rfl ?_
    refine z_goto (pc := 108) (tgt := 9) dX12_lists_108 (by decide) ?_
    exact z_drop (ls' := [some (.inr (some (0, 12, 63))), some (.inl x1), some (.inl (x2 + (nI 1))), none, none]) (by simp [dropL]) H
  · replace H := H.2 c2
    refine z_bipush (pc := 47) (v := (nI 15)) dX12_lists_47 (by decide) ?_
    refine z_iload_n (pc := 49) dX12_lists_49 rfl rfl ?_
    refine z_imul (pc := 50) dX12_lists_50 ?_
    refine z_aload_n (pc := 51) dX12_lists_51 rfl rfl ?_
    refine z_getk (pc := 52) dX12_lists_52 fX12_84 rfl (s_63_30 S) ?_
    refine z_iload_n (pc := 55) dX12_lists_55 rfl rfl ?_
    refine z_iald (pc := 56) dX12_lists_56 c1 ?_
    refine z_iadd (pc := 57) dX12_lists_57 ?_
    refine z_istore (pc := 58) (ls' := [some (.inr (some (0, 12, 63))), some (.inl x1), some (.inl x2), some (.inl x3), some (.inl (((nI 15) * x1) + (hA h 87 (x1).toNatClampNeg)))]) dX12_lists_58 rfl rfl ?_
    refine z_aload_n (pc := 60) dX12_lists_60 rfl rfl ?_
    refine z_getk (pc := 61) dX12_lists_61 fX12_78 rfl (s_63_28 S) ?_
    refine z_iload (pc := 64) dX12_lists_64 rfl ?_
    refine z_iload_n (pc := 66) dX12_lists_66 rfl rfl ?_
    have c3 := H.1
    replace H := H.2
    refine z_iast (pc := 67) dX12_lists_67 c3 ?_
    refine z_aload_n (pc := 68) dX12_lists_68 rfl rfl ?_
    refine z_getk (pc := 69) dX12_lists_69 fX12_81 rfl (s_63_29 S) ?_
    refine z_iload (pc := 72) dX12_lists_72 rfl ?_
    refine z_iload_n (pc := 74) dX12_lists_74 rfl rfl ?_
    refine z_iast (pc := 75) dX12_lists_75 c3 ?_
    refine z_aload_n (pc := 76) dX12_lists_76 rfl rfl ?_
    refine z_getk (pc := 77) dX12_lists_77 fX12_84 rfl (s_63_30 S) ?_
    refine z_iload_n (pc := 80) dX12_lists_80 rfl rfl ?_
    refine z_dup2 (pc := 81) dX12_lists_81 ?_
    refine z_iald (pc := 82) dX12_lists_82 c1 ?_
    refine z_iconst (pc := 83) (v := (nI 1)) dX12_lists_83 (by decide) ?_
    refine z_iadd (pc := 84) dX12_lists_84 ?_
    refine z_iast (pc := 85) dX12_lists_85 c1 ?_
    refine z_aload_n (pc := 86) dX12_lists_86 rfl rfl ?_
    refine z_getk (pc := 87) dX12_lists_87 fX12_51 rfl (s_63_17 S) ?_
    refine z_iload_n (pc := 90) dX12_lists_90 rfl rfl ?_
    refine z_iald (pc := 91) dX12_lists_91 c1 ?_
    refine z_iconst (pc := 92) (v := (-1)) dX12_lists_92 (by decide) ?_
    refine z_icmp_ne (pc := 93) (tgt := 99) dX12_lists_93 (by decide) (fun c4 => ?_) (fun c4 => ?_)
    · replace H := H.1 c4
      refine z_iinc (pc := 99) (v := (x3 + (nI 1))) (ls' := [some (.inr (some (0, 12, 63))), some (.inl x1), some (.inl x2), some (.inl (x3 + (nI 1))), some (.inl (((nI 15) * x1) + (hA h 87 (x1).toNatClampNeg)))]) dX12_lists_99 rfl (by rw [show Int32.ofInt (1) = (nI 1) by decide]) rfl ?_
      refine z_goto (pc := 102) (tgt := 37) dX12_lists_102 (by decide) ?_
      exact z_drop (ls' := [some (.inr (some (0, 12, 63))), some (.inl x1), some (.inl x2), some (.inl (x3 + (nI 1))), none]) (by simp [dropL]) H
    · replace H := H.2 c4
      refine z_goto (pc := 96) (tgt := 105) dX12_lists_96 (by decide) ?_
      refine z_iinc (pc := 105) (v := (x2 + (nI 1))) (ls' := [some (.inr (some (0, 12, 63))), some (.inl x1), some (.inl (x2 + (nI 1))), some (.inl x3), some (.inl (((nI 15) * x1) + (hA h 87 (x1).toNatClampNeg)))]) dX12_lists_105 rfl (by rw [show Int32.ofInt (1) = (nI 1) by decide]) rfl ?_
      refine z_goto (pc := 108) (tgt := 9) dX12_lists_108 (by decide) ?_
      exact z_drop (ls' := [some (.inr (some (0, 12, 63))), some (.inl x1), some (.inl (x2 + (nI 1))), none, none]) (by simp [dropL]) H

abbrev LX12_sorts_2 (l : Launch) (E : eE) (d bc bs : Nat) (x1 : Int32) (h : aH) (Q : aH → Prop) : Prop := TV l E mX12_sorts d bc bs 2 [some (.inr (some (0, 12, 63))), some (.inl x1), none] [] h Q

abbrev LX12_sorts_12 (l : Launch) (E : eE) (d bc bs : Nat) (x1 : Int32) (x2 : Int32) (h : aH) (Q : aH → Prop) : Prop := TV l E mX12_sorts d bc bs 12 [some (.inr (some (0, 12, 63))), some (.inl x1), some (.inl x2)] [] h Q

set_option maxRecDepth 20000 in
theorem bX12_sorts_0 {l : Launch} {E : eE} {d bc bs : Nat} {h : aH} {Q : aH → Prop}  (S : SH h) (H : LX12_sorts_2 l E d bc bs (nI 0) h Q) : CV l E d bc bs mX12_sorts [.inr (some (0, 12, 63))] h Q := by
  refine CV.of (by decide) rfl ?_
  show TV l E mX12_sorts d bc bs 0 [some (.inr (some (0, 12, 63))), none, none] [] h Q
  refine z_iconst (pc := 0) (v := (nI 0)) dX12_sorts_0 (by decide) ?_
  refine z_istore_n (pc := 1) (ls' := [some (.inr (some (0, 12, 63))), some (.inl (nI 0)), none]) dX12_sorts_1 rfl rfl rfl ?_
  exact H

set_option maxRecDepth 20000 in
theorem bX12_sorts_2 {l : Launch} {E : eE} {d bc bs : Nat} {h : aH} {Q : aH → Prop} {x1 : Int32} (S : SH h) (H : (((hI h 63 3) ≤ x1 → Q h) ∧ (¬ (hI h 63 3) ≤ x1 → LX12_sorts_12 l E d bc bs x1 x1 h Q))) : LX12_sorts_2 l E d bc bs x1 h Q := by
  refine z_iload_n (pc := 2) dX12_sorts_2 rfl rfl ?_
  refine z_aload_n (pc := 3) dX12_sorts_3 rfl rfl ?_
  refine z_geti (pc := 4) dX12_sorts_4 fX12_123 rfl ?_
  refine z_icmp_ge (pc := 7) (tgt := 71) dX12_sorts_7 (by decide) (fun c1 => ?_) (fun c1 => ?_)
  · replace H := H.1 c1
    exact z_ret (pc := 71) dX12_sorts_71 rfl ⟨rfl, H⟩
  · replace H := H.2 c1
    refine z_iload_n (pc := 10) dX12_sorts_10 rfl rfl ?_
    refine z_istore_n (pc := 11) (ls' := [some (.inr (some (0, 12, 63))), some (.inl x1), some (.inl x1)]) dX12_sorts_11 rfl rfl rfl ?_
    exact H

set_option maxRecDepth 20000 in
theorem bX12_sorts_12 {l : Launch} {E : eE} {d bc bs : Nat} {h : aH} {Q : aH → Prop} {x1 : Int32} {x2 : Int32} (S : SH h) (H : ((x2 ≤ 0 → (vp_in x1 12 ∧ (vp_in x2 12 ∧ LX12_sorts_2 l E d bc bs (x1 + (nI 1)) (stA h 89 (x2).toNatClampNeg (hA h 88 (x1).toNatClampNeg)) Q))) ∧ (¬ x2 ≤ 0 → (vp_in (x2 - (nI 1)) 12 ∧ (vp_in x1 12 ∧ (((hA h 88 (x1).toNatClampNeg) ≤ (hA h 89 ((x2 - (nI 1))).toNatClampNeg) → (vp_in x2 12 ∧ LX12_sorts_2 l E d bc bs (x1 + (nI 1)) (stA h 89 (x2).toNatClampNeg (hA h 88 (x1).toNatClampNeg)) Q)) ∧ (¬ (hA h 88 (x1).toNatClampNeg) ≤ (hA h 89 ((x2 - (nI 1))).toNatClampNeg) → (vp_in x2 12 ∧ LX12_sorts_12 l E d bc bs x1 (x2 + (-1)) (stA h 89 (x2).toNatClampNeg (hA h 89 ((x2 - (nI 1))).toNatClampNeg)) Q)))))))) : LX12_sorts_12 l E d bc bs x1 x2 h Q := by
  refine z_iload_n (pc := 12) dX12_sorts_12 rfl rfl ?_
  refine z_if_le (pc := 13) (tgt := 53) dX12_sorts_13 (by decide) (fun c1 => ?_) (fun c1 => ?_)
  · replace H := H.1 c1
    refine z_aload_n (pc := 53) dX12_sorts_53 rfl rfl ?_
    refine z_getk (pc := 54) dX12_sorts_54 fX12_90 rfl (s_63_32 S) ?_
    refine z_iload_n (pc := 57) dX12_sorts_57 rfl rfl ?_
    refine z_aload_n (pc := 58) dX12_sorts_58 rfl rfl ?_
    refine z_getk (pc := 59) dX12_sorts_59 fX12_87 rfl (s_63_31 S) ?_
    refine z_iload_n (pc := 62) dX12_sorts_62 rfl rfl ?_
    have c2 := H.1
    replace H := H.2
    refine z_iald (pc := 63) dX12_sorts_63 c2 ?_
    have c3 := H.1
    replace H := H.2
    refine z_iast (pc := 64) dX12_sorts_64 c3 ?_
    refine z_iinc (pc := 65) (v := (x1 + (nI 1))) (ls' := [some (.inr (some (0, 12, 63))), some (.inl (x1 + (nI 1))), some (.inl x2)]) dX12_sorts_65 rfl (by rw [show Int32.ofInt (1) = (nI 1) by decide]) rfl ?_
    refine z_goto (pc := 68) (tgt := 2) dX12_sorts_68 (by decide) ?_
    exact z_drop (ls' := [some (.inr (some (0, 12, 63))), some (.inl (x1 + (nI 1))), none]) (by simp [dropL]) H
  · replace H := H.2 c1
    refine z_aload_n (pc := 16) dX12_sorts_16 rfl rfl ?_
    refine z_getk (pc := 17) dX12_sorts_17 fX12_90 rfl (s_63_32 S) ?_
    refine z_iload_n (pc := 20) dX12_sorts_20 rfl rfl ?_
    refine z_iconst (pc := 21) (v := (nI 1)) dX12_sorts_21 (by decide) ?_
    refine z_isub (pc := 22) dX12_sorts_22 ?_
    have c4 := H.1
    replace H := H.2
    refine z_iald (pc := 23) dX12_sorts_23 c4 ?_
    refine z_aload_n (pc := 24) dX12_sorts_24 rfl rfl ?_
    refine z_getk (pc := 25) dX12_sorts_25 fX12_87 rfl (s_63_31 S) ?_
    refine z_iload_n (pc := 28) dX12_sorts_28 rfl rfl ?_
    have c5 := H.1
    replace H := H.2
    refine z_iald (pc := 29) dX12_sorts_29 c5 ?_
    refine z_icmp_ge (pc := 30) (tgt := 53) dX12_sorts_30 (by decide) (fun c6 => ?_) (fun c6 => ?_)
    · replace H := H.1 c6
      refine z_aload_n (pc := 53) dX12_sorts_53 rfl rfl ?_
      refine z_getk (pc := 54) dX12_sorts_54 fX12_90 rfl (s_63_32 S) ?_
      refine z_iload_n (pc := 57) dX12_sorts_57 rfl rfl ?_
      refine z_aload_n (pc := 58) dX12_sorts_58 rfl rfl ?_
      refine z_getk (pc := 59) dX12_sorts_59 fX12_87 rfl (s_63_31 S) ?_
      refine z_iload_n (pc := 62) dX12_sorts_62 rfl rfl ?_
      refine z_iald (pc := 63) dX12_sorts_63 c5 ?_
      have c7 := H.1
      replace H := H.2
      refine z_iast (pc := 64) dX12_sorts_64 c7 ?_
      refine z_iinc (pc := 65) (v := (x1 + (nI 1))) (ls' := [some (.inr (some (0, 12, 63))), some (.inl (x1 + (nI 1))), some (.inl x2)]) dX12_sorts_65 rfl (by rw [show Int32.ofInt (1) = (nI 1) by decide]) rfl ?_
      refine z_goto (pc := 68) (tgt := 2) dX12_sorts_68 (by decide) ?_
      exact z_drop (ls' := [some (.inr (some (0, 12, 63))), some (.inl (x1 + (nI 1))), none]) (by simp [dropL]) H
    · replace H := H.2 c6
      refine z_aload_n (pc := 33) dX12_sorts_33 rfl rfl ?_
      refine z_getk (pc := 34) dX12_sorts_34 fX12_90 rfl (s_63_32 S) ?_
      refine z_iload_n (pc := 37) dX12_sorts_37 rfl rfl ?_
      refine z_aload_n (pc := 38) dX12_sorts_38 rfl rfl ?_
      refine z_getk (pc := 39) dX12_sorts_39 fX12_90 rfl (s_63_32 S) ?_
      refine z_iload_n (pc := 42) dX12_sorts_42 rfl rfl ?_
      refine z_iconst (pc := 43) (v := (nI 1)) dX12_sorts_43 (by decide) ?_
      refine z_isub (pc := 44) dX12_sorts_44 ?_
      refine z_iald (pc := 45) dX12_sorts_45 c4 ?_
      have c8 := H.1
      replace H := H.2
      refine z_iast (pc := 46) dX12_sorts_46 c8 ?_
      refine z_iinc (pc := 47) (v := (x2 + (-1))) (ls' := [some (.inr (some (0, 12, 63))), some (.inl x1), some (.inl (x2 + (-1)))]) dX12_sorts_47 rfl (by rw [show Int32.ofInt (-1) = (-1) by decide]) rfl ?_
      refine z_goto (pc := 50) (tgt := 12) dX12_sorts_50 (by decide) ?_
      exact H

abbrev LX12_isLess_2 (l : Launch) (E : eE) (d bc bs : Nat) (x1 : Int32) (h : aH) (Q : Int32 → aH → Prop) : Prop := TI l E mX12_isLess d bc bs 2 [some (.inr (some (0, 12, 63))), some (.inl x1)] [] h Q

set_option maxRecDepth 20000 in
theorem bX12_isLess_0 {l : Launch} {E : eE} {d bc bs : Nat} {h : aH} {Q : Int32 → aH → Prop}  (S : SH h) (H : LX12_isLess_2 l E d bc bs (nI 0) h Q) : CI l E d bc bs mX12_isLess [.inr (some (0, 12, 63))] h Q := by
  refine CI.of (by decide) rfl ?_
  show TI l E mX12_isLess d bc bs 0 [some (.inr (some (0, 12, 63))), none] [] h Q
  refine z_iconst (pc := 0) (v := (nI 0)) dX12_isLess_0 (by decide) ?_
  refine z_istore_n (pc := 1) (ls' := [some (.inr (some (0, 12, 63))), some (.inl (nI 0))]) dX12_isLess_1 rfl rfl rfl ?_
  exact H

set_option maxRecDepth 20000 in
theorem bX12_isLess_2 {l : Launch} {E : eE} {d bc bs : Nat} {h : aH} {Q : Int32 → aH → Prop} {x1 : Int32} (S : SH h) (H : (((hI h 63 3) ≤ x1 → Q (nI 0) h) ∧ (¬ (hI h 63 3) ≤ x1 → (vp_in x1 12 ∧ (((hA h 89 (x1).toNatClampNeg) = (hA h 90 (x1).toNatClampNeg) → LX12_isLess_2 l E d bc bs (x1 + (nI 1)) h Q) ∧ (¬ (hA h 89 (x1).toNatClampNeg) = (hA h 90 (x1).toNatClampNeg) → (((hA h 90 (x1).toNatClampNeg) ≤ (hA h 89 (x1).toNatClampNeg) → Q (nI 0) h) ∧ (¬ (hA h 90 (x1).toNatClampNeg) ≤ (hA h 89 (x1).toNatClampNeg) → Q (nI 1) h)))))))) : LX12_isLess_2 l E d bc bs x1 h Q := by
  refine z_iload_n (pc := 2) dX12_isLess_2 rfl rfl ?_
  refine z_aload_n (pc := 3) dX12_isLess_3 rfl rfl ?_
  refine z_geti (pc := 4) dX12_isLess_4 fX12_123 rfl ?_
  refine z_icmp_ge (pc := 7) (tgt := 52) dX12_isLess_7 (by decide) (fun c1 => ?_) (fun c1 => ?_)
  · replace H := H.1 c1
    refine z_iconst (pc := 52) (v := (nI 0)) dX12_isLess_52 (by decide) ?_
    exact z_iret (pc := 53) dX12_isLess_53 rfl rfl ⟨_, rfl, H⟩
  · replace H := H.2 c1
    refine z_aload_n (pc := 10) dX12_isLess_10 rfl rfl ?_
    refine z_getk (pc := 11) dX12_isLess_11 fX12_90 rfl (s_63_32 S) ?_
    refine z_iload_n (pc := 14) dX12_isLess_14 rfl rfl ?_
    have c2 := H.1
    replace H := H.2
    refine z_iald (pc := 15) dX12_isLess_15 c2 ?_
    refine z_aload_n (pc := 16) dX12_isLess_16 rfl rfl ?_
    refine z_getk (pc := 17) dX12_isLess_17 fX12_93 rfl (s_63_33 S) ?_
    refine z_iload_n (pc := 20) dX12_isLess_20 rfl rfl ?_
    refine z_iald (pc := 21) dX12_isLess_21 c2 ?_
    refine z_icmp_eq (pc := 22) (tgt := 46) dX12_isLess_22 (by decide) (fun c3 => ?_) (fun c3 => ?_)
    · replace H := H.1 c3
      refine z_iinc (pc := 46) (v := (x1 + (nI 1))) (ls' := [some (.inr (some (0, 12, 63))), some (.inl (x1 + (nI 1)))]) dX12_isLess_46 rfl (by rw [show Int32.ofInt (1) = (nI 1) by decide]) rfl ?_
      refine z_goto (pc := 49) (tgt := 2) dX12_isLess_49 (by decide) ?_
      exact H
    · replace H := H.2 c3
      refine z_aload_n (pc := 25) dX12_isLess_25 rfl rfl ?_
      refine z_getk (pc := 26) dX12_isLess_26 fX12_90 rfl (s_63_32 S) ?_
      refine z_iload_n (pc := 29) dX12_isLess_29 rfl rfl ?_
      refine z_iald (pc := 30) dX12_isLess_30 c2 ?_
      refine z_aload_n (pc := 31) dX12_isLess_31 rfl rfl ?_
      refine z_getk (pc := 32) dX12_isLess_32 fX12_93 rfl (s_63_33 S) ?_
      refine z_iload_n (pc := 35) dX12_isLess_35 rfl rfl ?_
      refine z_iald (pc := 36) dX12_isLess_36 c2 ?_
      refine z_icmp_ge (pc := 37) (tgt := 44) dX12_isLess_37 (by decide) (fun c4 => ?_) (fun c4 => ?_)
      · replace H := H.1 c4
        refine z_iconst (pc := 44) (v := (nI 0)) dX12_isLess_44 (by decide) ?_
        exact z_iret (pc := 45) dX12_isLess_45 rfl rfl ⟨_, rfl, H⟩
      · replace H := H.2 c4
        refine z_iconst (pc := 40) (v := (nI 1)) dX12_isLess_40 (by decide) ?_
        refine z_goto (pc := 41) (tgt := 45) dX12_isLess_41 (by decide) ?_
        exact z_iret (pc := 45) dX12_isLess_45 rfl rfl ⟨_, rfl, H⟩

abbrev LX12_isBest_2 (l : Launch) (E : eE) (d bc bs : Nat) (x1 : Int32) (h : aH) (Q : aH → Prop) : Prop := TV l E mX12_isBest d bc bs 2 [some (.inr (some (0, 12, 63))), some (.inl x1)] [] h Q

set_option maxRecDepth 20000 in
theorem bX12_isBest_0 {l : Launch} {E : eE} {d bc bs : Nat} {h : aH} {Q : aH → Prop}  (S : SH h) (H : LX12_isBest_2 l E d bc bs (nI 0) h Q) : CV l E d bc bs mX12_isBest [.inr (some (0, 12, 63))] h Q := by
  refine CV.of (by decide) rfl ?_
  show TV l E mX12_isBest d bc bs 0 [some (.inr (some (0, 12, 63))), none] [] h Q
  refine z_iconst (pc := 0) (v := (nI 0)) dX12_isBest_0 (by decide) ?_
  refine z_istore_n (pc := 1) (ls' := [some (.inr (some (0, 12, 63))), some (.inl (nI 0))]) dX12_isBest_1 rfl rfl rfl ?_
  exact H

set_option maxRecDepth 20000 in
theorem bX12_isBest_2 {l : Launch} {E : eE} {d bc bs : Nat} {h : aH} {Q : aH → Prop} {x1 : Int32} (S : SH h) (H : (((hI h 63 3) ≤ x1 → Q h) ∧ (¬ (hI h 63 3) ≤ x1 → (vp_in x1 12 ∧ LX12_isBest_2 l E d bc bs (x1 + (nI 1)) (stA h 90 (x1).toNatClampNeg (hA h 89 (x1).toNatClampNeg)) Q)))) : LX12_isBest_2 l E d bc bs x1 h Q := by
  refine z_iload_n (pc := 2) dX12_isBest_2 rfl rfl ?_
  refine z_aload_n (pc := 3) dX12_isBest_3 rfl rfl ?_
  refine z_geti (pc := 4) dX12_isBest_4 fX12_123 rfl ?_
  refine z_icmp_ge (pc := 7) (tgt := 28) dX12_isBest_7 (by decide) (fun c1 => ?_) (fun c1 => ?_)
  · replace H := H.1 c1
    exact z_ret (pc := 28) dX12_isBest_28 rfl ⟨rfl, H⟩
  · replace H := H.2 c1
    refine z_aload_n (pc := 10) dX12_isBest_10 rfl rfl ?_
    refine z_getk (pc := 11) dX12_isBest_11 fX12_93 rfl (s_63_33 S) ?_
    refine z_iload_n (pc := 14) dX12_isBest_14 rfl rfl ?_
    refine z_aload_n (pc := 15) dX12_isBest_15 rfl rfl ?_
    refine z_getk (pc := 16) dX12_isBest_16 fX12_90 rfl (s_63_32 S) ?_
    refine z_iload_n (pc := 19) dX12_isBest_19 rfl rfl ?_
    have c2 := H.1
    replace H := H.2
    refine z_iald (pc := 20) dX12_isBest_20 c2 ?_
    refine z_iast (pc := 21) dX12_isBest_21 c2 ?_
    refine z_iinc (pc := 22) (v := (x1 + (nI 1))) (ls' := [some (.inr (some (0, 12, 63))), some (.inl (x1 + (nI 1)))]) dX12_isBest_22 rfl (by rw [show Int32.ofInt (1) = (nI 1) by decide]) rfl ?_
    refine z_goto (pc := 25) (tgt := 2) dX12_isBest_25 (by decide) ?_
    exact H

abbrev LX12_priceOf_37 (l : Launch) (E : eE) (d bc bs : Nat) (x1 : Int32) (x2 : Int32) (x3 : Int32) (x4 : Int32) (x5 : Int32) (x6 : Int32) (h : aH) (Q : Int32 → aH → Prop) : Prop := TI l E mX12_priceOf d bc bs 37 [some (.inr (some (0, 12, 63))), some (.inl x1), some (.inl x2), some (.inl x3), some (.inl x4), some (.inl x5), some (.inl x6)] [] h Q

set_option maxRecDepth 20000 in
theorem bX12_priceOf_0 {l : Launch} {E : eE} {d bc bs : Nat} {h : aH} {Q : Int32 → aH → Prop} {x1 : Int32} {x2 : Int32} {x3 : Int32} {x4 : Int32} {x5 : Int32} (S : SH h) (H : ((¬ (x5 &&& (nI 1)) = (nI 1) → LX12_priceOf_37 l E (d + 1) bc bs x1 x2 x3 x4 x5 (nI 0) h Q) ∧ ((x5 &&& (nI 1)) = (nI 1) → (CI l E d 0 0 mX12_slotOf [.inr (some (0, 12, 63)), .inl x2, .inl x3] h (fun v2 h2 => SH h2 ∧ (vp_in x2 4 ∧ (CI l E d 0 0 mX12_costs [.inr (some (0, 12, 63)), .inl x1, .inl v2, .inl (hA h2 74 (x2).toNatClampNeg), .inl (hI h2 63 23)] h2 (fun v4 h4 => SH h4 ∧ LX12_priceOf_37 l E (d + 1) bc bs x1 x2 x3 x4 x5 ((nI 0) + v4) h4 Q)))))))) : CI l E (d + 1) bc bs mX12_priceOf [.inr (some (0, 12, 63)), .inl x1, .inl x2, .inl x3, .inl x4, .inl x5] h Q := by
  refine CI.of (by decide) rfl ?_
  show TI l E mX12_priceOf (d + 1) bc bs 0 [some (.inr (some (0, 12, 63))), some (.inl x1), some (.inl x2), some (.inl x3), some (.inl x4), some (.inl x5), none] [] h Q
  refine z_iconst (pc := 0) (v := (nI 0)) dX12_priceOf_0 (by decide) ?_
  refine z_istore (pc := 1) (ls' := [some (.inr (some (0, 12, 63))), some (.inl x1), some (.inl x2), some (.inl x3), some (.inl x4), some (.inl x5), some (.inl (nI 0))]) dX12_priceOf_1 rfl rfl ?_
  refine z_iload (pc := 3) dX12_priceOf_3 rfl ?_
  refine z_iconst (pc := 5) (v := (nI 1)) dX12_priceOf_5 (by decide) ?_
  refine z_iand (pc := 6) dX12_priceOf_6 ?_
  refine z_iconst (pc := 7) (v := (nI 1)) dX12_priceOf_7 (by decide) ?_
  refine z_icmp_ne (pc := 8) (tgt := 37) dX12_priceOf_8 (by decide) (fun c1 => ?_) (fun c1 => ?_)
  · replace H := H.1 c1
    exact H
  · replace H := H.2 c1
    refine z_iload (pc := 11) dX12_priceOf_11 rfl ?_
    refine z_aload_n (pc := 13) dX12_priceOf_13 rfl rfl ?_
    refine z_iload_n (pc := 14) dX12_priceOf_14 rfl rfl ?_
    refine z_aload_n (pc := 15) dX12_priceOf_15 rfl rfl ?_
    refine z_iload_n (pc := 16) dX12_priceOf_16 rfl rfl ?_
    refine z_iload_n (pc := 17) dX12_priceOf_17 rfl rfl ?_
    refine y_VI (pc := 18) (bc := bc) (bs := bs) (mc := 0) (ms := 0) (As := [.inl x2, .inl x3]) (rest := [.inl x1, .inr (some (0, 12, 63)), .inl (nI 0)]) dX12_priceOf_18 kX12_slotOf lX12_184 ⟨_, _, rfl⟩ rfl rfl (H.use (fun v2 h2 H => ?_))
    have S2 := H.1
    replace H := H.2
    refine z_aload_n (pc := 21) dX12_priceOf_21 rfl rfl ?_
    refine z_getk (pc := 22) dX12_priceOf_22 fX12_45 rfl (s_63_15 S2) ?_
    refine z_iload_n (pc := 25) dX12_priceOf_25 rfl rfl ?_
    have c3 := H.1
    replace H := H.2
    refine z_iald (pc := 26) dX12_priceOf_26 c3 ?_
    refine z_aload_n (pc := 27) dX12_priceOf_27 rfl rfl ?_
    refine z_geti (pc := 28) dX12_priceOf_28 fX12_187 rfl ?_
    refine y_VI (pc := 31) (bc := bc) (bs := bs) (mc := 0) (ms := 0) (As := [.inl x1, .inl v2, .inl (hA h2 74 (x2).toNatClampNeg), .inl (hI h2 63 23)]) (rest := [.inl (nI 0)]) dX12_priceOf_31 kX12_costs lX12_178 ⟨_, _, rfl⟩ rfl rfl (H.use (fun v4 h4 H => ?_))
    have S4 := H.1
    replace H := H.2
    refine z_iadd (pc := 34) dX12_priceOf_34 ?_
    refine z_istore (pc := 35) (ls' := [some (.inr (some (0, 12, 63))), some (.inl x1), some (.inl x2), some (.inl x3), some (.inl x4), some (.inl x5), some (.inl ((nI 0) + v4))]) dX12_priceOf_35 rfl rfl ?_
    exact H

set_option maxRecDepth 20000 in
theorem bX12_priceOf_37 {l : Launch} {E : eE} {d bc bs : Nat} {h : aH} {Q : Int32 → aH → Prop} {x1 : Int32} {x2 : Int32} {x3 : Int32} {x4 : Int32} {x5 : Int32} {x6 : Int32} (S : SH h) (H : ((¬ (x5 &&& (nI 2)) = (nI 2) → Q x6 h) ∧ ((x5 &&& (nI 2)) = (nI 2) → (CI l E d 0 0 mX12_slotOf [.inr (some (0, 12, 63)), .inl x2, .inl x4] h (fun v2 h2 => SH h2 ∧ (vp_in x2 4 ∧ (CI l E d 0 0 mX12_costs [.inr (some (0, 12, 63)), .inl x1, .inl v2, .inl (hA h2 74 (x2).toNatClampNeg), .inl (hI h2 63 23)] h2 (fun v4 h4 => SH h4 ∧ Q (x6 + v4) h4)))))))) : LX12_priceOf_37 l E (d + 1) bc bs x1 x2 x3 x4 x5 x6 h Q := by
  refine z_iload (pc := 37) dX12_priceOf_37 rfl ?_
  refine z_iconst (pc := 39) (v := (nI 2)) dX12_priceOf_39 (by decide) ?_
  refine z_iand (pc := 40) dX12_priceOf_40 ?_
  refine z_iconst (pc := 41) (v := (nI 2)) dX12_priceOf_41 (by decide) ?_
  refine z_icmp_ne (pc := 42) (tgt := 72) dX12_priceOf_42 (by decide) (fun c1 => ?_) (fun c1 => ?_)
  · replace H := H.1 c1
    refine z_iload (pc := 72) dX12_priceOf_72 rfl ?_
    exact z_iret (pc := 74) dX12_priceOf_74 rfl rfl ⟨_, rfl, H⟩
  · replace H := H.2 c1
    refine z_iload (pc := 45) dX12_priceOf_45 rfl ?_
    refine z_aload_n (pc := 47) dX12_priceOf_47 rfl rfl ?_
    refine z_iload_n (pc := 48) dX12_priceOf_48 rfl rfl ?_
    refine z_aload_n (pc := 49) dX12_priceOf_49 rfl rfl ?_
    refine z_iload_n (pc := 50) dX12_priceOf_50 rfl rfl ?_
    refine z_iload (pc := 51) dX12_priceOf_51 rfl ?_
    refine y_VI (pc := 53) (bc := bc) (bs := bs) (mc := 0) (ms := 0) (As := [.inl x2, .inl x4]) (rest := [.inl x1, .inr (some (0, 12, 63)), .inl x6]) dX12_priceOf_53 kX12_slotOf lX12_184 ⟨_, _, rfl⟩ rfl rfl (H.use (fun v2 h2 H => ?_))
    have S2 := H.1
    replace H := H.2
    refine z_aload_n (pc := 56) dX12_priceOf_56 rfl rfl ?_
    refine z_getk (pc := 57) dX12_priceOf_57 fX12_45 rfl (s_63_15 S2) ?_
    refine z_iload_n (pc := 60) dX12_priceOf_60 rfl rfl ?_
    have c3 := H.1
    replace H := H.2
    refine z_iald (pc := 61) dX12_priceOf_61 c3 ?_
    refine z_aload_n (pc := 62) dX12_priceOf_62 rfl rfl ?_
    refine z_geti (pc := 63) dX12_priceOf_63 fX12_187 rfl ?_
    refine y_VI (pc := 66) (bc := bc) (bs := bs) (mc := 0) (ms := 0) (As := [.inl x1, .inl v2, .inl (hA h2 74 (x2).toNatClampNeg), .inl (hI h2 63 23)]) (rest := [.inl x6]) dX12_priceOf_66 kX12_costs lX12_178 ⟨_, _, rfl⟩ rfl rfl (H.use (fun v4 h4 H => ?_))
    have S4 := H.1
    replace H := H.2
    refine z_iadd (pc := 69) dX12_priceOf_69 ?_
    refine z_istore (pc := 70) (ls' := [some (.inr (some (0, 12, 63))), some (.inl x1), some (.inl x2), some (.inl x3), some (.inl x4), some (.inl x5), some (.inl (x6 + v4))]) dX12_priceOf_70 rfl rfl ?_
    refine z_iload (pc := 72) dX12_priceOf_72 rfl ?_
    exact z_iret (pc := 74) dX12_priceOf_74 rfl rfl ⟨_, rfl, H⟩

abbrev LX12_goesFor_2 (l : Launch) (E : eE) (d bc bs : Nat) (x1 : Int32) (x2 : Int32) (x3 : Int32) (h : aH) (Q : Int32 → aH → Prop) : Prop := TI l E mX12_goesFor d bc bs 2 [some (.inr (some (0, 12, 63))), some (.inl x1), some (.inl x2), some (.inl x3), none, none, none, none, none, none] [] h Q

abbrev LX12_goesFor_86 (l : Launch) (E : eE) (d bc bs : Nat) (x1 : Int32) (x2 : Int32) (x3 : Int32) (x4 : Int32) (x5 : Int32) (x6 : Int32) (x7 : Int32) (h : aH) (Q : Int32 → aH → Prop) : Prop := TI l E mX12_goesFor d bc bs 86 [some (.inr (some (0, 12, 63))), some (.inl x1), some (.inl x2), some (.inl x3), some (.inl x4), some (.inl x5), some (.inl x6), some (.inl x7), none, none] [] h Q

abbrev LX12_goesFor_153 (l : Launch) (E : eE) (d bc bs : Nat) (x1 : Int32) (x2 : Int32) (x3 : Int32) (x4 : Int32) (x5 : Int32) (x6 : Int32) (x7 : Int32) (x8 : Int32) (h : aH) (Q : Int32 → aH → Prop) : Prop := TI l E mX12_goesFor d bc bs 153 [some (.inr (some (0, 12, 63))), some (.inl x1), some (.inl x2), some (.inl x3), some (.inl x4), some (.inl x5), some (.inl x6), some (.inl x7), some (.inl x8), none] [] h Q

set_option maxRecDepth 20000 in
theorem bX12_goesFor_0 {l : Launch} {E : eE} {d bc bs : Nat} {h : aH} {Q : Int32 → aH → Prop} {x1 : Int32} {x2 : Int32} (S : SH h) (H : LX12_goesFor_2 l E (d + 1) bc bs x1 x2 (nI 0) h Q) : CI l E (d + 1) bc bs mX12_goesFor [.inr (some (0, 12, 63)), .inl x1, .inl x2] h Q := by
  refine CI.of (by decide) rfl ?_
  show TI l E mX12_goesFor (d + 1) bc bs 0 [some (.inr (some (0, 12, 63))), some (.inl x1), some (.inl x2), none, none, none, none, none, none, none] [] h Q
  refine z_iconst (pc := 0) (v := (nI 0)) dX12_goesFor_0 (by decide) ?_
  refine z_istore_n (pc := 1) (ls' := [some (.inr (some (0, 12, 63))), some (.inl x1), some (.inl x2), some (.inl (nI 0)), none, none, none, none, none, none]) dX12_goesFor_1 rfl rfl rfl ?_
  exact H

set_option maxRecDepth 20000 in
theorem bX12_goesFor_2 {l : Launch} {E : eE} {d bc bs : Nat} {h : aH} {Q : Int32 → aH → Prop} {x1 : Int32} {x2 : Int32} {x3 : Int32} (S : SH h) (H : (vp_in x1 4 ∧ (((hA h 87 (x1).toNatClampNeg) ≤ x3 → Q (nI 0) h) ∧ (¬ (hA h 87 (x1).toNatClampNeg) ≤ x3 → (vp_in (((nI 15) * x1) + x3) 60 ∧ (CI l E d 0 0 mX12_isIn [.inr (some (0, 12, 63)), .inl x1, .inl (hA h 85 ((((nI 15) * x1) + x3)).toNatClampNeg)] h (fun v4 h4 => SH h4 ∧ ((v4 = 0 → LX12_goesFor_2 l E (d + 1) bc bs x1 x2 (x3 + (nI 1)) h4 Q) ∧ (¬ v4 = 0 → (((hA h 86 ((((nI 15) * x1) + x3)).toNatClampNeg) = (-1) → LX12_goesFor_86 l E (d + 1) bc bs x1 x2 x3 (hA h 85 ((((nI 15) * x1) + x3)).toNatClampNeg) (hA h 86 ((((nI 15) * x1) + x3)).toNatClampNeg) (nI 1) (nI 0) h4 Q) ∧ (¬ (hA h 86 ((((nI 15) * x1) + x3)).toNatClampNeg) = (-1) → (CI l E d 0 0 mX12_isIn [.inr (some (0, 12, 63)), .inl x1, .inl (hA h 86 ((((nI 15) * x1) + x3)).toNatClampNeg)] h4 (fun v7 h7 => SH h7 ∧ ((v7 = 0 → LX12_goesFor_2 l E (d + 1) bc bs x1 x2 (x3 + (nI 1)) h7 Q) ∧ (¬ v7 = 0 → (CI l E d 0 0 mX12_meet [.inr (some (0, 12, 63)), .inl x1, .inl (hA h 85 ((((nI 15) * x1) + x3)).toNatClampNeg), .inl x1, .inl (hA h 86 ((((nI 15) * x1) + x3)).toNatClampNeg)] h7 (fun v9 h9 => SH h9 ∧ ((v9 = 0 → LX12_goesFor_86 l E (d + 1) bc bs x1 x2 x3 (hA h 85 ((((nI 15) * x1) + x3)).toNatClampNeg) (hA h 86 ((((nI 15) * x1) + x3)).toNatClampNeg) (nI 1) (nI 0) h9 Q) ∧ (¬ v9 = 0 → LX12_goesFor_2 l E (d + 1) bc bs x1 x2 (x3 + (nI 1)) h9 Q))))))))))))))))))) : LX12_goesFor_2 l E (d + 1) bc bs x1 x2 x3 h Q := by
  refine z_iload_n (pc := 2) dX12_goesFor_2 rfl rfl ?_
  refine z_aload_n (pc := 3) dX12_goesFor_3 rfl rfl ?_
  refine z_getk (pc := 4) dX12_goesFor_4 fX12_84 rfl (s_63_30 S) ?_
  refine z_iload_n (pc := 7) dX12_goesFor_7 rfl rfl ?_
  have c1 := H.1
  replace H := H.2
  refine z_iald (pc := 8) dX12_goesFor_8 c1 ?_
  refine z_icmp_ge (pc := 9) (tgt := 227) dX12_goesFor_9 (by decide) (fun c2 => ?_) (fun c2 => ?_)
  · replace H := H.1 c2
    refine z_iconst (pc := 227) (v := (nI 0)) dX12_goesFor_227 (by decide) ?_
    exact z_iret (pc := 228) dX12_goesFor_228 rfl rfl ⟨_, rfl, H⟩
  · replace H := H.2 c2
    refine z_aload_n (pc := 12) dX12_goesFor_12 rfl rfl ?_
    refine z_getk (pc := 13) dX12_goesFor_13 fX12_78 rfl (s_63_28 S) ?_
    refine z_bipush (pc := 16) (v := (nI 15)) dX12_goesFor_16 (by decide) ?_
    refine z_iload_n (pc := 18) dX12_goesFor_18 rfl rfl ?_
    refine z_imul (pc := 19) dX12_goesFor_19 ?_
    refine z_iload_n (pc := 20) dX12_goesFor_20 rfl rfl ?_
    refine z_iadd (pc := 21) dX12_goesFor_21 ?_
    have c3 := H.1
    replace H := H.2
    refine z_iald (pc := 22) dX12_goesFor_22 c3 ?_
    refine z_istore (pc := 23) (ls' := [some (.inr (some (0, 12, 63))), some (.inl x1), some (.inl x2), some (.inl x3), some (.inl (hA h 85 ((((nI 15) * x1) + x3)).toNatClampNeg)), none, none, none, none, none]) dX12_goesFor_23 rfl rfl ?_
    refine z_aload_n (pc := 25) dX12_goesFor_25 rfl rfl ?_
    refine z_getk (pc := 26) dX12_goesFor_26 fX12_81 rfl (s_63_29 S) ?_
    refine z_bipush (pc := 29) (v := (nI 15)) dX12_goesFor_29 (by decide) ?_
    refine z_iload_n (pc := 31) dX12_goesFor_31 rfl rfl ?_
    refine z_imul (pc := 32) dX12_goesFor_32 ?_
    refine z_iload_n (pc := 33) dX12_goesFor_33 rfl rfl ?_
    refine z_iadd (pc := 34) dX12_goesFor_34 ?_
    refine z_iald (pc := 35) dX12_goesFor_35 c3 ?_
    refine z_istore (pc := 36) (ls' := [some (.inr (some (0, 12, 63))), some (.inl x1), some (.inl x2), some (.inl x3), some (.inl (hA h 85 ((((nI 15) * x1) + x3)).toNatClampNeg)), some (.inl (hA h 86 ((((nI 15) * x1) + x3)).toNatClampNeg)), none, none, none, none]) dX12_goesFor_36 rfl rfl ?_
    refine z_aload_n (pc := 38) dX12_goesFor_38 rfl rfl ?_
    refine z_iload_n (pc := 39) dX12_goesFor_39 rfl rfl ?_
    refine z_iload (pc := 40) dX12_goesFor_40 rfl ?_
    refine y_VI (pc := 42) (bc := bc) (bs := bs) (mc := 0) (ms := 0) (As := [.inl x1, .inl (hA h 85 ((((nI 15) * x1) + x3)).toNatClampNeg)]) (rest := []) dX12_goesFor_42 kX12_isIn lX12_193 ⟨_, _, rfl⟩ rfl rfl (H.use (fun v4 h4 H => ?_))
    have S4 := H.1
    replace H := H.2
    refine z_if_eq (pc := 45) (tgt := 221) dX12_goesFor_45 (by decide) (fun c5 => ?_) (fun c5 => ?_)
    · replace H := H.1 c5
      refine z_iinc (pc := 221) (v := (x3 + (nI 1))) (ls' := [some (.inr (some (0, 12, 63))), some (.inl x1), some (.inl x2), some (.inl (x3 + (nI 1))), some (.inl (hA h 85 ((((nI 15) * x1) + x3)).toNatClampNeg)), some (.inl (hA h 86 ((((nI 15) * x1) + x3)).toNatClampNeg)), none, none, none, none]) dX12_goesFor_221 rfl (by rw [show Int32.ofInt (1) = (nI 1) by decide]) rfl ?_
      refine z_goto (pc := 224) (tgt := 2) dX12_goesFor_224 (by decide) ?_
      exact z_drop (ls' := [some (.inr (some (0, 12, 63))), some (.inl x1), some (.inl x2), some (.inl (x3 + (nI 1))), none, none, none, none, none, none]) (by simp [dropL]) H
    · replace H := H.2 c5
      refine z_iload (pc := 48) dX12_goesFor_48 rfl ?_
      refine z_iconst (pc := 50) (v := (-1)) dX12_goesFor_50 (by decide) ?_
      refine z_icmp_eq (pc := 51) (tgt := 80) dX12_goesFor_51 (by decide) (fun c6 => ?_) (fun c6 => ?_)
      · replace H := H.1 c6
        refine z_iconst (pc := 80) (v := (nI 1)) dX12_goesFor_80 (by decide) ?_
        refine z_istore (pc := 81) (ls' := [some (.inr (some (0, 12, 63))), some (.inl x1), some (.inl x2), some (.inl x3), some (.inl (hA h 85 ((((nI 15) * x1) + x3)).toNatClampNeg)), some (.inl (hA h 86 ((((nI 15) * x1) + x3)).toNatClampNeg)), some (.inl (nI 1)), none, none, none]) dX12_goesFor_81 rfl rfl ?_
        refine z_iconst (pc := 83) (v := (nI 0)) dX12_goesFor_83 (by decide) ?_
        refine z_istore (pc := 84) (ls' := [some (.inr (some (0, 12, 63))), some (.inl x1), some (.inl x2), some (.inl x3), some (.inl (hA h 85 ((((nI 15) * x1) + x3)).toNatClampNeg)), some (.inl (hA h 86 ((((nI 15) * x1) + x3)).toNatClampNeg)), some (.inl (nI 1)), some (.inl (nI 0)), none, none]) dX12_goesFor_84 rfl rfl ?_
        exact H
      · replace H := H.2 c6
        refine z_aload_n (pc := 54) dX12_goesFor_54 rfl rfl ?_
        refine z_iload_n (pc := 55) dX12_goesFor_55 rfl rfl ?_
        refine z_iload (pc := 56) dX12_goesFor_56 rfl ?_
        refine y_VI (pc := 58) (bc := bc) (bs := bs) (mc := 0) (ms := 0) (As := [.inl x1, .inl (hA h 86 ((((nI 15) * x1) + x3)).toNatClampNeg)]) (rest := []) dX12_goesFor_58 kX12_isIn lX12_193 ⟨_, _, rfl⟩ rfl rfl (H.use (fun v7 h7 H => ?_))
        have S7 := H.1
        replace H := H.2
        refine z_if_eq (pc := 61) (tgt := 221) dX12_goesFor_61 (by decide) (fun c8 => ?_) (fun c8 => ?_)
        · replace H := H.1 c8
          refine z_iinc (pc := 221) (v := (x3 + (nI 1))) (ls' := [some (.inr (some (0, 12, 63))), some (.inl x1), some (.inl x2), some (.inl (x3 + (nI 1))), some (.inl (hA h 85 ((((nI 15) * x1) + x3)).toNatClampNeg)), some (.inl (hA h 86 ((((nI 15) * x1) + x3)).toNatClampNeg)), none, none, none, none]) dX12_goesFor_221 rfl (by rw [show Int32.ofInt (1) = (nI 1) by decide]) rfl ?_
          refine z_goto (pc := 224) (tgt := 2) dX12_goesFor_224 (by decide) ?_
          exact z_drop (ls' := [some (.inr (some (0, 12, 63))), some (.inl x1), some (.inl x2), some (.inl (x3 + (nI 1))), none, none, none, none, none, none]) (by simp [dropL]) H
        · replace H := H.2 c8
          refine z_aload_n (pc := 64) dX12_goesFor_64 rfl rfl ?_
          refine z_iload_n (pc := 65) dX12_goesFor_65 rfl rfl ?_
          refine z_iload (pc := 66) dX12_goesFor_66 rfl ?_
          refine z_iload_n (pc := 68) dX12_goesFor_68 rfl rfl ?_
          refine z_iload (pc := 69) dX12_goesFor_69 rfl ?_
          refine y_VI (pc := 71) (bc := bc) (bs := bs) (mc := 0) (ms := 0) (As := [.inl x1, .inl (hA h 85 ((((nI 15) * x1) + x3)).toNatClampNeg), .inl x1, .inl (hA h 86 ((((nI 15) * x1) + x3)).toNatClampNeg)]) (rest := []) dX12_goesFor_71 kX12_meet lX12_190 ⟨_, _, rfl⟩ rfl rfl (H.use (fun v9 h9 H => ?_))
          have S9 := H.1
          replace H := H.2
          refine z_if_eq (pc := 74) (tgt := 80) dX12_goesFor_74 (by decide) (fun c10 => ?_) (fun c10 => ?_)
          · replace H := H.1 c10
            refine z_iconst (pc := 80) (v := (nI 1)) dX12_goesFor_80 (by decide) ?_
            refine z_istore (pc := 81) (ls' := [some (.inr (some (0, 12, 63))), some (.inl x1), some (.inl x2), some (.inl x3), some (.inl (hA h 85 ((((nI 15) * x1) + x3)).toNatClampNeg)), some (.inl (hA h 86 ((((nI 15) * x1) + x3)).toNatClampNeg)), some (.inl (nI 1)), none, none, none]) dX12_goesFor_81 rfl rfl ?_
            refine z_iconst (pc := 83) (v := (nI 0)) dX12_goesFor_83 (by decide) ?_
            refine z_istore (pc := 84) (ls' := [some (.inr (some (0, 12, 63))), some (.inl x1), some (.inl x2), some (.inl x3), some (.inl (hA h 85 ((((nI 15) * x1) + x3)).toNatClampNeg)), some (.inl (hA h 86 ((((nI 15) * x1) + x3)).toNatClampNeg)), some (.inl (nI 1)), some (.inl (nI 0)), none, none]) dX12_goesFor_84 rfl rfl ?_
            exact H
          · replace H := H.2 c10
            refine z_goto (pc := 77) (tgt := 221) dX12_goesFor_77 (by decide) ?_
            refine z_iinc (pc := 221) (v := (x3 + (nI 1))) (ls' := [some (.inr (some (0, 12, 63))), some (.inl x1), some (.inl x2), some (.inl (x3 + (nI 1))), some (.inl (hA h 85 ((((nI 15) * x1) + x3)).toNatClampNeg)), some (.inl (hA h 86 ((((nI 15) * x1) + x3)).toNatClampNeg)), none, none, none, none]) dX12_goesFor_221 rfl (by rw [show Int32.ofInt (1) = (nI 1) by decide]) rfl ?_
            refine z_goto (pc := 224) (tgt := 2) dX12_goesFor_224 (by decide) ?_
            exact z_drop (ls' := [some (.inr (some (0, 12, 63))), some (.inl x1), some (.inl x2), some (.inl (x3 + (nI 1))), none, none, none, none, none, none]) (by simp [dropL]) H

set_option maxRecDepth 20000 in
theorem bX12_goesFor_86 {l : Launch} {E : eE} {d bc bs : Nat} {h : aH} {Q : Int32 → aH → Prop} {x1 : Int32} {x2 : Int32} {x3 : Int32} {x4 : Int32} {x5 : Int32} {x6 : Int32} {x7 : Int32} (S : SH h) (H : (((hI h 63 3) ≤ x7 → ((x6 = 0 → LX12_goesFor_2 l E (d + 1) bc bs x1 x2 (x3 + (nI 1)) h Q) ∧ (¬ x6 = 0 → Q (nI 1) h))) ∧ (¬ (hI h 63 3) ≤ x7 → ((x6 = 0 → ((x6 = 0 → LX12_goesFor_2 l E (d + 1) bc bs x1 x2 (x3 + (nI 1)) h Q) ∧ (¬ x6 = 0 → Q (nI 1) h))) ∧ (¬ x6 = 0 → ((¬ ((x2 >>> (x7 &&& 31)) &&& (nI 1)) = 0 → (vp_in (((nI 6) * x7) + x4) 72 ∧ ((x5 = (-1) → LX12_goesFor_153 l E (d + 1) bc bs x1 x2 x3 x4 x5 x6 x7 (hA h 84 ((((nI 6) * x7) + x4)).toNatClampNeg) h Q) ∧ (¬ x5 = (-1) → (vp_in (((nI 6) * x7) + x5) 72 ∧ (((hA h 84 ((((nI 6) * x7) + x5)).toNatClampNeg) = 0 → LX12_goesFor_153 l E (d + 1) bc bs x1 x2 x3 x4 x5 x6 x7 (hA h 84 ((((nI 6) * x7) + x4)).toNatClampNeg) h Q) ∧ (¬ (hA h 84 ((((nI 6) * x7) + x5)).toNatClampNeg) = 0 → (vp_in x1 4 ∧ ((¬ x7 = (hA h 76 (x1).toNatClampNeg) → ((¬ (hA h 84 ((((nI 6) * x7) + x4)).toNatClampNeg) = 0 → LX12_goesFor_86 l E (d + 1) bc bs x1 x2 x3 x4 x5 (nI 1) (x7 + (nI 1)) h Q) ∧ ((hA h 84 ((((nI 6) * x7) + x4)).toNatClampNeg) = 0 → (((nI 1) = 0 → LX12_goesFor_86 l E (d + 1) bc bs x1 x2 x3 x4 x5 (nI 0) (x7 + (nI 1)) h Q) ∧ (¬ (nI 1) = 0 → LX12_goesFor_86 l E (d + 1) bc bs x1 x2 x3 x4 x5 (nI 1) (x7 + (nI 1)) h Q))))) ∧ (x7 = (hA h 76 (x1).toNatClampNeg) → ((x5 = (-1) → ((¬ (hA h 84 ((((nI 6) * x7) + x4)).toNatClampNeg) = 0 → LX12_goesFor_86 l E (d + 1) bc bs x1 x2 x3 x4 x5 (nI 1) (x7 + (nI 1)) h Q) ∧ ((hA h 84 ((((nI 6) * x7) + x4)).toNatClampNeg) = 0 → (((nI 1) = 0 → LX12_goesFor_86 l E (d + 1) bc bs x1 x2 x3 x4 x5 (nI 0) (x7 + (nI 1)) h Q) ∧ (¬ (nI 1) = 0 → LX12_goesFor_86 l E (d + 1) bc bs x1 x2 x3 x4 x5 (nI 1) (x7 + (nI 1)) h Q))))) ∧ (¬ x5 = (-1) → (((hA h 84 ((((nI 6) * x7) + x4)).toNatClampNeg) = 0 → LX12_goesFor_86 l E (d + 1) bc bs x1 x2 x3 x4 x5 (nI 0) (x7 + (nI 1)) h Q) ∧ (¬ (hA h 84 ((((nI 6) * x7) + x4)).toNatClampNeg) = 0 → (((nI 1) = 0 → LX12_goesFor_86 l E (d + 1) bc bs x1 x2 x3 x4 x5 (nI 0) (x7 + (nI 1)) h Q) ∧ (¬ (nI 1) = 0 → LX12_goesFor_86 l E (d + 1) bc bs x1 x2 x3 x4 x5 (nI 1) (x7 + (nI 1)) h Q)))))))))))))))) ∧ (((x2 >>> (x7 &&& 31)) &&& (nI 1)) = 0 → LX12_goesFor_86 l E (d + 1) bc bs x1 x2 x3 x4 x5 x6 (x7 + (nI 1)) h Q))))))) : LX12_goesFor_86 l E (d + 1) bc bs x1 x2 x3 x4 x5 x6 x7 h Q := by
  refine z_iload (pc := 86) dX12_goesFor_86 rfl ?_
  refine z_aload_n (pc := 88) dX12_goesFor_88 rfl rfl ?_
  refine z_geti (pc := 89) dX12_goesFor_89 fX12_123 rfl ?_
  refine z_icmp_ge (pc := 92) (tgt := 214) dX12_goesFor_92 (by decide) (fun c1 => ?_) (fun c1 => ?_)
  · replace H := H.1 c1
    refine z_iload (pc := 214) dX12_goesFor_214 rfl ?_
    refine z_if_eq (pc := 216) (tgt := 221) dX12_goesFor_216 (by decide) (fun c2 => ?_) (fun c2 => ?_)
    · replace H := H.1 c2
      refine z_iinc (pc := 221) (v := (x3 + (nI 1))) (ls' := [some (.inr (some (0, 12, 63))), some (.inl x1), some (.inl x2), some (.inl (x3 + (nI 1))), some (.inl x4), some (.inl x5), some (.inl x6), some (.inl x7), none, none]) dX12_goesFor_221 rfl (by rw [show Int32.ofInt (1) = (nI 1) by decide]) rfl ?_
      refine z_goto (pc := 224) (tgt := 2) dX12_goesFor_224 (by decide) ?_
      exact z_drop (ls' := [some (.inr (some (0, 12, 63))), some (.inl x1), some (.inl x2), some (.inl (x3 + (nI 1))), none, none, none, none, none, none]) (by simp [dropL]) H
    · replace H := H.2 c2
      refine z_iconst (pc := 219) (v := (nI 1)) dX12_goesFor_219 (by decide) ?_
      exact z_iret (pc := 220) dX12_goesFor_220 rfl rfl ⟨_, rfl, H⟩
  · replace H := H.2 c1
    refine z_iload (pc := 95) dX12_goesFor_95 rfl ?_
    refine z_if_eq (pc := 97) (tgt := 214) dX12_goesFor_97 (by decide) (fun c3 => ?_) (fun c3 => ?_)
    · replace H := H.1 c3
      refine z_iload (pc := 214) dX12_goesFor_214 rfl ?_
      refine z_if_eq (pc := 216) (tgt := 221) dX12_goesFor_216 (by decide) (fun c4 => ?_) (fun c4 => ?_)
      · replace H := H.1 c4
        refine z_iinc (pc := 221) (v := (x3 + (nI 1))) (ls' := [some (.inr (some (0, 12, 63))), some (.inl x1), some (.inl x2), some (.inl (x3 + (nI 1))), some (.inl x4), some (.inl x5), some (.inl x6), some (.inl x7), none, none]) dX12_goesFor_221 rfl (by rw [show Int32.ofInt (1) = (nI 1) by decide]) rfl ?_
        refine z_goto (pc := 224) (tgt := 2) dX12_goesFor_224 (by decide) ?_
        exact z_drop (ls' := [some (.inr (some (0, 12, 63))), some (.inl x1), some (.inl x2), some (.inl (x3 + (nI 1))), none, none, none, none, none, none]) (by simp [dropL]) H
      · replace H := H.2 c4
        refine z_iconst (pc := 219) (v := (nI 1)) dX12_goesFor_219 (by decide) ?_
        exact z_iret (pc := 220) dX12_goesFor_220 rfl rfl ⟨_, rfl, H⟩
    · replace H := H.2 c3
      refine z_iload_n (pc := 100) dX12_goesFor_100 rfl rfl ?_
      refine z_iload (pc := 101) dX12_goesFor_101 rfl ?_
      refine z_ishr (pc := 103) dX12_goesFor_103 ?_
      refine z_iconst (pc := 104) (v := (nI 1)) dX12_goesFor_104 (by decide) ?_
      refine z_iand (pc := 105) dX12_goesFor_105 ?_
      refine z_if_ne (pc := 106) (tgt := 112) dX12_goesFor_106 (by decide) (fun c5 => ?_) (fun c5 => ?_)
      · replace H := H.1 c5
        refine z_aload_n (pc := 112) dX12_goesFor_112 rfl rfl ?_
        refine z_getk (pc := 113) dX12_goesFor_113 fX12_75 rfl (s_63_27 S) ?_
        refine z_bipush (pc := 116) (v := (nI 6)) dX12_goesFor_116 (by decide) ?_
        refine z_iload (pc := 118) dX12_goesFor_118 rfl ?_
        refine z_imul (pc := 120) dX12_goesFor_120 ?_
        refine z_iload (pc := 121) dX12_goesFor_121 rfl ?_
        refine z_iadd (pc := 123) dX12_goesFor_123 ?_
        have c6 := H.1
        replace H := H.2
        refine z_zald (pc := 124) dX12_goesFor_124 c6 ?_
        refine z_istore (pc := 125) (ls' := [some (.inr (some (0, 12, 63))), some (.inl x1), some (.inl x2), some (.inl x3), some (.inl x4), some (.inl x5), some (.inl x6), some (.inl x7), some (.inl (hA h 84 ((((nI 6) * x7) + x4)).toNatClampNeg)), none]) dX12_goesFor_125 rfl rfl ?_
        refine z_iload (pc := 127) dX12_goesFor_127 rfl ?_
        refine z_iconst (pc := 129) (v := (-1)) dX12_goesFor_129 (by decide) ?_
        refine z_icmp_eq (pc := 130) (tgt := 153) dX12_goesFor_130 (by decide) (fun c7 => ?_) (fun c7 => ?_)
        · replace H := H.1 c7
          exact H
        · replace H := H.2 c7
          refine z_aload_n (pc := 133) dX12_goesFor_133 rfl rfl ?_
          refine z_getk (pc := 134) dX12_goesFor_134 fX12_75 rfl (s_63_27 S) ?_
          refine z_bipush (pc := 137) (v := (nI 6)) dX12_goesFor_137 (by decide) ?_
          refine z_iload (pc := 139) dX12_goesFor_139 rfl ?_
          refine z_imul (pc := 141) dX12_goesFor_141 ?_
          refine z_iload (pc := 142) dX12_goesFor_142 rfl ?_
          refine z_iadd (pc := 144) dX12_goesFor_144 ?_
          have c8 := H.1
          replace H := H.2
          refine z_zald (pc := 145) dX12_goesFor_145 c8 ?_
          refine z_if_eq (pc := 146) (tgt := 153) dX12_goesFor_146 (by decide) (fun c9 => ?_) (fun c9 => ?_)
          · replace H := H.1 c9
            exact H
          · replace H := H.2 c9
            refine z_iconst (pc := 149) (v := (nI 1)) dX12_goesFor_149 (by decide) ?_
            refine z_goto (pc := 150) (tgt := 154) dX12_goesFor_150 (by decide) ?_
            refine z_istore (pc := 154) (ls' := [some (.inr (some (0, 12, 63))), some (.inl x1), some (.inl x2), some (.inl x3), some (.inl x4), some (.inl x5), some (.inl x6), some (.inl x7), some (.inl (hA h 84 ((((nI 6) * x7) + x4)).toNatClampNeg)), some (.inl (nI 1))]) dX12_goesFor_154 rfl rfl ?_
            refine z_iload (pc := 156) dX12_goesFor_156 rfl ?_
            refine z_aload_n (pc := 158) dX12_goesFor_158 rfl rfl ?_
            refine z_getk (pc := 159) dX12_goesFor_159 fX12_51 rfl (s_63_17 S) ?_
            refine z_iload_n (pc := 162) dX12_goesFor_162 rfl rfl ?_
            have c10 := H.1
            replace H := H.2
            refine z_iald (pc := 163) dX12_goesFor_163 c10 ?_
            refine z_icmp_ne (pc := 164) (tgt := 191) dX12_goesFor_164 (by decide) (fun c11 => ?_) (fun c11 => ?_)
            · replace H := H.1 c11
              refine z_iload (pc := 191) dX12_goesFor_191 rfl ?_
              refine z_if_ne (pc := 193) (tgt := 201) dX12_goesFor_193 (by decide) (fun c12 => ?_) (fun c12 => ?_)
              · replace H := H.1 c12
                refine z_iconst (pc := 201) (v := (nI 1)) dX12_goesFor_201 (by decide) ?_
                refine z_goto (pc := 202) (tgt := 206) dX12_goesFor_202 (by decide) ?_
                refine z_istore (pc := 206) (ls' := [some (.inr (some (0, 12, 63))), some (.inl x1), some (.inl x2), some (.inl x3), some (.inl x4), some (.inl x5), some (.inl (nI 1)), some (.inl x7), some (.inl (hA h 84 ((((nI 6) * x7) + x4)).toNatClampNeg)), some (.inl (nI 1))]) dX12_goesFor_206 rfl rfl ?_
                refine z_iinc (pc := 208) (v := (x7 + (nI 1))) (ls' := [some (.inr (some (0, 12, 63))), some (.inl x1), some (.inl x2), some (.inl x3), some (.inl x4), some (.inl x5), some (.inl (nI 1)), some (.inl (x7 + (nI 1))), some (.inl (hA h 84 ((((nI 6) * x7) + x4)).toNatClampNeg)), some (.inl (nI 1))]) dX12_goesFor_208 rfl (by rw [show Int32.ofInt (1) = (nI 1) by decide]) rfl ?_
                refine z_goto (pc := 211) (tgt := 86) dX12_goesFor_211 (by decide) ?_
                exact z_drop (ls' := [some (.inr (some (0, 12, 63))), some (.inl x1), some (.inl x2), some (.inl x3), some (.inl x4), some (.inl x5), some (.inl (nI 1)), some (.inl (x7 + (nI 1))), none, none]) (by simp [dropL]) H
              · replace H := H.2 c12
                refine z_iload (pc := 196) dX12_goesFor_196 rfl ?_
                refine z_if_eq (pc := 198) (tgt := 205) dX12_goesFor_198 (by decide) (fun c13 => ?_) (fun c13 => ?_)
                · replace H := H.1 c13
                  refine z_iconst (pc := 205) (v := (nI 0)) dX12_goesFor_205 (by decide) ?_
                  refine z_istore (pc := 206) (ls' := [some (.inr (some (0, 12, 63))), some (.inl x1), some (.inl x2), some (.inl x3), some (.inl x4), some (.inl x5), some (.inl (nI 0)), some (.inl x7), some (.inl (hA h 84 ((((nI 6) * x7) + x4)).toNatClampNeg)), some (.inl (nI 1))]) dX12_goesFor_206 rfl rfl ?_
                  refine z_iinc (pc := 208) (v := (x7 + (nI 1))) (ls' := [some (.inr (some (0, 12, 63))), some (.inl x1), some (.inl x2), some (.inl x3), some (.inl x4), some (.inl x5), some (.inl (nI 0)), some (.inl (x7 + (nI 1))), some (.inl (hA h 84 ((((nI 6) * x7) + x4)).toNatClampNeg)), some (.inl (nI 1))]) dX12_goesFor_208 rfl (by rw [show Int32.ofInt (1) = (nI 1) by decide]) rfl ?_
                  refine z_goto (pc := 211) (tgt := 86) dX12_goesFor_211 (by decide) ?_
                  exact z_drop (ls' := [some (.inr (some (0, 12, 63))), some (.inl x1), some (.inl x2), some (.inl x3), some (.inl x4), some (.inl x5), some (.inl (nI 0)), some (.inl (x7 + (nI 1))), none, none]) (by simp [dropL]) H
                · replace H := H.2 c13
                  refine z_iconst (pc := 201) (v := (nI 1)) dX12_goesFor_201 (by decide) ?_
                  refine z_goto (pc := 202) (tgt := 206) dX12_goesFor_202 (by decide) ?_
                  refine z_istore (pc := 206) (ls' := [some (.inr (some (0, 12, 63))), some (.inl x1), some (.inl x2), some (.inl x3), some (.inl x4), some (.inl x5), some (.inl (nI 1)), some (.inl x7), some (.inl (hA h 84 ((((nI 6) * x7) + x4)).toNatClampNeg)), some (.inl (nI 1))]) dX12_goesFor_206 rfl rfl ?_
                  refine z_iinc (pc := 208) (v := (x7 + (nI 1))) (ls' := [some (.inr (some (0, 12, 63))), some (.inl x1), some (.inl x2), some (.inl x3), some (.inl x4), some (.inl x5), some (.inl (nI 1)), some (.inl (x7 + (nI 1))), some (.inl (hA h 84 ((((nI 6) * x7) + x4)).toNatClampNeg)), some (.inl (nI 1))]) dX12_goesFor_208 rfl (by rw [show Int32.ofInt (1) = (nI 1) by decide]) rfl ?_
                  refine z_goto (pc := 211) (tgt := 86) dX12_goesFor_211 (by decide) ?_
                  exact z_drop (ls' := [some (.inr (some (0, 12, 63))), some (.inl x1), some (.inl x2), some (.inl x3), some (.inl x4), some (.inl x5), some (.inl (nI 1)), some (.inl (x7 + (nI 1))), none, none]) (by simp [dropL]) H
            · replace H := H.2 c11
              refine z_iload (pc := 167) dX12_goesFor_167 rfl ?_
              refine z_iconst (pc := 169) (v := (-1)) dX12_goesFor_169 (by decide) ?_
              refine z_icmp_eq (pc := 170) (tgt := 191) dX12_goesFor_170 (by decide) (fun c14 => ?_) (fun c14 => ?_)
              · replace H := H.1 c14
                refine z_iload (pc := 191) dX12_goesFor_191 rfl ?_
                refine z_if_ne (pc := 193) (tgt := 201) dX12_goesFor_193 (by decide) (fun c15 => ?_) (fun c15 => ?_)
                · replace H := H.1 c15
                  refine z_iconst (pc := 201) (v := (nI 1)) dX12_goesFor_201 (by decide) ?_
                  refine z_goto (pc := 202) (tgt := 206) dX12_goesFor_202 (by decide) ?_
                  refine z_istore (pc := 206) (ls' := [some (.inr (some (0, 12, 63))), some (.inl x1), some (.inl x2), some (.inl x3), some (.inl x4), some (.inl x5), some (.inl (nI 1)), some (.inl x7), some (.inl (hA h 84 ((((nI 6) * x7) + x4)).toNatClampNeg)), some (.inl (nI 1))]) dX12_goesFor_206 rfl rfl ?_
                  refine z_iinc (pc := 208) (v := (x7 + (nI 1))) (ls' := [some (.inr (some (0, 12, 63))), some (.inl x1), some (.inl x2), some (.inl x3), some (.inl x4), some (.inl x5), some (.inl (nI 1)), some (.inl (x7 + (nI 1))), some (.inl (hA h 84 ((((nI 6) * x7) + x4)).toNatClampNeg)), some (.inl (nI 1))]) dX12_goesFor_208 rfl (by rw [show Int32.ofInt (1) = (nI 1) by decide]) rfl ?_
                  refine z_goto (pc := 211) (tgt := 86) dX12_goesFor_211 (by decide) ?_
                  exact z_drop (ls' := [some (.inr (some (0, 12, 63))), some (.inl x1), some (.inl x2), some (.inl x3), some (.inl x4), some (.inl x5), some (.inl (nI 1)), some (.inl (x7 + (nI 1))), none, none]) (by simp [dropL]) H
                · replace H := H.2 c15
                  refine z_iload (pc := 196) dX12_goesFor_196 rfl ?_
                  refine z_if_eq (pc := 198) (tgt := 205) dX12_goesFor_198 (by decide) (fun c16 => ?_) (fun c16 => ?_)
                  · replace H := H.1 c16
                    refine z_iconst (pc := 205) (v := (nI 0)) dX12_goesFor_205 (by decide) ?_
                    refine z_istore (pc := 206) (ls' := [some (.inr (some (0, 12, 63))), some (.inl x1), some (.inl x2), some (.inl x3), some (.inl x4), some (.inl x5), some (.inl (nI 0)), some (.inl x7), some (.inl (hA h 84 ((((nI 6) * x7) + x4)).toNatClampNeg)), some (.inl (nI 1))]) dX12_goesFor_206 rfl rfl ?_
                    refine z_iinc (pc := 208) (v := (x7 + (nI 1))) (ls' := [some (.inr (some (0, 12, 63))), some (.inl x1), some (.inl x2), some (.inl x3), some (.inl x4), some (.inl x5), some (.inl (nI 0)), some (.inl (x7 + (nI 1))), some (.inl (hA h 84 ((((nI 6) * x7) + x4)).toNatClampNeg)), some (.inl (nI 1))]) dX12_goesFor_208 rfl (by rw [show Int32.ofInt (1) = (nI 1) by decide]) rfl ?_
                    refine z_goto (pc := 211) (tgt := 86) dX12_goesFor_211 (by decide) ?_
                    exact z_drop (ls' := [some (.inr (some (0, 12, 63))), some (.inl x1), some (.inl x2), some (.inl x3), some (.inl x4), some (.inl x5), some (.inl (nI 0)), some (.inl (x7 + (nI 1))), none, none]) (by simp [dropL]) H
                  · replace H := H.2 c16
                    refine z_iconst (pc := 201) (v := (nI 1)) dX12_goesFor_201 (by decide) ?_
                    refine z_goto (pc := 202) (tgt := 206) dX12_goesFor_202 (by decide) ?_
                    refine z_istore (pc := 206) (ls' := [some (.inr (some (0, 12, 63))), some (.inl x1), some (.inl x2), some (.inl x3), some (.inl x4), some (.inl x5), some (.inl (nI 1)), some (.inl x7), some (.inl (hA h 84 ((((nI 6) * x7) + x4)).toNatClampNeg)), some (.inl (nI 1))]) dX12_goesFor_206 rfl rfl ?_
                    refine z_iinc (pc := 208) (v := (x7 + (nI 1))) (ls' := [some (.inr (some (0, 12, 63))), some (.inl x1), some (.inl x2), some (.inl x3), some (.inl x4), some (.inl x5), some (.inl (nI 1)), some (.inl (x7 + (nI 1))), some (.inl (hA h 84 ((((nI 6) * x7) + x4)).toNatClampNeg)), some (.inl (nI 1))]) dX12_goesFor_208 rfl (by rw [show Int32.ofInt (1) = (nI 1) by decide]) rfl ?_
                    refine z_goto (pc := 211) (tgt := 86) dX12_goesFor_211 (by decide) ?_
                    exact z_drop (ls' := [some (.inr (some (0, 12, 63))), some (.inl x1), some (.inl x2), some (.inl x3), some (.inl x4), some (.inl x5), some (.inl (nI 1)), some (.inl (x7 + (nI 1))), none, none]) (by simp [dropL]) H
              · replace H := H.2 c14
                refine z_iload (pc := 173) dX12_goesFor_173 rfl ?_
                refine z_if_eq (pc := 175) (tgt := 187) dX12_goesFor_175 (by decide) (fun c17 => ?_) (fun c17 => ?_)
                · replace H := H.1 c17
                  refine z_iconst (pc := 187) (v := (nI 0)) dX12_goesFor_187 (by decide) ?_
                  refine z_goto (pc := 188) (tgt := 206) dX12_goesFor_188 (by decide) ?_
                  refine z_istore (pc := 206) (ls' := [some (.inr (some (0, 12, 63))), some (.inl x1), some (.inl x2), some (.inl x3), some (.inl x4), some (.inl x5), some (.inl (nI 0)), some (.inl x7), some (.inl (hA h 84 ((((nI 6) * x7) + x4)).toNatClampNeg)), some (.inl (nI 1))]) dX12_goesFor_206 rfl rfl ?_
                  refine z_iinc (pc := 208) (v := (x7 + (nI 1))) (ls' := [some (.inr (some (0, 12, 63))), some (.inl x1), some (.inl x2), some (.inl x3), some (.inl x4), some (.inl x5), some (.inl (nI 0)), some (.inl (x7 + (nI 1))), some (.inl (hA h 84 ((((nI 6) * x7) + x4)).toNatClampNeg)), some (.inl (nI 1))]) dX12_goesFor_208 rfl (by rw [show Int32.ofInt (1) = (nI 1) by decide]) rfl ?_
                  refine z_goto (pc := 211) (tgt := 86) dX12_goesFor_211 (by decide) ?_
                  exact z_drop (ls' := [some (.inr (some (0, 12, 63))), some (.inl x1), some (.inl x2), some (.inl x3), some (.inl x4), some (.inl x5), some (.inl (nI 0)), some (.inl (x7 + (nI 1))), none, none]) (by simp [dropL]) H
                · replace H := H.2 c17
                  refine z_iload (pc := 178) dX12_goesFor_178 rfl ?_
                  refine z_if_eq (pc := 180) (tgt := 187) dX12_goesFor_180 (by decide) (fun c18 => ?_) (fun c18 => ?_)
                  · replace H := H.1 c18
                    refine z_iconst (pc := 187) (v := (nI 0)) dX12_goesFor_187 (by decide) ?_
                    refine z_goto (pc := 188) (tgt := 206) dX12_goesFor_188 (by decide) ?_
                    refine z_istore (pc := 206) (ls' := [some (.inr (some (0, 12, 63))), some (.inl x1), some (.inl x2), some (.inl x3), some (.inl x4), some (.inl x5), some (.inl (nI 0)), some (.inl x7), some (.inl (hA h 84 ((((nI 6) * x7) + x4)).toNatClampNeg)), some (.inl (nI 1))]) dX12_goesFor_206 rfl rfl ?_
                    refine z_iinc (pc := 208) (v := (x7 + (nI 1))) (ls' := [some (.inr (some (0, 12, 63))), some (.inl x1), some (.inl x2), some (.inl x3), some (.inl x4), some (.inl x5), some (.inl (nI 0)), some (.inl (x7 + (nI 1))), some (.inl (hA h 84 ((((nI 6) * x7) + x4)).toNatClampNeg)), some (.inl (nI 1))]) dX12_goesFor_208 rfl (by rw [show Int32.ofInt (1) = (nI 1) by decide]) rfl ?_
                    refine z_goto (pc := 211) (tgt := 86) dX12_goesFor_211 (by decide) ?_
                    exact z_drop (ls' := [some (.inr (some (0, 12, 63))), some (.inl x1), some (.inl x2), some (.inl x3), some (.inl x4), some (.inl x5), some (.inl (nI 0)), some (.inl (x7 + (nI 1))), none, none]) (by simp [dropL]) H
                  · replace H := H.2 c18
                    refine z_iconst (pc := 183) (v := (nI 1)) dX12_goesFor_183 (by decide) ?_
                    refine z_goto (pc := 184) (tgt := 206) dX12_goesFor_184 (by decide) ?_
                    refine z_istore (pc := 206) (ls' := [some (.inr (some (0, 12, 63))), some (.inl x1), some (.inl x2), some (.inl x3), some (.inl x4), some (.inl x5), some (.inl (nI 1)), some (.inl x7), some (.inl (hA h 84 ((((nI 6) * x7) + x4)).toNatClampNeg)), some (.inl (nI 1))]) dX12_goesFor_206 rfl rfl ?_
                    refine z_iinc (pc := 208) (v := (x7 + (nI 1))) (ls' := [some (.inr (some (0, 12, 63))), some (.inl x1), some (.inl x2), some (.inl x3), some (.inl x4), some (.inl x5), some (.inl (nI 1)), some (.inl (x7 + (nI 1))), some (.inl (hA h 84 ((((nI 6) * x7) + x4)).toNatClampNeg)), some (.inl (nI 1))]) dX12_goesFor_208 rfl (by rw [show Int32.ofInt (1) = (nI 1) by decide]) rfl ?_
                    refine z_goto (pc := 211) (tgt := 86) dX12_goesFor_211 (by decide) ?_
                    exact z_drop (ls' := [some (.inr (some (0, 12, 63))), some (.inl x1), some (.inl x2), some (.inl x3), some (.inl x4), some (.inl x5), some (.inl (nI 1)), some (.inl (x7 + (nI 1))), none, none]) (by simp [dropL]) H
      · replace H := H.2 c5
        refine z_goto (pc := 109) (tgt := 208) dX12_goesFor_109 (by decide) ?_
        refine z_iinc (pc := 208) (v := (x7 + (nI 1))) (ls' := [some (.inr (some (0, 12, 63))), some (.inl x1), some (.inl x2), some (.inl x3), some (.inl x4), some (.inl x5), some (.inl x6), some (.inl (x7 + (nI 1))), none, none]) dX12_goesFor_208 rfl (by rw [show Int32.ofInt (1) = (nI 1) by decide]) rfl ?_
        refine z_goto (pc := 211) (tgt := 86) dX12_goesFor_211 (by decide) ?_
        exact H

set_option maxRecDepth 20000 in
theorem bX12_goesFor_153 {l : Launch} {E : eE} {d bc bs : Nat} {h : aH} {Q : Int32 → aH → Prop} {x1 : Int32} {x2 : Int32} {x3 : Int32} {x4 : Int32} {x5 : Int32} {x6 : Int32} {x7 : Int32} {x8 : Int32} (S : SH h) (H : (vp_in x1 4 ∧ ((¬ x7 = (hA h 76 (x1).toNatClampNeg) → ((¬ x8 = 0 → LX12_goesFor_86 l E (d + 1) bc bs x1 x2 x3 x4 x5 (nI 1) (x7 + (nI 1)) h Q) ∧ (x8 = 0 → (((nI 0) = 0 → LX12_goesFor_86 l E (d + 1) bc bs x1 x2 x3 x4 x5 (nI 0) (x7 + (nI 1)) h Q) ∧ (¬ (nI 0) = 0 → LX12_goesFor_86 l E (d + 1) bc bs x1 x2 x3 x4 x5 (nI 1) (x7 + (nI 1)) h Q))))) ∧ (x7 = (hA h 76 (x1).toNatClampNeg) → ((x5 = (-1) → ((¬ x8 = 0 → LX12_goesFor_86 l E (d + 1) bc bs x1 x2 x3 x4 x5 (nI 1) (x7 + (nI 1)) h Q) ∧ (x8 = 0 → (((nI 0) = 0 → LX12_goesFor_86 l E (d + 1) bc bs x1 x2 x3 x4 x5 (nI 0) (x7 + (nI 1)) h Q) ∧ (¬ (nI 0) = 0 → LX12_goesFor_86 l E (d + 1) bc bs x1 x2 x3 x4 x5 (nI 1) (x7 + (nI 1)) h Q))))) ∧ (¬ x5 = (-1) → ((x8 = 0 → LX12_goesFor_86 l E (d + 1) bc bs x1 x2 x3 x4 x5 (nI 0) (x7 + (nI 1)) h Q) ∧ (¬ x8 = 0 → (((nI 0) = 0 → LX12_goesFor_86 l E (d + 1) bc bs x1 x2 x3 x4 x5 (nI 0) (x7 + (nI 1)) h Q) ∧ (¬ (nI 0) = 0 → LX12_goesFor_86 l E (d + 1) bc bs x1 x2 x3 x4 x5 (nI 1) (x7 + (nI 1)) h Q)))))))))) : LX12_goesFor_153 l E (d + 1) bc bs x1 x2 x3 x4 x5 x6 x7 x8 h Q := by
  refine z_iconst (pc := 153) (v := (nI 0)) dX12_goesFor_153 (by decide) ?_
  refine z_istore (pc := 154) (ls' := [some (.inr (some (0, 12, 63))), some (.inl x1), some (.inl x2), some (.inl x3), some (.inl x4), some (.inl x5), some (.inl x6), some (.inl x7), some (.inl x8), some (.inl (nI 0))]) dX12_goesFor_154 rfl rfl ?_
  refine z_iload (pc := 156) dX12_goesFor_156 rfl ?_
  refine z_aload_n (pc := 158) dX12_goesFor_158 rfl rfl ?_
  refine z_getk (pc := 159) dX12_goesFor_159 fX12_51 rfl (s_63_17 S) ?_
  refine z_iload_n (pc := 162) dX12_goesFor_162 rfl rfl ?_
  have c1 := H.1
  replace H := H.2
  refine z_iald (pc := 163) dX12_goesFor_163 c1 ?_
  refine z_icmp_ne (pc := 164) (tgt := 191) dX12_goesFor_164 (by decide) (fun c2 => ?_) (fun c2 => ?_)
  · replace H := H.1 c2
    refine z_iload (pc := 191) dX12_goesFor_191 rfl ?_
    refine z_if_ne (pc := 193) (tgt := 201) dX12_goesFor_193 (by decide) (fun c3 => ?_) (fun c3 => ?_)
    · replace H := H.1 c3
      refine z_iconst (pc := 201) (v := (nI 1)) dX12_goesFor_201 (by decide) ?_
      refine z_goto (pc := 202) (tgt := 206) dX12_goesFor_202 (by decide) ?_
      refine z_istore (pc := 206) (ls' := [some (.inr (some (0, 12, 63))), some (.inl x1), some (.inl x2), some (.inl x3), some (.inl x4), some (.inl x5), some (.inl (nI 1)), some (.inl x7), some (.inl x8), some (.inl (nI 0))]) dX12_goesFor_206 rfl rfl ?_
      refine z_iinc (pc := 208) (v := (x7 + (nI 1))) (ls' := [some (.inr (some (0, 12, 63))), some (.inl x1), some (.inl x2), some (.inl x3), some (.inl x4), some (.inl x5), some (.inl (nI 1)), some (.inl (x7 + (nI 1))), some (.inl x8), some (.inl (nI 0))]) dX12_goesFor_208 rfl (by rw [show Int32.ofInt (1) = (nI 1) by decide]) rfl ?_
      refine z_goto (pc := 211) (tgt := 86) dX12_goesFor_211 (by decide) ?_
      exact z_drop (ls' := [some (.inr (some (0, 12, 63))), some (.inl x1), some (.inl x2), some (.inl x3), some (.inl x4), some (.inl x5), some (.inl (nI 1)), some (.inl (x7 + (nI 1))), none, none]) (by simp [dropL]) H
    · replace H := H.2 c3
      refine z_iload (pc := 196) dX12_goesFor_196 rfl ?_
      refine z_if_eq (pc := 198) (tgt := 205) dX12_goesFor_198 (by decide) (fun c4 => ?_) (fun c4 => ?_)
      · replace H := H.1 c4
        refine z_iconst (pc := 205) (v := (nI 0)) dX12_goesFor_205 (by decide) ?_
        refine z_istore (pc := 206) (ls' := [some (.inr (some (0, 12, 63))), some (.inl x1), some (.inl x2), some (.inl x3), some (.inl x4), some (.inl x5), some (.inl (nI 0)), some (.inl x7), some (.inl x8), some (.inl (nI 0))]) dX12_goesFor_206 rfl rfl ?_
        refine z_iinc (pc := 208) (v := (x7 + (nI 1))) (ls' := [some (.inr (some (0, 12, 63))), some (.inl x1), some (.inl x2), some (.inl x3), some (.inl x4), some (.inl x5), some (.inl (nI 0)), some (.inl (x7 + (nI 1))), some (.inl x8), some (.inl (nI 0))]) dX12_goesFor_208 rfl (by rw [show Int32.ofInt (1) = (nI 1) by decide]) rfl ?_
        refine z_goto (pc := 211) (tgt := 86) dX12_goesFor_211 (by decide) ?_
        exact z_drop (ls' := [some (.inr (some (0, 12, 63))), some (.inl x1), some (.inl x2), some (.inl x3), some (.inl x4), some (.inl x5), some (.inl (nI 0)), some (.inl (x7 + (nI 1))), none, none]) (by simp [dropL]) H
      · replace H := H.2 c4
        refine z_iconst (pc := 201) (v := (nI 1)) dX12_goesFor_201 (by decide) ?_
        refine z_goto (pc := 202) (tgt := 206) dX12_goesFor_202 (by decide) ?_
        refine z_istore (pc := 206) (ls' := [some (.inr (some (0, 12, 63))), some (.inl x1), some (.inl x2), some (.inl x3), some (.inl x4), some (.inl x5), some (.inl (nI 1)), some (.inl x7), some (.inl x8), some (.inl (nI 0))]) dX12_goesFor_206 rfl rfl ?_
        refine z_iinc (pc := 208) (v := (x7 + (nI 1))) (ls' := [some (.inr (some (0, 12, 63))), some (.inl x1), some (.inl x2), some (.inl x3), some (.inl x4), some (.inl x5), some (.inl (nI 1)), some (.inl (x7 + (nI 1))), some (.inl x8), some (.inl (nI 0))]) dX12_goesFor_208 rfl (by rw [show Int32.ofInt (1) = (nI 1) by decide]) rfl ?_
        refine z_goto (pc := 211) (tgt := 86) dX12_goesFor_211 (by decide) ?_
        exact z_drop (ls' := [some (.inr (some (0, 12, 63))), some (.inl x1), some (.inl x2), some (.inl x3), some (.inl x4), some (.inl x5), some (.inl (nI 1)), some (.inl (x7 + (nI 1))), none, none]) (by simp [dropL]) H
  · replace H := H.2 c2
    refine z_iload (pc := 167) dX12_goesFor_167 rfl ?_
    refine z_iconst (pc := 169) (v := (-1)) dX12_goesFor_169 (by decide) ?_
    refine z_icmp_eq (pc := 170) (tgt := 191) dX12_goesFor_170 (by decide) (fun c5 => ?_) (fun c5 => ?_)
    · replace H := H.1 c5
      refine z_iload (pc := 191) dX12_goesFor_191 rfl ?_
      refine z_if_ne (pc := 193) (tgt := 201) dX12_goesFor_193 (by decide) (fun c6 => ?_) (fun c6 => ?_)
      · replace H := H.1 c6
        refine z_iconst (pc := 201) (v := (nI 1)) dX12_goesFor_201 (by decide) ?_
        refine z_goto (pc := 202) (tgt := 206) dX12_goesFor_202 (by decide) ?_
        refine z_istore (pc := 206) (ls' := [some (.inr (some (0, 12, 63))), some (.inl x1), some (.inl x2), some (.inl x3), some (.inl x4), some (.inl x5), some (.inl (nI 1)), some (.inl x7), some (.inl x8), some (.inl (nI 0))]) dX12_goesFor_206 rfl rfl ?_
        refine z_iinc (pc := 208) (v := (x7 + (nI 1))) (ls' := [some (.inr (some (0, 12, 63))), some (.inl x1), some (.inl x2), some (.inl x3), some (.inl x4), some (.inl x5), some (.inl (nI 1)), some (.inl (x7 + (nI 1))), some (.inl x8), some (.inl (nI 0))]) dX12_goesFor_208 rfl (by rw [show Int32.ofInt (1) = (nI 1) by decide]) rfl ?_
        refine z_goto (pc := 211) (tgt := 86) dX12_goesFor_211 (by decide) ?_
        exact z_drop (ls' := [some (.inr (some (0, 12, 63))), some (.inl x1), some (.inl x2), some (.inl x3), some (.inl x4), some (.inl x5), some (.inl (nI 1)), some (.inl (x7 + (nI 1))), none, none]) (by simp [dropL]) H
      · replace H := H.2 c6
        refine z_iload (pc := 196) dX12_goesFor_196 rfl ?_
        refine z_if_eq (pc := 198) (tgt := 205) dX12_goesFor_198 (by decide) (fun c7 => ?_) (fun c7 => ?_)
        · replace H := H.1 c7
          refine z_iconst (pc := 205) (v := (nI 0)) dX12_goesFor_205 (by decide) ?_
          refine z_istore (pc := 206) (ls' := [some (.inr (some (0, 12, 63))), some (.inl x1), some (.inl x2), some (.inl x3), some (.inl x4), some (.inl x5), some (.inl (nI 0)), some (.inl x7), some (.inl x8), some (.inl (nI 0))]) dX12_goesFor_206 rfl rfl ?_
          refine z_iinc (pc := 208) (v := (x7 + (nI 1))) (ls' := [some (.inr (some (0, 12, 63))), some (.inl x1), some (.inl x2), some (.inl x3), some (.inl x4), some (.inl x5), some (.inl (nI 0)), some (.inl (x7 + (nI 1))), some (.inl x8), some (.inl (nI 0))]) dX12_goesFor_208 rfl (by rw [show Int32.ofInt (1) = (nI 1) by decide]) rfl ?_
          refine z_goto (pc := 211) (tgt := 86) dX12_goesFor_211 (by decide) ?_
          exact z_drop (ls' := [some (.inr (some (0, 12, 63))), some (.inl x1), some (.inl x2), some (.inl x3), some (.inl x4), some (.inl x5), some (.inl (nI 0)), some (.inl (x7 + (nI 1))), none, none]) (by simp [dropL]) H
        · replace H := H.2 c7
          refine z_iconst (pc := 201) (v := (nI 1)) dX12_goesFor_201 (by decide) ?_
          refine z_goto (pc := 202) (tgt := 206) dX12_goesFor_202 (by decide) ?_
          refine z_istore (pc := 206) (ls' := [some (.inr (some (0, 12, 63))), some (.inl x1), some (.inl x2), some (.inl x3), some (.inl x4), some (.inl x5), some (.inl (nI 1)), some (.inl x7), some (.inl x8), some (.inl (nI 0))]) dX12_goesFor_206 rfl rfl ?_
          refine z_iinc (pc := 208) (v := (x7 + (nI 1))) (ls' := [some (.inr (some (0, 12, 63))), some (.inl x1), some (.inl x2), some (.inl x3), some (.inl x4), some (.inl x5), some (.inl (nI 1)), some (.inl (x7 + (nI 1))), some (.inl x8), some (.inl (nI 0))]) dX12_goesFor_208 rfl (by rw [show Int32.ofInt (1) = (nI 1) by decide]) rfl ?_
          refine z_goto (pc := 211) (tgt := 86) dX12_goesFor_211 (by decide) ?_
          exact z_drop (ls' := [some (.inr (some (0, 12, 63))), some (.inl x1), some (.inl x2), some (.inl x3), some (.inl x4), some (.inl x5), some (.inl (nI 1)), some (.inl (x7 + (nI 1))), none, none]) (by simp [dropL]) H
    · replace H := H.2 c5
      refine z_iload (pc := 173) dX12_goesFor_173 rfl ?_
      refine z_if_eq (pc := 175) (tgt := 187) dX12_goesFor_175 (by decide) (fun c8 => ?_) (fun c8 => ?_)
      · replace H := H.1 c8
        refine z_iconst (pc := 187) (v := (nI 0)) dX12_goesFor_187 (by decide) ?_
        refine z_goto (pc := 188) (tgt := 206) dX12_goesFor_188 (by decide) ?_
        refine z_istore (pc := 206) (ls' := [some (.inr (some (0, 12, 63))), some (.inl x1), some (.inl x2), some (.inl x3), some (.inl x4), some (.inl x5), some (.inl (nI 0)), some (.inl x7), some (.inl x8), some (.inl (nI 0))]) dX12_goesFor_206 rfl rfl ?_
        refine z_iinc (pc := 208) (v := (x7 + (nI 1))) (ls' := [some (.inr (some (0, 12, 63))), some (.inl x1), some (.inl x2), some (.inl x3), some (.inl x4), some (.inl x5), some (.inl (nI 0)), some (.inl (x7 + (nI 1))), some (.inl x8), some (.inl (nI 0))]) dX12_goesFor_208 rfl (by rw [show Int32.ofInt (1) = (nI 1) by decide]) rfl ?_
        refine z_goto (pc := 211) (tgt := 86) dX12_goesFor_211 (by decide) ?_
        exact z_drop (ls' := [some (.inr (some (0, 12, 63))), some (.inl x1), some (.inl x2), some (.inl x3), some (.inl x4), some (.inl x5), some (.inl (nI 0)), some (.inl (x7 + (nI 1))), none, none]) (by simp [dropL]) H
      · replace H := H.2 c8
        refine z_iload (pc := 178) dX12_goesFor_178 rfl ?_
        refine z_if_eq (pc := 180) (tgt := 187) dX12_goesFor_180 (by decide) (fun c9 => ?_) (fun c9 => ?_)
        · replace H := H.1 c9
          refine z_iconst (pc := 187) (v := (nI 0)) dX12_goesFor_187 (by decide) ?_
          refine z_goto (pc := 188) (tgt := 206) dX12_goesFor_188 (by decide) ?_
          refine z_istore (pc := 206) (ls' := [some (.inr (some (0, 12, 63))), some (.inl x1), some (.inl x2), some (.inl x3), some (.inl x4), some (.inl x5), some (.inl (nI 0)), some (.inl x7), some (.inl x8), some (.inl (nI 0))]) dX12_goesFor_206 rfl rfl ?_
          refine z_iinc (pc := 208) (v := (x7 + (nI 1))) (ls' := [some (.inr (some (0, 12, 63))), some (.inl x1), some (.inl x2), some (.inl x3), some (.inl x4), some (.inl x5), some (.inl (nI 0)), some (.inl (x7 + (nI 1))), some (.inl x8), some (.inl (nI 0))]) dX12_goesFor_208 rfl (by rw [show Int32.ofInt (1) = (nI 1) by decide]) rfl ?_
          refine z_goto (pc := 211) (tgt := 86) dX12_goesFor_211 (by decide) ?_
          exact z_drop (ls' := [some (.inr (some (0, 12, 63))), some (.inl x1), some (.inl x2), some (.inl x3), some (.inl x4), some (.inl x5), some (.inl (nI 0)), some (.inl (x7 + (nI 1))), none, none]) (by simp [dropL]) H
        · replace H := H.2 c9
          refine z_iconst (pc := 183) (v := (nI 1)) dX12_goesFor_183 (by decide) ?_
          refine z_goto (pc := 184) (tgt := 206) dX12_goesFor_184 (by decide) ?_
          refine z_istore (pc := 206) (ls' := [some (.inr (some (0, 12, 63))), some (.inl x1), some (.inl x2), some (.inl x3), some (.inl x4), some (.inl x5), some (.inl (nI 1)), some (.inl x7), some (.inl x8), some (.inl (nI 0))]) dX12_goesFor_206 rfl rfl ?_
          refine z_iinc (pc := 208) (v := (x7 + (nI 1))) (ls' := [some (.inr (some (0, 12, 63))), some (.inl x1), some (.inl x2), some (.inl x3), some (.inl x4), some (.inl x5), some (.inl (nI 1)), some (.inl (x7 + (nI 1))), some (.inl x8), some (.inl (nI 0))]) dX12_goesFor_208 rfl (by rw [show Int32.ofInt (1) = (nI 1) by decide]) rfl ?_
          refine z_goto (pc := 211) (tgt := 86) dX12_goesFor_211 (by decide) ?_
          exact z_drop (ls' := [some (.inr (some (0, 12, 63))), some (.inl x1), some (.inl x2), some (.inl x3), some (.inl x4), some (.inl x5), some (.inl (nI 1)), some (.inl (x7 + (nI 1))), none, none]) (by simp [dropL]) H

abbrev LX12_bits_4 (l : Launch) (E : eE) (d bc bs : Nat) (x0 : Int32) (x1 : Int32) (x2 : Int32) (h : aH) (Q : Int32 → aH → Prop) : Prop := TI l E mX12_bits d bc bs 4 [some (.inl x0), some (.inl x1), some (.inl x2)] [] h Q

set_option maxRecDepth 20000 in
theorem bX12_bits_0 {l : Launch} {E : eE} {d bc bs : Nat} {h : aH} {Q : Int32 → aH → Prop} {x0 : Int32} (S : SH h) (H : LX12_bits_4 l E d bc bs x0 (nI 0) (nI 0) h Q) : CI l E d bc bs mX12_bits [.inl x0] h Q := by
  refine CI.of (by decide) rfl ?_
  show TI l E mX12_bits d bc bs 0 [some (.inl x0), none, none] [] h Q
  refine z_iconst (pc := 0) (v := (nI 0)) dX12_bits_0 (by decide) ?_
  refine z_istore_n (pc := 1) (ls' := [some (.inl x0), some (.inl (nI 0)), none]) dX12_bits_1 rfl rfl rfl ?_
  refine z_iconst (pc := 2) (v := (nI 0)) dX12_bits_2 (by decide) ?_
  refine z_istore_n (pc := 3) (ls' := [some (.inl x0), some (.inl (nI 0)), some (.inl (nI 0))]) dX12_bits_3 rfl rfl rfl ?_
  exact H

set_option maxRecDepth 20000 in
theorem bX12_bits_4 {l : Launch} {E : eE} {d bc bs : Nat} {h : aH} {Q : Int32 → aH → Prop} {x0 : Int32} {x1 : Int32} {x2 : Int32} (S : SH h) (H : (((nI 12) ≤ x2 → Q x1 h) ∧ (¬ (nI 12) ≤ x2 → LX12_bits_4 l E d bc bs x0 (x1 + ((x0 >>> (x2 &&& 31)) &&& (nI 1))) (x2 + (nI 1)) h Q))) : LX12_bits_4 l E d bc bs x0 x1 x2 h Q := by
  refine z_iload_n (pc := 4) dX12_bits_4 rfl rfl ?_
  refine z_bipush (pc := 5) (v := (nI 12)) dX12_bits_5 (by decide) ?_
  refine z_icmp_ge (pc := 7) (tgt := 24) dX12_bits_7 (by decide) (fun c1 => ?_) (fun c1 => ?_)
  · replace H := H.1 c1
    refine z_iload_n (pc := 24) dX12_bits_24 rfl rfl ?_
    exact z_iret (pc := 25) dX12_bits_25 rfl rfl ⟨_, rfl, H⟩
  · replace H := H.2 c1
    refine z_iload_n (pc := 10) dX12_bits_10 rfl rfl ?_
    refine z_iload_n (pc := 11) dX12_bits_11 rfl rfl ?_
    refine z_iload_n (pc := 12) dX12_bits_12 rfl rfl ?_
    refine z_ishr (pc := 13) dX12_bits_13 ?_
    refine z_iconst (pc := 14) (v := (nI 1)) dX12_bits_14 (by decide) ?_
    refine z_iand (pc := 15) dX12_bits_15 ?_
    refine z_iadd (pc := 16) dX12_bits_16 ?_
    refine z_istore_n (pc := 17) (ls' := [some (.inl x0), some (.inl (x1 + ((x0 >>> (x2 &&& 31)) &&& (nI 1)))), some (.inl x2)]) dX12_bits_17 rfl rfl rfl ?_
    refine z_iinc (pc := 18) (v := (x2 + (nI 1))) (ls' := [some (.inl x0), some (.inl (x1 + ((x0 >>> (x2 &&& 31)) &&& (nI 1)))), some (.inl (x2 + (nI 1)))]) dX12_bits_18 rfl (by rw [show Int32.ofInt (1) = (nI 1) by decide]) rfl ?_
    refine z_goto (pc := 21) (tgt := 4) dX12_bits_21 (by decide) ?_
    exact H

set_option maxRecDepth 20000 in
theorem bX12_isAhead_0 {l : Launch} {E : eE} {d bc bs : Nat} {h : aH} {Q : Int32 → aH → Prop} {x0 : Int32} {x1 : Int32} (S : SH h) (H : (CI l E d 0 0 mX12_bits [.inl x0] h (fun v1 h1 => SH h1 ∧ (CI l E d 0 0 mX12_bits [.inl x1] h1 (fun v2 h2 => SH h2 ∧ ((v1 = v2 → (((x0 &&& ((x0 ^^^ x1) &&& (0 - (x0 ^^^ x1)))) = 0 → Q (nI 0) h2) ∧ (¬ (x0 &&& ((x0 ^^^ x1) &&& (0 - (x0 ^^^ x1)))) = 0 → Q (nI 1) h2))) ∧ (¬ v1 = v2 → (CI l E d 0 0 mX12_bits [.inl x0] h2 (fun v5 h5 => SH h5 ∧ (CI l E d 0 0 mX12_bits [.inl x1] h5 (fun v6 h6 => SH h6 ∧ ((v6 ≤ v5 → Q (nI 0) h6) ∧ (¬ v6 ≤ v5 → Q (nI 1) h6))))))))))))) : CI l E (d + 1) bc bs mX12_isAhead [.inl x0, .inl x1] h Q := by
  refine CI.of (by decide) rfl ?_
  show TI l E mX12_isAhead (d + 1) bc bs 0 [some (.inl x0), some (.inl x1), none] [] h Q
  refine z_iload_n (pc := 0) dX12_isAhead_0 rfl rfl ?_
  refine y_SI (pc := 1) (bc := bc) (bs := bs) (mc := 0) (ms := 0) (As := [.inl x0]) (rest := []) dX12_isAhead_1 kX12_bits lX12_254 rfl rfl (H.use (fun v1 h1 H => ?_))
  have S1 := H.1
  replace H := H.2
  refine z_iload_n (pc := 4) dX12_isAhead_4 rfl rfl ?_
  refine y_SI (pc := 5) (bc := bc) (bs := bs) (mc := 0) (ms := 0) (As := [.inl x1]) (rest := [.inl v1]) dX12_isAhead_5 kX12_bits lX12_254 rfl rfl (H.use (fun v2 h2 H => ?_))
  have S2 := H.1
  replace H := H.2
  refine z_icmp_eq (pc := 8) (tgt := 28) dX12_isAhead_8 (by decide) (fun c3 => ?_) (fun c3 => ?_)
  · replace H := H.1 c3
    refine z_iload_n (pc := 28) dX12_isAhead_28 rfl rfl ?_
    refine z_iload_n (pc := 29) dX12_isAhead_29 rfl rfl ?_
    refine z_ixor (pc := 30) dX12_isAhead_30 ?_
    refine z_istore_n (pc := 31) (ls' := [some (.inl x0), some (.inl x1), some (.inl (x0 ^^^ x1))]) dX12_isAhead_31 rfl rfl rfl ?_
    refine z_iload_n (pc := 32) dX12_isAhead_32 rfl rfl ?_
    refine z_iload_n (pc := 33) dX12_isAhead_33 rfl rfl ?_
    refine z_iload_n (pc := 34) dX12_isAhead_34 rfl rfl ?_
    refine z_ineg (pc := 35) dX12_isAhead_35 ?_
    refine z_iand (pc := 36) dX12_isAhead_36 ?_
    refine z_iand (pc := 37) dX12_isAhead_37 ?_
    refine z_if_eq (pc := 38) (tgt := 45) dX12_isAhead_38 (by decide) (fun c4 => ?_) (fun c4 => ?_)
    · replace H := H.1 c4
      refine z_iconst (pc := 45) (v := (nI 0)) dX12_isAhead_45 (by decide) ?_
      exact z_iret (pc := 46) dX12_isAhead_46 rfl rfl ⟨_, rfl, H⟩
    · replace H := H.2 c4
      refine z_iconst (pc := 41) (v := (nI 1)) dX12_isAhead_41 (by decide) ?_
      refine z_goto (pc := 42) (tgt := 46) dX12_isAhead_42 (by decide) ?_
      exact z_iret (pc := 46) dX12_isAhead_46 rfl rfl ⟨_, rfl, H⟩
  · replace H := H.2 c3
    refine z_iload_n (pc := 11) dX12_isAhead_11 rfl rfl ?_
    refine y_SI (pc := 12) (bc := bc) (bs := bs) (mc := 0) (ms := 0) (As := [.inl x0]) (rest := []) dX12_isAhead_12 kX12_bits lX12_254 rfl rfl (H.use (fun v5 h5 H => ?_))
    have S5 := H.1
    replace H := H.2
    refine z_iload_n (pc := 15) dX12_isAhead_15 rfl rfl ?_
    refine y_SI (pc := 16) (bc := bc) (bs := bs) (mc := 0) (ms := 0) (As := [.inl x1]) (rest := [.inl v5]) dX12_isAhead_16 kX12_bits lX12_254 rfl rfl (H.use (fun v6 h6 H => ?_))
    have S6 := H.1
    replace H := H.2
    refine z_icmp_ge (pc := 19) (tgt := 26) dX12_isAhead_19 (by decide) (fun c7 => ?_) (fun c7 => ?_)
    · replace H := H.1 c7
      refine z_iconst (pc := 26) (v := (nI 0)) dX12_isAhead_26 (by decide) ?_
      exact z_iret (pc := 27) dX12_isAhead_27 rfl rfl ⟨_, rfl, H⟩
    · replace H := H.2 c7
      refine z_iconst (pc := 22) (v := (nI 1)) dX12_isAhead_22 (by decide) ?_
      refine z_goto (pc := 23) (tgt := 27) dX12_isAhead_23 (by decide) ?_
      exact z_iret (pc := 27) dX12_isAhead_27 rfl rfl ⟨_, rfl, H⟩

abbrev LX12_leastStuck_4 (l : Launch) (E : eE) (d bc bs : Nat) (x1 : Int32) (x2 : Int32) (x3 : Int32) (h : aH) (Q : Int32 → aH → Prop) : Prop := TI l E mX12_leastStuck d bc bs 4 [some (.inr (some (0, 12, 63))), some (.inl x1), some (.inl x2), some (.inl x3), none] [] h Q

abbrev LX12_leastStuck_65 (l : Launch) (E : eE) (d bc bs : Nat) (x1 : Int32) (x2 : Int32) (x3 : Int32) (x4 : Int32) (h : aH) (Q : Int32 → aH → Prop) : Prop := TI l E mX12_leastStuck d bc bs 65 [some (.inr (some (0, 12, 63))), some (.inl x1), some (.inl x2), some (.inl x3), some (.inl x4)] [] h Q

set_option maxRecDepth 20000 in
theorem bX12_leastStuck_0 {l : Launch} {E : eE} {d bc bs : Nat} {h : aH} {Q : Int32 → aH → Prop} {x1 : Int32} (S : SH h) (H : LX12_leastStuck_4 l E (d + 1) bc bs x1 (nI 0) (nI 0) h Q) : CI l E (d + 1) bc bs mX12_leastStuck [.inr (some (0, 12, 63)), .inl x1] h Q := by
  refine CI.of (by decide) rfl ?_
  show TI l E mX12_leastStuck (d + 1) bc bs 0 [some (.inr (some (0, 12, 63))), some (.inl x1), none, none, none] [] h Q
  refine z_iconst (pc := 0) (v := (nI 0)) dX12_leastStuck_0 (by decide) ?_
  refine z_istore_n (pc := 1) (ls' := [some (.inr (some (0, 12, 63))), some (.inl x1), some (.inl (nI 0)), none, none]) dX12_leastStuck_1 rfl rfl rfl ?_
  refine z_iconst (pc := 2) (v := (nI 0)) dX12_leastStuck_2 (by decide) ?_
  refine z_istore_n (pc := 3) (ls' := [some (.inr (some (0, 12, 63))), some (.inl x1), some (.inl (nI 0)), some (.inl (nI 0)), none]) dX12_leastStuck_3 rfl rfl rfl ?_
  exact H

set_option maxRecDepth 20000 in
theorem bX12_leastStuck_4 {l : Launch} {E : eE} {d bc bs : Nat} {h : aH} {Q : Int32 → aH → Prop} {x1 : Int32} {x2 : Int32} {x3 : Int32} (S : SH h) (H : (((hI h 63 3) ≤ x3 → (CI l E d 0 0 mX12_goesFor [.inr (some (0, 12, 63)), .inl x1, .inl x2] h (fun v2 h2 => SH h2 ∧ ((v2 = 0 → LX12_leastStuck_65 l E (d + 1) bc bs x1 x2 x2 (nI 0) h2 Q) ∧ (¬ v2 = 0 → Q (nI 0) h2))))) ∧ (¬ (hI h 63 3) ≤ x3 → (vp_in (((nI 12) * x1) + x3) 48 ∧ (((hA h 79 ((((nI 12) * x1) + x3)).toNatClampNeg) = (nI 1) → LX12_leastStuck_4 l E (d + 1) bc bs x1 (x2 ||| ((nI 1) <<< (x3 &&& 31))) (x3 + (nI 1)) h Q) ∧ (¬ (hA h 79 ((((nI 12) * x1) + x3)).toNatClampNeg) = (nI 1) → (vp_in x1 4 ∧ ((¬ x3 = (hA h 76 (x1).toNatClampNeg) → LX12_leastStuck_4 l E (d + 1) bc bs x1 x2 (x3 + (nI 1)) h Q) ∧ (x3 = (hA h 76 (x1).toNatClampNeg) → LX12_leastStuck_4 l E (d + 1) bc bs x1 (x2 ||| ((nI 1) <<< (x3 &&& 31))) (x3 + (nI 1)) h Q))))))))) : LX12_leastStuck_4 l E (d + 1) bc bs x1 x2 x3 h Q := by
  refine z_iload_n (pc := 4) dX12_leastStuck_4 rfl rfl ?_
  refine z_aload_n (pc := 5) dX12_leastStuck_5 rfl rfl ?_
  refine z_geti (pc := 6) dX12_leastStuck_6 fX12_123 rfl ?_
  refine z_icmp_ge (pc := 9) (tgt := 49) dX12_leastStuck_9 (by decide) (fun c1 => ?_) (fun c1 => ?_)
  · replace H := H.1 c1
    refine z_aload_n (pc := 49) dX12_leastStuck_49 rfl rfl ?_
    refine z_iload_n (pc := 50) dX12_leastStuck_50 rfl rfl ?_
    refine z_iload_n (pc := 51) dX12_leastStuck_51 rfl rfl ?_
    refine y_VI (pc := 52) (bc := bc) (bs := bs) (mc := 0) (ms := 0) (As := [.inl x1, .inl x2]) (rest := []) dX12_leastStuck_52 kX12_goesFor lX12_248 ⟨_, _, rfl⟩ rfl rfl (H.use (fun v2 h2 H => ?_))
    have S2 := H.1
    replace H := H.2
    refine z_if_eq (pc := 55) (tgt := 60) dX12_leastStuck_55 (by decide) (fun c3 => ?_) (fun c3 => ?_)
    · replace H := H.1 c3
      refine z_iload_n (pc := 60) dX12_leastStuck_60 rfl rfl ?_
      refine z_istore_n (pc := 61) (ls' := [some (.inr (some (0, 12, 63))), some (.inl x1), some (.inl x2), some (.inl x2), none]) dX12_leastStuck_61 rfl rfl rfl ?_
      refine z_iconst (pc := 62) (v := (nI 0)) dX12_leastStuck_62 (by decide) ?_
      refine z_istore (pc := 63) (ls' := [some (.inr (some (0, 12, 63))), some (.inl x1), some (.inl x2), some (.inl x2), some (.inl (nI 0))]) dX12_leastStuck_63 rfl rfl ?_
      exact H
    · replace H := H.2 c3
      refine z_iconst (pc := 58) (v := (nI 0)) dX12_leastStuck_58 (by decide) ?_
      exact z_iret (pc := 59) dX12_leastStuck_59 rfl rfl ⟨_, rfl, H⟩
  · replace H := H.2 c1
    refine z_aload_n (pc := 12) dX12_leastStuck_12 rfl rfl ?_
    refine z_getk (pc := 13) dX12_leastStuck_13 fX12_60 rfl (s_63_20 S) ?_
    refine z_bipush (pc := 16) (v := (nI 12)) dX12_leastStuck_16 (by decide) ?_
    refine z_iload_n (pc := 18) dX12_leastStuck_18 rfl rfl ?_
    refine z_imul (pc := 19) dX12_leastStuck_19 ?_
    refine z_iload_n (pc := 20) dX12_leastStuck_20 rfl rfl ?_
    refine z_iadd (pc := 21) dX12_leastStuck_21 ?_
    have c4 := H.1
    replace H := H.2
    refine z_iald (pc := 22) dX12_leastStuck_22 c4 ?_
    refine z_iconst (pc := 23) (v := (nI 1)) dX12_leastStuck_23 (by decide) ?_
    refine z_icmp_eq (pc := 24) (tgt := 37) dX12_leastStuck_24 (by decide) (fun c5 => ?_) (fun c5 => ?_)
    · replace H := H.1 c5
      refine z_iload_n (pc := 37) dX12_leastStuck_37 rfl rfl ?_
      refine z_iconst (pc := 38) (v := (nI 1)) dX12_leastStuck_38 (by decide) ?_
      refine z_iload_n (pc := 39) dX12_leastStuck_39 rfl rfl ?_
      refine z_ishl (pc := 40) dX12_leastStuck_40 ?_
      refine z_ior (pc := 41) dX12_leastStuck_41 ?_
      refine z_istore_n (pc := 42) (ls' := [some (.inr (some (0, 12, 63))), some (.inl x1), some (.inl (x2 ||| ((nI 1) <<< (x3 &&& 31)))), some (.inl x3), none]) dX12_leastStuck_42 rfl rfl rfl ?_
      refine z_iinc (pc := 43) (v := (x3 + (nI 1))) (ls' := [some (.inr (some (0, 12, 63))), some (.inl x1), some (.inl (x2 ||| ((nI 1) <<< (x3 &&& 31)))), some (.inl (x3 + (nI 1))), none]) dX12_leastStuck_43 rfl (by rw [show Int32.ofInt (1) = (nI 1) by decide]) rfl ?_
      refine z_goto (pc := 46) (tgt := 4) dX12_leastStuck_46 (by decide) ?_
      exact H
    · replace H := H.2 c5
      refine z_iload_n (pc := 27) dX12_leastStuck_27 rfl rfl ?_
      refine z_aload_n (pc := 28) dX12_leastStuck_28 rfl rfl ?_
      refine z_getk (pc := 29) dX12_leastStuck_29 fX12_51 rfl (s_63_17 S) ?_
      refine z_iload_n (pc := 32) dX12_leastStuck_32 rfl rfl ?_
      have c6 := H.1
      replace H := H.2
      refine z_iald (pc := 33) dX12_leastStuck_33 c6 ?_
      refine z_icmp_ne (pc := 34) (tgt := 43) dX12_leastStuck_34 (by decide) (fun c7 => ?_) (fun c7 => ?_)
      · replace H := H.1 c7
        refine z_iinc (pc := 43) (v := (x3 + (nI 1))) (ls' := [some (.inr (some (0, 12, 63))), some (.inl x1), some (.inl x2), some (.inl (x3 + (nI 1))), none]) dX12_leastStuck_43 rfl (by rw [show Int32.ofInt (1) = (nI 1) by decide]) rfl ?_
        refine z_goto (pc := 46) (tgt := 4) dX12_leastStuck_46 (by decide) ?_
        exact H
      · replace H := H.2 c7
        refine z_iload_n (pc := 37) dX12_leastStuck_37 rfl rfl ?_
        refine z_iconst (pc := 38) (v := (nI 1)) dX12_leastStuck_38 (by decide) ?_
        refine z_iload_n (pc := 39) dX12_leastStuck_39 rfl rfl ?_
        refine z_ishl (pc := 40) dX12_leastStuck_40 ?_
        refine z_ior (pc := 41) dX12_leastStuck_41 ?_
        refine z_istore_n (pc := 42) (ls' := [some (.inr (some (0, 12, 63))), some (.inl x1), some (.inl (x2 ||| ((nI 1) <<< (x3 &&& 31)))), some (.inl x3), none]) dX12_leastStuck_42 rfl rfl rfl ?_
        refine z_iinc (pc := 43) (v := (x3 + (nI 1))) (ls' := [some (.inr (some (0, 12, 63))), some (.inl x1), some (.inl (x2 ||| ((nI 1) <<< (x3 &&& 31)))), some (.inl (x3 + (nI 1))), none]) dX12_leastStuck_43 rfl (by rw [show Int32.ofInt (1) = (nI 1) by decide]) rfl ?_
        refine z_goto (pc := 46) (tgt := 4) dX12_leastStuck_46 (by decide) ?_
        exact H

set_option maxRecDepth 20000 in
theorem bX12_leastStuck_65 {l : Launch} {E : eE} {d bc bs : Nat} {h : aH} {Q : Int32 → aH → Prop} {x1 : Int32} {x2 : Int32} {x3 : Int32} {x4 : Int32} (S : SH h) (H : (((nI 4096) ≤ x4 → Q x3 h) ∧ (¬ (nI 4096) ≤ x4 → ((¬ (x4 &&& (x2 ^^^ (-1))) = 0 → LX12_leastStuck_65 l E (d + 1) bc bs x1 x2 x3 (x4 + (nI 1)) h Q) ∧ ((x4 &&& (x2 ^^^ (-1))) = 0 → (CI l E d 0 0 mX12_goesFor [.inr (some (0, 12, 63)), .inl x1, .inl x4] h (fun v3 h3 => SH h3 ∧ ((v3 = 0 → (CI l E d 0 0 mX12_isAhead [.inl x4, .inl x3] h3 (fun v5 h5 => SH h5 ∧ ((v5 = 0 → LX12_leastStuck_65 l E (d + 1) bc bs x1 x2 x3 (x4 + (nI 1)) h5 Q) ∧ (¬ v5 = 0 → LX12_leastStuck_65 l E (d + 1) bc bs x1 x2 x4 (x4 + (nI 1)) h5 Q))))) ∧ (¬ v3 = 0 → LX12_leastStuck_65 l E (d + 1) bc bs x1 x2 x3 (x4 + (nI 1)) h3 Q))))))))) : LX12_leastStuck_65 l E (d + 1) bc bs x1 x2 x3 x4 h Q := by
  refine z_iload (pc := 65) dX12_leastStuck_65 rfl ?_
  refine z_sipush (pc := 67) (v := (nI 4096)) dX12_leastStuck_67 (by decide) ?_
  refine z_icmp_ge (pc := 70) (tgt := 113) dX12_leastStuck_70 (by decide) (fun c1 => ?_) (fun c1 => ?_)
  · replace H := H.1 c1
    refine z_iload_n (pc := 113) dX12_leastStuck_113 rfl rfl ?_
    exact z_iret (pc := 114) dX12_leastStuck_114 rfl rfl ⟨_, rfl, H⟩
  · replace H := H.2 c1
    refine z_iload (pc := 73) dX12_leastStuck_73 rfl ?_
    refine z_iload_n (pc := 75) dX12_leastStuck_75 rfl rfl ?_
    refine z_iconst (pc := 76) (v := (-1)) dX12_leastStuck_76 (by decide) ?_
    refine z_ixor (pc := 77) dX12_leastStuck_77 ?_
    refine z_iand (pc := 78) dX12_leastStuck_78 ?_
    refine z_if_ne (pc := 79) (tgt := 107) dX12_leastStuck_79 (by decide) (fun c2 => ?_) (fun c2 => ?_)
    · replace H := H.1 c2
      refine z_iinc (pc := 107) (v := (x4 + (nI 1))) (ls' := [some (.inr (some (0, 12, 63))), some (.inl x1), some (.inl x2), some (.inl x3), some (.inl (x4 + (nI 1)))]) dX12_leastStuck_107 rfl (by rw [show Int32.ofInt (1) = (nI 1) by decide]) rfl ?_
      refine z_goto (pc := 110) (tgt := 65) dX12_leastStuck_110 (by decide) ?_
      exact H
    · replace H := H.2 c2
      refine z_aload_n (pc := 82) dX12_leastStuck_82 rfl rfl ?_
      refine z_iload_n (pc := 83) dX12_leastStuck_83 rfl rfl ?_
      refine z_iload (pc := 84) dX12_leastStuck_84 rfl ?_
      refine y_VI (pc := 86) (bc := bc) (bs := bs) (mc := 0) (ms := 0) (As := [.inl x1, .inl x4]) (rest := []) dX12_leastStuck_86 kX12_goesFor lX12_248 ⟨_, _, rfl⟩ rfl rfl (H.use (fun v3 h3 H => ?_))
      have S3 := H.1
      replace H := H.2
      refine z_if_eq (pc := 89) (tgt := 95) dX12_leastStuck_89 (by decide) (fun c4 => ?_) (fun c4 => ?_)
      · replace H := H.1 c4
        refine z_iload (pc := 95) dX12_leastStuck_95 rfl ?_
        refine z_iload_n (pc := 97) dX12_leastStuck_97 rfl rfl ?_
        refine y_SI (pc := 98) (bc := bc) (bs := bs) (mc := 0) (ms := 0) (As := [.inl x4, .inl x3]) (rest := []) dX12_leastStuck_98 kX12_isAhead lX12_251 rfl rfl (H.use (fun v5 h5 H => ?_))
        have S5 := H.1
        replace H := H.2
        refine z_if_eq (pc := 101) (tgt := 107) dX12_leastStuck_101 (by decide) (fun c6 => ?_) (fun c6 => ?_)
        · replace H := H.1 c6
          refine z_iinc (pc := 107) (v := (x4 + (nI 1))) (ls' := [some (.inr (some (0, 12, 63))), some (.inl x1), some (.inl x2), some (.inl x3), some (.inl (x4 + (nI 1)))]) dX12_leastStuck_107 rfl (by rw [show Int32.ofInt (1) = (nI 1) by decide]) rfl ?_
          refine z_goto (pc := 110) (tgt := 65) dX12_leastStuck_110 (by decide) ?_
          exact H
        · replace H := H.2 c6
          refine z_iload (pc := 104) dX12_leastStuck_104 rfl ?_
          refine z_istore_n (pc := 106) (ls' := [some (.inr (some (0, 12, 63))), some (.inl x1), some (.inl x2), some (.inl x4), some (.inl x4)]) dX12_leastStuck_106 rfl rfl rfl ?_
          refine z_iinc (pc := 107) (v := (x4 + (nI 1))) (ls' := [some (.inr (some (0, 12, 63))), some (.inl x1), some (.inl x2), some (.inl x4), some (.inl (x4 + (nI 1)))]) dX12_leastStuck_107 rfl (by rw [show Int32.ofInt (1) = (nI 1) by decide]) rfl ?_
          refine z_goto (pc := 110) (tgt := 65) dX12_leastStuck_110 (by decide) ?_
          exact H
      · replace H := H.2 c4
        refine z_goto (pc := 92) (tgt := 107) dX12_leastStuck_92 (by decide) ?_
        refine z_iinc (pc := 107) (v := (x4 + (nI 1))) (ls' := [some (.inr (some (0, 12, 63))), some (.inl x1), some (.inl x2), some (.inl x3), some (.inl (x4 + (nI 1)))]) dX12_leastStuck_107 rfl (by rw [show Int32.ofInt (1) = (nI 1) by decide]) rfl ?_
        refine z_goto (pc := 110) (tgt := 65) dX12_leastStuck_110 (by decide) ?_
        exact H

abbrev LX12_plan_83 (l : Launch) (E : eE) (d bc bs : Nat) (x1 : Int32) (x2 : Int32) (x3 : Int32) (x4 : Int32) (x5 : Int32) (x6 : Int32) (x7 : Int32) (h : aH) (Q : Int32 → aH → Prop) : Prop := TI l E mX12_plan d bc bs 83 [some (.inr (some (0, 12, 63))), some (.inl x1), some (.inl x2), some (.inl x3), some (.inl x4), some (.inl x5), some (.inl x6), some (.inl x7), none, none, none, none, none] [] h Q

abbrev LX12_plan_116 (l : Launch) (E : eE) (d bc bs : Nat) (x1 : Int32) (x2 : Int32) (x3 : Int32) (x4 : Int32) (x5 : Int32) (x6 : Int32) (x7 : Int32) (x8 : Int32) (x9 : Int32) (h : aH) (Q : Int32 → aH → Prop) : Prop := TI l E mX12_plan d bc bs 116 [some (.inr (some (0, 12, 63))), some (.inl x1), some (.inl x2), some (.inl x3), some (.inl x4), some (.inl x5), some (.inl x6), some (.inl x7), some (.inl x8), some (.inl x9), none, none, none] [] h Q

abbrev LX12_plan_204 (l : Launch) (E : eE) (d bc bs : Nat) (x1 : Int32) (x2 : Int32) (x3 : Int32) (x4 : Int32) (x5 : Int32) (x6 : Int32) (x7 : Int32) (x8 : Int32) (x9 : Int32) (x10 : Int32) (x11 : Int32) (x12 : Int32) (h : aH) (Q : Int32 → aH → Prop) : Prop := TI l E mX12_plan d bc bs 204 [some (.inr (some (0, 12, 63))), some (.inl x1), some (.inl x2), some (.inl x3), some (.inl x4), some (.inl x5), some (.inl x6), some (.inl x7), some (.inl x8), some (.inl x9), some (.inl x10), some (.inl x11), some (.inl x12)] [] h Q

abbrev LX12_plan_317 (l : Launch) (E : eE) (d bc bs : Nat) (x1 : Int32) (x2 : Int32) (x3 : Int32) (x4 : Int32) (x5 : Int32) (x6 : Int32) (x7 : Int32) (x8 : Int32) (h : aH) (Q : Int32 → aH → Prop) : Prop := TI l E mX12_plan d bc bs 317 [some (.inr (some (0, 12, 63))), some (.inl x1), some (.inl x2), some (.inl x3), some (.inl x4), some (.inl x5), some (.inl x6), some (.inl x7), some (.inl x8), none, none, none, none] [] h Q

abbrev LX12_plan_341 (l : Launch) (E : eE) (d bc bs : Nat) (x1 : Int32) (x2 : Int32) (x3 : Int32) (x4 : Int32) (x5 : Int32) (x6 : Int32) (x7 : Int32) (x8 : Int32) (h : aH) (Q : Int32 → aH → Prop) : Prop := TI l E mX12_plan d bc bs 341 [some (.inr (some (0, 12, 63))), some (.inl x1), some (.inl x2), some (.inl x3), some (.inl x4), some (.inl x5), some (.inl x6), some (.inl x7), some (.inl x8), none, none, none, none] [] h Q

abbrev LX12_plan_352 (l : Launch) (E : eE) (d bc bs : Nat) (x1 : Int32) (x2 : Int32) (x3 : Int32) (x4 : Int32) (x5 : Int32) (x6 : Int32) (x7 : Int32) (x8 : Int32) (x9 : Int32) (x10 : Int32) (h : aH) (Q : Int32 → aH → Prop) : Prop := TI l E mX12_plan d bc bs 352 [some (.inr (some (0, 12, 63))), some (.inl x1), some (.inl x2), some (.inl x3), some (.inl x4), some (.inl x5), some (.inl x6), some (.inl x7), some (.inl x8), some (.inl x9), some (.inl x10), none, none] [] h Q

abbrev LX12_plan_406 (l : Launch) (E : eE) (d bc bs : Nat) (x1 : Int32) (x2 : Int32) (x3 : Int32) (x4 : Int32) (x5 : Int32) (x6 : Int32) (x7 : Int32) (x8 : Int32) (x9 : Int32) (x10 : Int32) (h : aH) (Q : Int32 → aH → Prop) : Prop := TI l E mX12_plan d bc bs 406 [some (.inr (some (0, 12, 63))), some (.inl x1), some (.inl x2), some (.inl x3), some (.inl x4), some (.inl x5), some (.inl x6), some (.inl x7), some (.inl x8), some (.inl x9), some (.inl x10), none, none] [] h Q

abbrev LX12_plan_426 (l : Launch) (E : eE) (d bc bs : Nat) (x1 : Int32) (x2 : Int32) (x3 : Int32) (x4 : Int32) (x5 : Int32) (x6 : Int32) (x7 : Int32) (x8 : Int32) (x9 : Int32) (x10 : Int32) (x11 : Int32) (h : aH) (Q : Int32 → aH → Prop) : Prop := TI l E mX12_plan d bc bs 426 [some (.inr (some (0, 12, 63))), some (.inl x1), some (.inl x2), some (.inl x3), some (.inl x4), some (.inl x5), some (.inl x6), some (.inl x7), some (.inl x8), some (.inl x9), some (.inl x10), some (.inl x11), none] [] h Q

abbrev LX12_plan_505 (l : Launch) (E : eE) (d bc bs : Nat) (x1 : Int32) (x2 : Int32) (x3 : Int32) (x4 : Int32) (x5 : Int32) (x6 : Int32) (x7 : Int32) (x8 : Int32) (x9 : Int32) (x10 : Int32) (h : aH) (Q : Int32 → aH → Prop) : Prop := TI l E mX12_plan d bc bs 505 [some (.inr (some (0, 12, 63))), some (.inl x1), some (.inl x2), some (.inl x3), some (.inl x4), some (.inl x5), some (.inl x6), some (.inl x7), some (.inl x8), some (.inl x9), some (.inl x10), none, none] [] h Q

abbrev LX12_plan_538 (l : Launch) (E : eE) (d bc bs : Nat) (x1 : Int32) (x2 : Int32) (x3 : Int32) (x4 : Int32) (x5 : Int32) (x6 : Int32) (x7 : Int32) (x8 : Int32) (x9 : Int32) (x10 : Int32) (h : aH) (Q : Int32 → aH → Prop) : Prop := TI l E mX12_plan d bc bs 538 [some (.inr (some (0, 12, 63))), some (.inl x1), some (.inl x2), some (.inl x3), some (.inl x4), some (.inl x5), some (.inl x6), some (.inl x7), some (.inl x8), some (.inl x9), some (.inl x10), none, none] [] h Q

abbrev LX12_plan_571 (l : Launch) (E : eE) (d bc bs : Nat) (x1 : Int32) (x2 : Int32) (x3 : Int32) (x4 : Int32) (x5 : Int32) (x6 : Int32) (x7 : Int32) (x8 : Int32) (x9 : Int32) (x10 : Int32) (h : aH) (Q : Int32 → aH → Prop) : Prop := TI l E mX12_plan d bc bs 571 [some (.inr (some (0, 12, 63))), some (.inl x1), some (.inl x2), some (.inl x3), some (.inl x4), some (.inl x5), some (.inl x6), some (.inl x7), some (.inl x8), some (.inl x9), some (.inl x10), none, none] [] h Q

abbrev LX12_plan_605 (l : Launch) (E : eE) (d bc bs : Nat) (x1 : Int32) (x2 : Int32) (x3 : Int32) (x4 : Int32) (x5 : Int32) (x6 : Int32) (x7 : Int32) (x8 : Int32) (x9 : Int32) (h : aH) (Q : Int32 → aH → Prop) : Prop := TI l E mX12_plan d bc bs 605 [some (.inr (some (0, 12, 63))), some (.inl x1), some (.inl x2), some (.inl x3), some (.inl x4), some (.inl x5), some (.inl x6), some (.inl x7), some (.inl x8), some (.inl x9), none, none, none] [] h Q

set_option maxRecDepth 20000 in
theorem bX12_plan_0 {l : Launch} {E : eE} {d bc bs : Nat} {h : aH} {Q : Int32 → aH → Prop} {x1 : Int32} {x2 : Int32} {x3 : Int32} {x4 : Int32} (S : SH h) (H : (CI l E d 0 0 mX12_isSeries [.inr (some (0, 12, 63)), .inl x1] h (fun v1 h1 => SH h1 ∧ ((v1 = 0 → Q (-2) h1) ∧ (¬ v1 = 0 → (CI l E d 0 0 mX12_isKnown [.inr (some (0, 12, 63)), .inl x4] h1 (fun v3 h3 => SH h3 ∧ ((v3 = 0 → Q (-2) h3) ∧ (¬ v3 = 0 → ((x2 < 0 → Q (-2) h3) ∧ (¬ x2 < 0 → ((x3 ≤ x2 → Q (-2) h3) ∧ (¬ x3 ≤ x2 → (((nI 52) < x3 → Q (-2) h3) ∧ (¬ (nI 52) < x3 → (vp_in x1 4 ∧ ((¬ (hA h3 76 (x1).toNatClampNeg) = (-1) → (((x3 - x2) ≤ (nI 4) → (CV l E d 0 0 mX12_lists [.inr (some (0, 12, 63)), .inl x1] h3 (fun h11 => SH h11 ∧ (vp_in x1 4 ∧ LX12_plan_83 l E (d + 1) bc bs x1 x2 x3 x4 (hA h11 87 (x1).toNatClampNeg) (x3 - x2) (nI 0) (stI h11 63 38 (nI 0)) Q)))) ∧ (¬ (x3 - x2) ≤ (nI 4) → Q (-2) h3))) ∧ ((hA h3 76 (x1).toNatClampNeg) = (-1) → (((x3 - x2) ≤ (nI 6) → (CV l E d 0 0 mX12_lists [.inr (some (0, 12, 63)), .inl x1] h3 (fun h14 => SH h14 ∧ (vp_in x1 4 ∧ LX12_plan_83 l E (d + 1) bc bs x1 x2 x3 x4 (hA h14 87 (x1).toNatClampNeg) (x3 - x2) (nI 0) (stI h14 63 38 (nI 0)) Q)))) ∧ (¬ (x3 - x2) ≤ (nI 6) → Q (-2) h3)))))))))))))))))))) : CI l E (d + 1) bc bs mX12_plan [.inr (some (0, 12, 63)), .inl x1, .inl x2, .inl x3, .inl x4] h Q := by
  refine CI.of (by decide) rfl ?_
  show TI l E mX12_plan (d + 1) bc bs 0 [some (.inr (some (0, 12, 63))), some (.inl x1), some (.inl x2), some (.inl x3), some (.inl x4), none, none, none, none, none, none, none, none] [] h Q
  refine z_aload_n (pc := 0) dX12_plan_0 rfl rfl ?_
  refine z_iload_n (pc := 1) dX12_plan_1 rfl rfl ?_
  refine y_VI (pc := 2) (bc := bc) (bs := bs) (mc := 0) (ms := 0) (As := [.inl x1]) (rest := []) dX12_plan_2 kX12_isSeries lX12_146 ⟨_, _, rfl⟩ rfl rfl (H.use (fun v1 h1 H => ?_))
  have S1 := H.1
  replace H := H.2
  refine z_if_eq (pc := 5) (tgt := 54) dX12_plan_5 (by decide) (fun c2 => ?_) (fun c2 => ?_)
  · replace H := H.1 c2
    refine z_bipush (pc := 54) (v := (-2)) dX12_plan_54 (by decide) ?_
    exact z_iret (pc := 56) dX12_plan_56 rfl rfl ⟨_, rfl, H⟩
  · replace H := H.2 c2
    refine z_aload_n (pc := 8) dX12_plan_8 rfl rfl ?_
    refine z_iload (pc := 9) dX12_plan_9 rfl ?_
    refine y_VI (pc := 11) (bc := bc) (bs := bs) (mc := 0) (ms := 0) (As := [.inl x4]) (rest := []) dX12_plan_11 kX12_isKnown lX12_152 ⟨_, _, rfl⟩ rfl rfl (H.use (fun v3 h3 H => ?_))
    have S3 := H.1
    replace H := H.2
    refine z_if_eq (pc := 14) (tgt := 54) dX12_plan_14 (by decide) (fun c4 => ?_) (fun c4 => ?_)
    · replace H := H.1 c4
      refine z_bipush (pc := 54) (v := (-2)) dX12_plan_54 (by decide) ?_
      exact z_iret (pc := 56) dX12_plan_56 rfl rfl ⟨_, rfl, H⟩
    · replace H := H.2 c4
      refine z_iload_n (pc := 17) dX12_plan_17 rfl rfl ?_
      refine z_if_lt (pc := 18) (tgt := 54) dX12_plan_18 (by decide) (fun c5 => ?_) (fun c5 => ?_)
      · replace H := H.1 c5
        refine z_bipush (pc := 54) (v := (-2)) dX12_plan_54 (by decide) ?_
        exact z_iret (pc := 56) dX12_plan_56 rfl rfl ⟨_, rfl, H⟩
      · replace H := H.2 c5
        refine z_iload_n (pc := 21) dX12_plan_21 rfl rfl ?_
        refine z_iload_n (pc := 22) dX12_plan_22 rfl rfl ?_
        refine z_icmp_ge (pc := 23) (tgt := 54) dX12_plan_23 (by decide) (fun c6 => ?_) (fun c6 => ?_)
        · replace H := H.1 c6
          refine z_bipush (pc := 54) (v := (-2)) dX12_plan_54 (by decide) ?_
          exact z_iret (pc := 56) dX12_plan_56 rfl rfl ⟨_, rfl, H⟩
        · replace H := H.2 c6
          refine z_iload_n (pc := 26) dX12_plan_26 rfl rfl ?_
          refine z_bipush (pc := 27) (v := (nI 52)) dX12_plan_27 (by decide) ?_
          refine z_icmp_gt (pc := 29) (tgt := 54) dX12_plan_29 (by decide) (fun c7 => ?_) (fun c7 => ?_)
          · replace H := H.1 c7
            refine z_bipush (pc := 54) (v := (-2)) dX12_plan_54 (by decide) ?_
            exact z_iret (pc := 56) dX12_plan_56 rfl rfl ⟨_, rfl, H⟩
          · replace H := H.2 c7
            refine z_iload_n (pc := 32) dX12_plan_32 rfl rfl ?_
            refine z_iload_n (pc := 33) dX12_plan_33 rfl rfl ?_
            refine z_isub (pc := 34) dX12_plan_34 ?_
            refine z_aload_n (pc := 35) dX12_plan_35 rfl rfl ?_
            refine z_getk (pc := 36) dX12_plan_36 fX12_51 rfl (s_63_17 S3) ?_
            refine z_iload_n (pc := 39) dX12_plan_39 rfl rfl ?_
            have c8 := H.1
            replace H := H.2
            refine z_iald (pc := 40) dX12_plan_40 c8 ?_
            refine z_iconst (pc := 41) (v := (-1)) dX12_plan_41 (by decide) ?_
            refine z_icmp_ne (pc := 42) (tgt := 50) dX12_plan_42 (by decide) (fun c9 => ?_) (fun c9 => ?_)
            · replace H := H.1 c9
              refine z_iconst (pc := 50) (v := (nI 4)) dX12_plan_50 (by decide) ?_
              refine z_icmp_le (pc := 51) (tgt := 57) dX12_plan_51 (by decide) (fun c10 => ?_) (fun c10 => ?_)
              · replace H := H.1 c10
                refine z_aload_n (pc := 57) dX12_plan_57 rfl rfl ?_
                refine z_iload_n (pc := 58) dX12_plan_58 rfl rfl ?_
                refine y_VV (pc := 59) (bc := bc) (bs := bs) (mc := 0) (ms := 0) (As := [.inl x1]) (rest := []) dX12_plan_59 kX12_lists lX12_224 ⟨_, _, rfl⟩ rfl rfl (H.use (fun h11 H => ?_))
                have S11 := H.1
                replace H := H.2
                refine z_aload_n (pc := 62) dX12_plan_62 rfl rfl ?_
                refine z_iconst (pc := 63) (v := (nI 0)) dX12_plan_63 (by decide) ?_
                refine z_puti (pc := 64) dX12_plan_64 fX12_227 (uX12_38 _) rfl rfl rfl ?_
                refine z_aload_n (pc := 67) dX12_plan_67 rfl rfl ?_
                refine z_getk (pc := 68) dX12_plan_68 fX12_84 rfl (s_63_30 S11) ?_
                refine z_iload_n (pc := 71) dX12_plan_71 rfl rfl ?_
                have c12 := H.1
                replace H := H.2
                refine z_iald (pc := 72) dX12_plan_72 c12 ?_
                refine z_istore (pc := 73) (ls' := [some (.inr (some (0, 12, 63))), some (.inl x1), some (.inl x2), some (.inl x3), some (.inl x4), some (.inl (hA h11 87 (x1).toNatClampNeg)), none, none, none, none, none, none, none]) dX12_plan_73 rfl rfl ?_
                refine z_iload_n (pc := 75) dX12_plan_75 rfl rfl ?_
                refine z_iload_n (pc := 76) dX12_plan_76 rfl rfl ?_
                refine z_isub (pc := 77) dX12_plan_77 ?_
                refine z_istore (pc := 78) (ls' := [some (.inr (some (0, 12, 63))), some (.inl x1), some (.inl x2), some (.inl x3), some (.inl x4), some (.inl (hA h11 87 (x1).toNatClampNeg)), some (.inl (x3 - x2)), none, none, none, none, none, none]) dX12_plan_78 rfl rfl ?_
                refine z_iconst (pc := 80) (v := (nI 0)) dX12_plan_80 (by decide) ?_
                refine z_istore (pc := 81) (ls' := [some (.inr (some (0, 12, 63))), some (.inl x1), some (.inl x2), some (.inl x3), some (.inl x4), some (.inl (hA h11 87 (x1).toNatClampNeg)), some (.inl (x3 - x2)), some (.inl (nI 0)), none, none, none, none, none]) dX12_plan_81 rfl rfl ?_
                exact H
              · replace H := H.2 c10
                refine z_bipush (pc := 54) (v := (-2)) dX12_plan_54 (by decide) ?_
                exact z_iret (pc := 56) dX12_plan_56 rfl rfl ⟨_, rfl, H⟩
            · replace H := H.2 c9
              refine z_bipush (pc := 45) (v := (nI 6)) dX12_plan_45 (by decide) ?_
              refine z_goto (pc := 47) (tgt := 51) dX12_plan_47 (by decide) ?_
              refine z_icmp_le (pc := 51) (tgt := 57) dX12_plan_51 (by decide) (fun c13 => ?_) (fun c13 => ?_)
              · replace H := H.1 c13
                refine z_aload_n (pc := 57) dX12_plan_57 rfl rfl ?_
                refine z_iload_n (pc := 58) dX12_plan_58 rfl rfl ?_
                refine y_VV (pc := 59) (bc := bc) (bs := bs) (mc := 0) (ms := 0) (As := [.inl x1]) (rest := []) dX12_plan_59 kX12_lists lX12_224 ⟨_, _, rfl⟩ rfl rfl (H.use (fun h14 H => ?_))
                have S14 := H.1
                replace H := H.2
                refine z_aload_n (pc := 62) dX12_plan_62 rfl rfl ?_
                refine z_iconst (pc := 63) (v := (nI 0)) dX12_plan_63 (by decide) ?_
                refine z_puti (pc := 64) dX12_plan_64 fX12_227 (uX12_38 _) rfl rfl rfl ?_
                refine z_aload_n (pc := 67) dX12_plan_67 rfl rfl ?_
                refine z_getk (pc := 68) dX12_plan_68 fX12_84 rfl (s_63_30 S14) ?_
                refine z_iload_n (pc := 71) dX12_plan_71 rfl rfl ?_
                have c15 := H.1
                replace H := H.2
                refine z_iald (pc := 72) dX12_plan_72 c15 ?_
                refine z_istore (pc := 73) (ls' := [some (.inr (some (0, 12, 63))), some (.inl x1), some (.inl x2), some (.inl x3), some (.inl x4), some (.inl (hA h14 87 (x1).toNatClampNeg)), none, none, none, none, none, none, none]) dX12_plan_73 rfl rfl ?_
                refine z_iload_n (pc := 75) dX12_plan_75 rfl rfl ?_
                refine z_iload_n (pc := 76) dX12_plan_76 rfl rfl ?_
                refine z_isub (pc := 77) dX12_plan_77 ?_
                refine z_istore (pc := 78) (ls' := [some (.inr (some (0, 12, 63))), some (.inl x1), some (.inl x2), some (.inl x3), some (.inl x4), some (.inl (hA h14 87 (x1).toNatClampNeg)), some (.inl (x3 - x2)), none, none, none, none, none, none]) dX12_plan_78 rfl rfl ?_
                refine z_iconst (pc := 80) (v := (nI 0)) dX12_plan_80 (by decide) ?_
                refine z_istore (pc := 81) (ls' := [some (.inr (some (0, 12, 63))), some (.inl x1), some (.inl x2), some (.inl x3), some (.inl x4), some (.inl (hA h14 87 (x1).toNatClampNeg)), some (.inl (x3 - x2)), some (.inl (nI 0)), none, none, none, none, none]) dX12_plan_81 rfl rfl ?_
                exact H
              · replace H := H.2 c13
                refine z_bipush (pc := 54) (v := (-2)) dX12_plan_54 (by decide) ?_
                exact z_iret (pc := 56) dX12_plan_56 rfl rfl ⟨_, rfl, H⟩

set_option maxRecDepth 20000 in
theorem bX12_plan_83 {l : Launch} {E : eE} {d bc bs : Nat} {h : aH} {Q : Int32 → aH → Prop} {x1 : Int32} {x2 : Int32} {x3 : Int32} {x4 : Int32} {x5 : Int32} {x6 : Int32} {x7 : Int32} (S : SH h) (H : ((x6 ≤ x7 → LX12_plan_317 l E (d + 1) bc bs x1 x2 x3 x4 x5 x6 (nI 0) (nI 0) h Q) ∧ (¬ x6 ≤ x7 → (CV l E d 0 0 mX12_takesWeek [.inr (some (0, 12, 63)), .inl (x2 + x7), .inl x4] h (fun h2 => SH h2 ∧ (CV l E d 0 0 mX12_comeAll [.inr (some (0, 12, 63)), .inl x1] h2 (fun h3 => SH h3 ∧ (CV l E d 0 0 mX12_asksFree [.inr (some (0, 12, 63)), .inl x1] h3 (fun h4 => SH h4 ∧ LX12_plan_116 l E (d + 1) bc bs x1 x2 x3 x4 x5 x6 x7 (nI 0) (nI 0) h4 Q))))))))) : LX12_plan_83 l E (d + 1) bc bs x1 x2 x3 x4 x5 x6 x7 h Q := by
  refine z_iload (pc := 83) dX12_plan_83 rfl ?_
  refine z_iload (pc := 85) dX12_plan_85 rfl ?_
  refine z_icmp_ge (pc := 87) (tgt := 311) dX12_plan_87 (by decide) (fun c1 => ?_) (fun c1 => ?_)
  · replace H := H.1 c1
    refine z_iconst (pc := 311) (v := (nI 0)) dX12_plan_311 (by decide) ?_
    refine z_istore (pc := 312) (ls' := [some (.inr (some (0, 12, 63))), some (.inl x1), some (.inl x2), some (.inl x3), some (.inl x4), some (.inl x5), some (.inl x6), some (.inl (nI 0)), none, none, none, none, none]) dX12_plan_312 rfl rfl ?_
    refine z_iconst (pc := 314) (v := (nI 0)) dX12_plan_314 (by decide) ?_
    refine z_istore (pc := 315) (ls' := [some (.inr (some (0, 12, 63))), some (.inl x1), some (.inl x2), some (.inl x3), some (.inl x4), some (.inl x5), some (.inl x6), some (.inl (nI 0)), some (.inl (nI 0)), none, none, none, none]) dX12_plan_315 rfl rfl ?_
    exact H
  · replace H := H.2 c1
    refine z_aload_n (pc := 90) dX12_plan_90 rfl rfl ?_
    refine z_iload_n (pc := 91) dX12_plan_91 rfl rfl ?_
    refine z_iload (pc := 92) dX12_plan_92 rfl ?_
    refine z_iadd (pc := 94) dX12_plan_94 ?_
    refine z_iload (pc := 95) dX12_plan_95 rfl ?_
    refine y_VV (pc := 97) (bc := bc) (bs := bs) (mc := 0) (ms := 0) (As := [.inl (x2 + x7), .inl x4]) (rest := []) dX12_plan_97 kX12_takesWeek lX12_214 ⟨_, _, rfl⟩ rfl rfl (H.use (fun h2 H => ?_))
    have S2 := H.1
    replace H := H.2
    refine z_aload_n (pc := 100) dX12_plan_100 rfl rfl ?_
    refine z_iload_n (pc := 101) dX12_plan_101 rfl rfl ?_
    refine y_VV (pc := 102) (bc := bc) (bs := bs) (mc := 0) (ms := 0) (As := [.inl x1]) (rest := []) dX12_plan_102 kX12_comeAll lX12_218 ⟨_, _, rfl⟩ rfl rfl (H.use (fun h3 H => ?_))
    have S3 := H.1
    replace H := H.2
    refine z_aload_n (pc := 105) dX12_plan_105 rfl rfl ?_
    refine z_iload_n (pc := 106) dX12_plan_106 rfl rfl ?_
    refine y_VV (pc := 107) (bc := bc) (bs := bs) (mc := 0) (ms := 0) (As := [.inl x1]) (rest := []) dX12_plan_107 kX12_asksFree lX12_201 ⟨_, _, rfl⟩ rfl rfl (H.use (fun h4 H => ?_))
    have S4 := H.1
    replace H := H.2
    refine z_iconst (pc := 110) (v := (nI 0)) dX12_plan_110 (by decide) ?_
    refine z_istore (pc := 111) (ls' := [some (.inr (some (0, 12, 63))), some (.inl x1), some (.inl x2), some (.inl x3), some (.inl x4), some (.inl x5), some (.inl x6), some (.inl x7), some (.inl (nI 0)), none, none, none, none]) dX12_plan_111 rfl rfl ?_
    refine z_iconst (pc := 113) (v := (nI 0)) dX12_plan_113 (by decide) ?_
    refine z_istore (pc := 114) (ls' := [some (.inr (some (0, 12, 63))), some (.inl x1), some (.inl x2), some (.inl x3), some (.inl x4), some (.inl x5), some (.inl x6), some (.inl x7), some (.inl (nI 0)), some (.inl (nI 0)), none, none, none]) dX12_plan_114 rfl rfl ?_
    exact H

set_option maxRecDepth 20000 in
theorem bX12_plan_116 {l : Launch} {E : eE} {d bc bs : Nat} {h : aH} {Q : Int32 → aH → Prop} {x1 : Int32} {x2 : Int32} {x3 : Int32} {x4 : Int32} {x5 : Int32} {x6 : Int32} {x7 : Int32} {x8 : Int32} {x9 : Int32} (S : SH h) (H : ((x5 ≤ x9 → ((x8 = 0 → (CI l E d 0 0 mX12_leastStuck [.inr (some (0, 12, 63)), .inl x1] h (fun v3 h3 => SH h3 ∧ Q (-1) (stI h3 63 38 v3)))) ∧ (¬ x8 = 0 → LX12_plan_83 l E (d + 1) bc bs x1 x2 x3 x4 x5 x6 (x7 + (nI 1)) h Q))) ∧ (¬ x5 ≤ x9 → (vp_in (((nI 15) * x1) + x9) 60 ∧ (CI l E d 0 0 mX12_fitsBy [.inr (some (0, 12, 63)), .inl x1, .inl (hA h 85 ((((nI 15) * x1) + x9)).toNatClampNeg), .inl (hA h 86 ((((nI 15) * x1) + x9)).toNatClampNeg)] h (fun v5 h5 => SH h5 ∧ (vp_in (((nI 15) * x7) + x9) 90 ∧ ((¬ x8 = 0 → LX12_plan_204 l E (d + 1) bc bs x1 x2 x3 x4 x5 x6 x7 (nI 1) x9 (hA h 85 ((((nI 15) * x1) + x9)).toNatClampNeg) (hA h 86 ((((nI 15) * x1) + x9)).toNatClampNeg) (nI 0) (stA h5 91 ((((nI 15) * x7) + x9)).toNatClampNeg (vp_nar .boolean v5)) Q) ∧ (x8 = 0 → (((hA (stA h5 91 ((((nI 15) * x7) + x9)).toNatClampNeg (vp_nar .boolean v5)) 91 ((((nI 15) * x7) + x9)).toNatClampNeg) = 0 → LX12_plan_204 l E (d + 1) bc bs x1 x2 x3 x4 x5 x6 x7 (nI 0) x9 (hA h 85 ((((nI 15) * x1) + x9)).toNatClampNeg) (hA h 86 ((((nI 15) * x1) + x9)).toNatClampNeg) (nI 0) (stA h5 91 ((((nI 15) * x7) + x9)).toNatClampNeg (vp_nar .boolean v5)) Q) ∧ (¬ (hA (stA h5 91 ((((nI 15) * x7) + x9)).toNatClampNeg (vp_nar .boolean v5)) 91 ((((nI 15) * x7) + x9)).toNatClampNeg) = 0 → LX12_plan_204 l E (d + 1) bc bs x1 x2 x3 x4 x5 x6 x7 (nI 1) x9 (hA h 85 ((((nI 15) * x1) + x9)).toNatClampNeg) (hA h 86 ((((nI 15) * x1) + x9)).toNatClampNeg) (nI 0) (stA h5 91 ((((nI 15) * x7) + x9)).toNatClampNeg (vp_nar .boolean v5)) Q))))))))))) : LX12_plan_116 l E (d + 1) bc bs x1 x2 x3 x4 x5 x6 x7 x8 x9 h Q := by
  refine z_iload (pc := 116) dX12_plan_116 rfl ?_
  refine z_iload (pc := 118) dX12_plan_118 rfl ?_
  refine z_icmp_ge (pc := 120) (tgt := 286) dX12_plan_120 (by decide) (fun c1 => ?_) (fun c1 => ?_)
  · replace H := H.1 c1
    refine z_iload (pc := 286) dX12_plan_286 rfl ?_
    refine z_if_eq (pc := 288) (tgt := 294) dX12_plan_288 (by decide) (fun c2 => ?_) (fun c2 => ?_)
    · replace H := H.1 c2
      refine z_aload_n (pc := 294) dX12_plan_294 rfl rfl ?_
      refine z_aload_n (pc := 295) dX12_plan_295 rfl rfl ?_
      refine z_iload_n (pc := 296) dX12_plan_296 rfl rfl ?_
      refine y_VI (pc := 297) (bc := bc) (bs := bs) (mc := 0) (ms := 0) (As := [.inl x1]) (rest := [.inr (some (0, 12, 63))]) dX12_plan_297 kX12_leastStuck lX12_234 ⟨_, _, rfl⟩ rfl rfl (H.use (fun v3 h3 H => ?_))
      have S3 := H.1
      replace H := H.2
      refine z_puti (pc := 300) dX12_plan_300 fX12_227 (uX12_38 _) rfl rfl rfl ?_
      refine z_iconst (pc := 303) (v := (-1)) dX12_plan_303 (by decide) ?_
      exact z_iret (pc := 304) dX12_plan_304 rfl rfl ⟨_, rfl, H⟩
    · replace H := H.2 c2
      refine z_goto (pc := 291) (tgt := 305) dX12_plan_291 (by decide) ?_
      refine z_iinc (pc := 305) (v := (x7 + (nI 1))) (ls' := [some (.inr (some (0, 12, 63))), some (.inl x1), some (.inl x2), some (.inl x3), some (.inl x4), some (.inl x5), some (.inl x6), some (.inl (x7 + (nI 1))), some (.inl x8), some (.inl x9), none, none, none]) dX12_plan_305 rfl (by rw [show Int32.ofInt (1) = (nI 1) by decide]) rfl ?_
      refine z_goto (pc := 308) (tgt := 83) dX12_plan_308 (by decide) ?_
      exact z_drop (ls' := [some (.inr (some (0, 12, 63))), some (.inl x1), some (.inl x2), some (.inl x3), some (.inl x4), some (.inl x5), some (.inl x6), some (.inl (x7 + (nI 1))), none, none, none, none, none]) (by simp [dropL]) H
  · replace H := H.2 c1
    refine z_aload_n (pc := 123) dX12_plan_123 rfl rfl ?_
    refine z_getk (pc := 124) dX12_plan_124 fX12_78 rfl (s_63_28 S) ?_
    refine z_bipush (pc := 127) (v := (nI 15)) dX12_plan_127 (by decide) ?_
    refine z_iload_n (pc := 129) dX12_plan_129 rfl rfl ?_
    refine z_imul (pc := 130) dX12_plan_130 ?_
    refine z_iload (pc := 131) dX12_plan_131 rfl ?_
    refine z_iadd (pc := 133) dX12_plan_133 ?_
    have c4 := H.1
    replace H := H.2
    refine z_iald (pc := 134) dX12_plan_134 c4 ?_
    refine z_istore (pc := 135) (ls' := [some (.inr (some (0, 12, 63))), some (.inl x1), some (.inl x2), some (.inl x3), some (.inl x4), some (.inl x5), some (.inl x6), some (.inl x7), some (.inl x8), some (.inl x9), some (.inl (hA h 85 ((((nI 15) * x1) + x9)).toNatClampNeg)), none, none]) dX12_plan_135 rfl rfl ?_
    refine z_aload_n (pc := 137) dX12_plan_137 rfl rfl ?_
    refine z_getk (pc := 138) dX12_plan_138 fX12_81 rfl (s_63_29 S) ?_
    refine z_bipush (pc := 141) (v := (nI 15)) dX12_plan_141 (by decide) ?_
    refine z_iload_n (pc := 143) dX12_plan_143 rfl rfl ?_
    refine z_imul (pc := 144) dX12_plan_144 ?_
    refine z_iload (pc := 145) dX12_plan_145 rfl ?_
    refine z_iadd (pc := 147) dX12_plan_147 ?_
    refine z_iald (pc := 148) dX12_plan_148 c4 ?_
    refine z_istore (pc := 149) (ls' := [some (.inr (some (0, 12, 63))), some (.inl x1), some (.inl x2), some (.inl x3), some (.inl x4), some (.inl x5), some (.inl x6), some (.inl x7), some (.inl x8), some (.inl x9), some (.inl (hA h 85 ((((nI 15) * x1) + x9)).toNatClampNeg)), some (.inl (hA h 86 ((((nI 15) * x1) + x9)).toNatClampNeg)), none]) dX12_plan_149 rfl rfl ?_
    refine z_aload_n (pc := 151) dX12_plan_151 rfl rfl ?_
    refine z_getk (pc := 152) dX12_plan_152 fX12_96 rfl (s_63_34 S) ?_
    refine z_bipush (pc := 155) (v := (nI 15)) dX12_plan_155 (by decide) ?_
    refine z_iload (pc := 157) dX12_plan_157 rfl ?_
    refine z_imul (pc := 159) dX12_plan_159 ?_
    refine z_iload (pc := 160) dX12_plan_160 rfl ?_
    refine z_iadd (pc := 162) dX12_plan_162 ?_
    refine z_aload_n (pc := 163) dX12_plan_163 rfl rfl ?_
    refine z_iload_n (pc := 164) dX12_plan_164 rfl rfl ?_
    refine z_iload (pc := 165) dX12_plan_165 rfl ?_
    refine z_iload (pc := 167) dX12_plan_167 rfl ?_
    refine y_VI (pc := 169) (bc := bc) (bs := bs) (mc := 0) (ms := 0) (As := [.inl x1, .inl (hA h 85 ((((nI 15) * x1) + x9)).toNatClampNeg), .inl (hA h 86 ((((nI 15) * x1) + x9)).toNatClampNeg)]) (rest := [.inl (((nI 15) * x7) + x9), .inr (some (2, 90, 91))]) dX12_plan_169 kX12_fitsBy lX12_221 ⟨_, _, rfl⟩ rfl rfl (H.use (fun v5 h5 H => ?_))
    have S5 := H.1
    replace H := H.2
    have c6 := H.1
    replace H := H.2
    refine z_zast (pc := 172) dX12_plan_172 c6 ?_
    refine z_iload (pc := 173) dX12_plan_173 rfl ?_
    refine z_if_ne (pc := 175) (tgt := 194) dX12_plan_175 (by decide) (fun c7 => ?_) (fun c7 => ?_)
    · replace H := H.1 c7
      refine z_iconst (pc := 194) (v := (nI 1)) dX12_plan_194 (by decide) ?_
      refine z_goto (pc := 195) (tgt := 199) dX12_plan_195 (by decide) ?_
      refine z_istore (pc := 199) (ls' := [some (.inr (some (0, 12, 63))), some (.inl x1), some (.inl x2), some (.inl x3), some (.inl x4), some (.inl x5), some (.inl x6), some (.inl x7), some (.inl (nI 1)), some (.inl x9), some (.inl (hA h 85 ((((nI 15) * x1) + x9)).toNatClampNeg)), some (.inl (hA h 86 ((((nI 15) * x1) + x9)).toNatClampNeg)), none]) dX12_plan_199 rfl rfl ?_
      refine z_iconst (pc := 201) (v := (nI 0)) dX12_plan_201 (by decide) ?_
      refine z_istore (pc := 202) (ls' := [some (.inr (some (0, 12, 63))), some (.inl x1), some (.inl x2), some (.inl x3), some (.inl x4), some (.inl x5), some (.inl x6), some (.inl x7), some (.inl (nI 1)), some (.inl x9), some (.inl (hA h 85 ((((nI 15) * x1) + x9)).toNatClampNeg)), some (.inl (hA h 86 ((((nI 15) * x1) + x9)).toNatClampNeg)), some (.inl (nI 0))]) dX12_plan_202 rfl rfl ?_
      exact H
    · replace H := H.2 c7
      refine z_aload_n (pc := 178) dX12_plan_178 rfl rfl ?_
      refine z_getk (pc := 179) dX12_plan_179 fX12_96 rfl (s_63_34 S5) ?_
      refine z_bipush (pc := 182) (v := (nI 15)) dX12_plan_182 (by decide) ?_
      refine z_iload (pc := 184) dX12_plan_184 rfl ?_
      refine z_imul (pc := 186) dX12_plan_186 ?_
      refine z_iload (pc := 187) dX12_plan_187 rfl ?_
      refine z_iadd (pc := 189) dX12_plan_189 ?_
      refine z_zald (pc := 190) dX12_plan_190 c6 ?_
      refine z_if_eq (pc := 191) (tgt := 198) dX12_plan_191 (by decide) (fun c8 => ?_) (fun c8 => ?_)
      · replace H := H.1 c8
        refine z_iconst (pc := 198) (v := (nI 0)) dX12_plan_198 (by decide) ?_
        refine z_istore (pc := 199) (ls' := [some (.inr (some (0, 12, 63))), some (.inl x1), some (.inl x2), some (.inl x3), some (.inl x4), some (.inl x5), some (.inl x6), some (.inl x7), some (.inl (nI 0)), some (.inl x9), some (.inl (hA h 85 ((((nI 15) * x1) + x9)).toNatClampNeg)), some (.inl (hA h 86 ((((nI 15) * x1) + x9)).toNatClampNeg)), none]) dX12_plan_199 rfl rfl ?_
        refine z_iconst (pc := 201) (v := (nI 0)) dX12_plan_201 (by decide) ?_
        refine z_istore (pc := 202) (ls' := [some (.inr (some (0, 12, 63))), some (.inl x1), some (.inl x2), some (.inl x3), some (.inl x4), some (.inl x5), some (.inl x6), some (.inl x7), some (.inl (nI 0)), some (.inl x9), some (.inl (hA h 85 ((((nI 15) * x1) + x9)).toNatClampNeg)), some (.inl (hA h 86 ((((nI 15) * x1) + x9)).toNatClampNeg)), some (.inl (nI 0))]) dX12_plan_202 rfl rfl ?_
        exact H
      · replace H := H.2 c8
        refine z_iconst (pc := 194) (v := (nI 1)) dX12_plan_194 (by decide) ?_
        refine z_goto (pc := 195) (tgt := 199) dX12_plan_195 (by decide) ?_
        refine z_istore (pc := 199) (ls' := [some (.inr (some (0, 12, 63))), some (.inl x1), some (.inl x2), some (.inl x3), some (.inl x4), some (.inl x5), some (.inl x6), some (.inl x7), some (.inl (nI 1)), some (.inl x9), some (.inl (hA h 85 ((((nI 15) * x1) + x9)).toNatClampNeg)), some (.inl (hA h 86 ((((nI 15) * x1) + x9)).toNatClampNeg)), none]) dX12_plan_199 rfl rfl ?_
        refine z_iconst (pc := 201) (v := (nI 0)) dX12_plan_201 (by decide) ?_
        refine z_istore (pc := 202) (ls' := [some (.inr (some (0, 12, 63))), some (.inl x1), some (.inl x2), some (.inl x3), some (.inl x4), some (.inl x5), some (.inl x6), some (.inl x7), some (.inl (nI 1)), some (.inl x9), some (.inl (hA h 85 ((((nI 15) * x1) + x9)).toNatClampNeg)), some (.inl (hA h 86 ((((nI 15) * x1) + x9)).toNatClampNeg)), some (.inl (nI 0))]) dX12_plan_202 rfl rfl ?_
        exact H

set_option maxRecDepth 20000 in
theorem bX12_plan_204 {l : Launch} {E : eE} {d bc bs : Nat} {h : aH} {Q : Int32 → aH → Prop} {x1 : Int32} {x2 : Int32} {x3 : Int32} {x4 : Int32} {x5 : Int32} {x6 : Int32} {x7 : Int32} {x8 : Int32} {x9 : Int32} {x10 : Int32} {x11 : Int32} {x12 : Int32} (S : SH h) (H : (((hI h 63 3) ≤ x12 → LX12_plan_116 l E (d + 1) bc bs x1 x2 x3 x4 x5 x6 x7 x8 (x9 + (nI 1)) h Q) ∧ (¬ (hI h 63 3) ≤ x12 → (vp_in (((nI 15) * x7) + x9) 90 ∧ (((hA h 91 ((((nI 15) * x7) + x9)).toNatClampNeg) = 0 → (vp_in (((nI 12) * (((nI 15) * x7) + x9)) + x12) 1080 ∧ LX12_plan_204 l E (d + 1) bc bs x1 x2 x3 x4 x5 x6 x7 x8 x9 x10 x11 (x12 + (nI 1)) (stA h 92 ((((nI 12) * (((nI 15) * x7) + x9)) + x12)).toNatClampNeg (nI 0)) Q)) ∧ (¬ (hA h 91 ((((nI 15) * x7) + x9)).toNatClampNeg) = 0 → (CI l E d 0 0 mX12_comesTo [.inr (some (0, 12, 63)), .inl x12, .inl x1, .inl x10, .inl x11] h (fun v5 h5 => SH h5 ∧ (CI l E d 0 0 mX12_priceOf [.inr (some (0, 12, 63)), .inl x12, .inl x1, .inl x10, .inl x11, .inl v5] h5 (fun v6 h6 => SH h6 ∧ (vp_in (((nI 12) * (((nI 15) * x7) + x9)) + x12) 1080 ∧ LX12_plan_204 l E (d + 1) bc bs x1 x2 x3 x4 x5 x6 x7 x8 x9 x10 x11 (x12 + (nI 1)) (stA h6 92 ((((nI 12) * (((nI 15) * x7) + x9)) + x12)).toNatClampNeg v6) Q))))))))))) : LX12_plan_204 l E (d + 1) bc bs x1 x2 x3 x4 x5 x6 x7 x8 x9 x10 x11 x12 h Q := by
  refine z_iload (pc := 204) dX12_plan_204 rfl ?_
  refine z_aload_n (pc := 206) dX12_plan_206 rfl rfl ?_
  refine z_geti (pc := 207) dX12_plan_207 fX12_123 rfl ?_
  refine z_icmp_ge (pc := 210) (tgt := 280) dX12_plan_210 (by decide) (fun c1 => ?_) (fun c1 => ?_)
  · replace H := H.1 c1
    refine z_iinc (pc := 280) (v := (x9 + (nI 1))) (ls' := [some (.inr (some (0, 12, 63))), some (.inl x1), some (.inl x2), some (.inl x3), some (.inl x4), some (.inl x5), some (.inl x6), some (.inl x7), some (.inl x8), some (.inl (x9 + (nI 1))), some (.inl x10), some (.inl x11), some (.inl x12)]) dX12_plan_280 rfl (by rw [show Int32.ofInt (1) = (nI 1) by decide]) rfl ?_
    refine z_goto (pc := 283) (tgt := 116) dX12_plan_283 (by decide) ?_
    exact z_drop (ls' := [some (.inr (some (0, 12, 63))), some (.inl x1), some (.inl x2), some (.inl x3), some (.inl x4), some (.inl x5), some (.inl x6), some (.inl x7), some (.inl x8), some (.inl (x9 + (nI 1))), none, none, none]) (by simp [dropL]) H
  · replace H := H.2 c1
    refine z_aload_n (pc := 213) dX12_plan_213 rfl rfl ?_
    refine z_getk (pc := 214) dX12_plan_214 fX12_99 rfl (s_63_35 S) ?_
    refine z_bipush (pc := 217) (v := (nI 12)) dX12_plan_217 (by decide) ?_
    refine z_bipush (pc := 219) (v := (nI 15)) dX12_plan_219 (by decide) ?_
    refine z_iload (pc := 221) dX12_plan_221 rfl ?_
    refine z_imul (pc := 223) dX12_plan_223 ?_
    refine z_iload (pc := 224) dX12_plan_224 rfl ?_
    refine z_iadd (pc := 226) dX12_plan_226 ?_
    refine z_imul (pc := 227) dX12_plan_227 ?_
    refine z_iload (pc := 228) dX12_plan_228 rfl ?_
    refine z_iadd (pc := 230) dX12_plan_230 ?_
    refine z_aload_n (pc := 231) dX12_plan_231 rfl rfl ?_
    refine z_getk (pc := 232) dX12_plan_232 fX12_96 rfl (s_63_34 S) ?_
    refine z_bipush (pc := 235) (v := (nI 15)) dX12_plan_235 (by decide) ?_
    refine z_iload (pc := 237) dX12_plan_237 rfl ?_
    refine z_imul (pc := 239) dX12_plan_239 ?_
    refine z_iload (pc := 240) dX12_plan_240 rfl ?_
    refine z_iadd (pc := 242) dX12_plan_242 ?_
    have c2 := H.1
    replace H := H.2
    refine z_zald (pc := 243) dX12_plan_243 c2 ?_
    refine z_if_eq (pc := 244) (tgt := 272) dX12_plan_244 (by decide) (fun c3 => ?_) (fun c3 => ?_)
    · replace H := H.1 c3
      refine z_iconst (pc := 272) (v := (nI 0)) dX12_plan_272 (by decide) ?_
      have c4 := H.1
      replace H := H.2
      refine z_iast (pc := 273) dX12_plan_273 c4 ?_
      refine z_iinc (pc := 274) (v := (x12 + (nI 1))) (ls' := [some (.inr (some (0, 12, 63))), some (.inl x1), some (.inl x2), some (.inl x3), some (.inl x4), some (.inl x5), some (.inl x6), some (.inl x7), some (.inl x8), some (.inl x9), some (.inl x10), some (.inl x11), some (.inl (x12 + (nI 1)))]) dX12_plan_274 rfl (by rw [show Int32.ofInt (1) = (nI 1) by decide]) rfl ?_
      refine z_goto (pc := 277) (tgt := 204) dX12_plan_277 (by decide) ?_
      exact H
    · replace H := H.2 c3
      refine z_aload_n (pc := 247) dX12_plan_247 rfl rfl ?_
      refine z_iload (pc := 248) dX12_plan_248 rfl ?_
      refine z_iload_n (pc := 250) dX12_plan_250 rfl rfl ?_
      refine z_iload (pc := 251) dX12_plan_251 rfl ?_
      refine z_iload (pc := 253) dX12_plan_253 rfl ?_
      refine z_aload_n (pc := 255) dX12_plan_255 rfl rfl ?_
      refine z_iload (pc := 256) dX12_plan_256 rfl ?_
      refine z_iload_n (pc := 258) dX12_plan_258 rfl rfl ?_
      refine z_iload (pc := 259) dX12_plan_259 rfl ?_
      refine z_iload (pc := 261) dX12_plan_261 rfl ?_
      refine y_VI (pc := 263) (bc := bc) (bs := bs) (mc := 0) (ms := 0) (As := [.inl x12, .inl x1, .inl x10, .inl x11]) (rest := [.inl x11, .inl x10, .inl x1, .inl x12, .inr (some (0, 12, 63)), .inl (((nI 12) * (((nI 15) * x7) + x9)) + x12), .inr (some (1, 1080, 92))]) dX12_plan_263 kX12_comesTo lX12_205 ⟨_, _, rfl⟩ rfl rfl (H.use (fun v5 h5 H => ?_))
      have S5 := H.1
      replace H := H.2
      refine y_VI (pc := 266) (bc := bc) (bs := bs) (mc := 0) (ms := 0) (As := [.inl x12, .inl x1, .inl x10, .inl x11, .inl v5]) (rest := [.inl (((nI 12) * (((nI 15) * x7) + x9)) + x12), .inr (some (1, 1080, 92))]) dX12_plan_266 kX12_priceOf lX12_230 ⟨_, _, rfl⟩ rfl rfl (H.use (fun v6 h6 H => ?_))
      have S6 := H.1
      replace H := H.2
      refine z_goto (pc := 269) (tgt := 273) dX12_plan_269 (by decide) ?_
      have c7 := H.1
      replace H := H.2
      refine z_iast (pc := 273) dX12_plan_273 c7 ?_
      refine z_iinc (pc := 274) (v := (x12 + (nI 1))) (ls' := [some (.inr (some (0, 12, 63))), some (.inl x1), some (.inl x2), some (.inl x3), some (.inl x4), some (.inl x5), some (.inl x6), some (.inl x7), some (.inl x8), some (.inl x9), some (.inl x10), some (.inl x11), some (.inl (x12 + (nI 1)))]) dX12_plan_274 rfl (by rw [show Int32.ofInt (1) = (nI 1) by decide]) rfl ?_
      refine z_goto (pc := 277) (tgt := 204) dX12_plan_277 (by decide) ?_
      exact H

set_option maxRecDepth 20000 in
theorem bX12_plan_317 {l : Launch} {E : eE} {d bc bs : Nat} {h : aH} {Q : Int32 → aH → Prop} {x1 : Int32} {x2 : Int32} {x3 : Int32} {x4 : Int32} {x5 : Int32} {x6 : Int32} {x7 : Int32} {x8 : Int32} (S : SH h) (H : ((x6 ≤ x8 → LX12_plan_341 l E (d + 1) bc bs x1 x2 x3 x4 x5 x6 x7 (nI 1) h Q) ∧ (¬ x6 ≤ x8 → (vp_in x8 6 ∧ LX12_plan_317 l E (d + 1) bc bs x1 x2 x3 x4 x5 x6 x7 (x8 + (nI 1)) (stA h 93 (x8).toNatClampNeg (nI 0)) Q)))) : LX12_plan_317 l E (d + 1) bc bs x1 x2 x3 x4 x5 x6 x7 x8 h Q := by
  refine z_iload (pc := 317) dX12_plan_317 rfl ?_
  refine z_iload (pc := 319) dX12_plan_319 rfl ?_
  refine z_icmp_ge (pc := 321) (tgt := 338) dX12_plan_321 (by decide) (fun c1 => ?_) (fun c1 => ?_)
  · replace H := H.1 c1
    refine z_iconst (pc := 338) (v := (nI 1)) dX12_plan_338 (by decide) ?_
    refine z_istore (pc := 339) (ls' := [some (.inr (some (0, 12, 63))), some (.inl x1), some (.inl x2), some (.inl x3), some (.inl x4), some (.inl x5), some (.inl x6), some (.inl x7), some (.inl (nI 1)), none, none, none, none]) dX12_plan_339 rfl rfl ?_
    exact H
  · replace H := H.2 c1
    refine z_aload_n (pc := 324) dX12_plan_324 rfl rfl ?_
    refine z_getk (pc := 325) dX12_plan_325 fX12_102 rfl (s_63_36 S) ?_
    refine z_iload (pc := 328) dX12_plan_328 rfl ?_
    refine z_iconst (pc := 330) (v := (nI 0)) dX12_plan_330 (by decide) ?_
    have c2 := H.1
    replace H := H.2
    refine z_iast (pc := 331) dX12_plan_331 c2 ?_
    refine z_iinc (pc := 332) (v := (x8 + (nI 1))) (ls' := [some (.inr (some (0, 12, 63))), some (.inl x1), some (.inl x2), some (.inl x3), some (.inl x4), some (.inl x5), some (.inl x6), some (.inl x7), some (.inl (x8 + (nI 1))), none, none, none, none]) dX12_plan_332 rfl (by rw [show Int32.ofInt (1) = (nI 1) by decide]) rfl ?_
    refine z_goto (pc := 335) (tgt := 317) dX12_plan_335 (by decide) ?_
    exact H

set_option maxRecDepth 20000 in
theorem bX12_plan_341 {l : Launch} {E : eE} {d bc bs : Nat} {h : aH} {Q : Int32 → aH → Prop} {x1 : Int32} {x2 : Int32} {x3 : Int32} {x4 : Int32} {x5 : Int32} {x6 : Int32} {x7 : Int32} {x8 : Int32} (S : SH h) (H : ((x8 = 0 → LX12_plan_605 l E (d + 1) bc bs x1 x2 x3 x4 x5 x6 x7 x8 (nI 0) h Q) ∧ (¬ x8 = 0 → LX12_plan_352 l E (d + 1) bc bs x1 x2 x3 x4 x5 x6 x7 x8 (nI 1) (nI 0) h Q))) : LX12_plan_341 l E (d + 1) bc bs x1 x2 x3 x4 x5 x6 x7 x8 h Q := by
  refine z_iload (pc := 341) dX12_plan_341 rfl ?_
  refine z_if_eq (pc := 343) (tgt := 602) dX12_plan_343 (by decide) (fun c1 => ?_) (fun c1 => ?_)
  · replace H := H.1 c1
    refine z_iconst (pc := 602) (v := (nI 0)) dX12_plan_602 (by decide) ?_
    refine z_istore (pc := 603) (ls' := [some (.inr (some (0, 12, 63))), some (.inl x1), some (.inl x2), some (.inl x3), some (.inl x4), some (.inl x5), some (.inl x6), some (.inl x7), some (.inl x8), some (.inl (nI 0)), none, none, none]) dX12_plan_603 rfl rfl ?_
    exact H
  · replace H := H.2 c1
    refine z_iconst (pc := 346) (v := (nI 1)) dX12_plan_346 (by decide) ?_
    refine z_istore (pc := 347) (ls' := [some (.inr (some (0, 12, 63))), some (.inl x1), some (.inl x2), some (.inl x3), some (.inl x4), some (.inl x5), some (.inl x6), some (.inl x7), some (.inl x8), some (.inl (nI 1)), none, none, none]) dX12_plan_347 rfl rfl ?_
    refine z_iconst (pc := 349) (v := (nI 0)) dX12_plan_349 (by decide) ?_
    refine z_istore (pc := 350) (ls' := [some (.inr (some (0, 12, 63))), some (.inl x1), some (.inl x2), some (.inl x3), some (.inl x4), some (.inl x5), some (.inl x6), some (.inl x7), some (.inl x8), some (.inl (nI 1)), some (.inl (nI 0)), none, none]) dX12_plan_350 rfl rfl ?_
    exact H

set_option maxRecDepth 20000 in
theorem bX12_plan_352 {l : Launch} {E : eE} {d bc bs : Nat} {h : aH} {Q : Int32 → aH → Prop} {x1 : Int32} {x2 : Int32} {x3 : Int32} {x4 : Int32} {x5 : Int32} {x6 : Int32} {x7 : Int32} {x8 : Int32} {x9 : Int32} {x10 : Int32} (S : SH h) (H : ((x6 ≤ x10 → ((x9 = 0 → LX12_plan_538 l E (d + 1) bc bs x1 x2 x3 x4 x5 x6 x7 x8 x9 (x6 - (nI 1)) h Q) ∧ (¬ x9 = 0 → LX12_plan_406 l E (d + 1) bc bs x1 x2 x3 x4 x5 x6 x7 x8 x9 (nI 0) h Q))) ∧ (¬ x6 ≤ x10 → ((x9 = 0 → LX12_plan_352 l E (d + 1) bc bs x1 x2 x3 x4 x5 x6 x7 x8 (nI 0) (x10 + (nI 1)) h Q) ∧ (¬ x9 = 0 → (vp_in x10 6 ∧ (vp_in (((nI 15) * x10) + (hA h 93 (x10).toNatClampNeg)) 90 ∧ (((hA h 91 ((((nI 15) * x10) + (hA h 93 (x10).toNatClampNeg))).toNatClampNeg) = 0 → LX12_plan_352 l E (d + 1) bc bs x1 x2 x3 x4 x5 x6 x7 x8 (nI 0) (x10 + (nI 1)) h Q) ∧ (¬ (hA h 91 ((((nI 15) * x10) + (hA h 93 (x10).toNatClampNeg))).toNatClampNeg) = 0 → LX12_plan_352 l E (d + 1) bc bs x1 x2 x3 x4 x5 x6 x7 x8 (nI 1) (x10 + (nI 1)) h Q))))))))) : LX12_plan_352 l E (d + 1) bc bs x1 x2 x3 x4 x5 x6 x7 x8 x9 x10 h Q := by
  refine z_iload (pc := 352) dX12_plan_352 rfl ?_
  refine z_iload (pc := 354) dX12_plan_354 rfl ?_
  refine z_icmp_ge (pc := 356) (tgt := 398) dX12_plan_356 (by decide) (fun c1 => ?_) (fun c1 => ?_)
  · replace H := H.1 c1
    refine z_iload (pc := 398) dX12_plan_398 rfl ?_
    refine z_if_eq (pc := 400) (tgt := 532) dX12_plan_400 (by decide) (fun c2 => ?_) (fun c2 => ?_)
    · replace H := H.1 c2
      refine z_iload (pc := 532) dX12_plan_532 rfl ?_
      refine z_iconst (pc := 534) (v := (nI 1)) dX12_plan_534 (by decide) ?_
      refine z_isub (pc := 535) dX12_plan_535 ?_
      refine z_istore (pc := 536) (ls' := [some (.inr (some (0, 12, 63))), some (.inl x1), some (.inl x2), some (.inl x3), some (.inl x4), some (.inl x5), some (.inl x6), some (.inl x7), some (.inl x8), some (.inl x9), some (.inl (x6 - (nI 1))), none, none]) dX12_plan_536 rfl rfl ?_
      exact H
    · replace H := H.2 c2
      refine z_iconst (pc := 403) (v := (nI 0)) dX12_plan_403 (by decide) ?_
      refine z_istore (pc := 404) (ls' := [some (.inr (some (0, 12, 63))), some (.inl x1), some (.inl x2), some (.inl x3), some (.inl x4), some (.inl x5), some (.inl x6), some (.inl x7), some (.inl x8), some (.inl x9), some (.inl (nI 0)), none, none]) dX12_plan_404 rfl rfl ?_
      exact H
  · replace H := H.2 c1
    refine z_iload (pc := 359) dX12_plan_359 rfl ?_
    refine z_if_eq (pc := 361) (tgt := 389) dX12_plan_361 (by decide) (fun c3 => ?_) (fun c3 => ?_)
    · replace H := H.1 c3
      refine z_iconst (pc := 389) (v := (nI 0)) dX12_plan_389 (by decide) ?_
      refine z_istore (pc := 390) (ls' := [some (.inr (some (0, 12, 63))), some (.inl x1), some (.inl x2), some (.inl x3), some (.inl x4), some (.inl x5), some (.inl x6), some (.inl x7), some (.inl x8), some (.inl (nI 0)), some (.inl x10), none, none]) dX12_plan_390 rfl rfl ?_
      refine z_iinc (pc := 392) (v := (x10 + (nI 1))) (ls' := [some (.inr (some (0, 12, 63))), some (.inl x1), some (.inl x2), some (.inl x3), some (.inl x4), some (.inl x5), some (.inl x6), some (.inl x7), some (.inl x8), some (.inl (nI 0)), some (.inl (x10 + (nI 1))), none, none]) dX12_plan_392 rfl (by rw [show Int32.ofInt (1) = (nI 1) by decide]) rfl ?_
      refine z_goto (pc := 395) (tgt := 352) dX12_plan_395 (by decide) ?_
      exact H
    · replace H := H.2 c3
      refine z_aload_n (pc := 364) dX12_plan_364 rfl rfl ?_
      refine z_getk (pc := 365) dX12_plan_365 fX12_96 rfl (s_63_34 S) ?_
      refine z_bipush (pc := 368) (v := (nI 15)) dX12_plan_368 (by decide) ?_
      refine z_iload (pc := 370) dX12_plan_370 rfl ?_
      refine z_imul (pc := 372) dX12_plan_372 ?_
      refine z_aload_n (pc := 373) dX12_plan_373 rfl rfl ?_
      refine z_getk (pc := 374) dX12_plan_374 fX12_102 rfl (s_63_36 S) ?_
      refine z_iload (pc := 377) dX12_plan_377 rfl ?_
      have c4 := H.1
      replace H := H.2
      refine z_iald (pc := 379) dX12_plan_379 c4 ?_
      refine z_iadd (pc := 380) dX12_plan_380 ?_
      have c5 := H.1
      replace H := H.2
      refine z_zald (pc := 381) dX12_plan_381 c5 ?_
      refine z_if_eq (pc := 382) (tgt := 389) dX12_plan_382 (by decide) (fun c6 => ?_) (fun c6 => ?_)
      · replace H := H.1 c6
        refine z_iconst (pc := 389) (v := (nI 0)) dX12_plan_389 (by decide) ?_
        refine z_istore (pc := 390) (ls' := [some (.inr (some (0, 12, 63))), some (.inl x1), some (.inl x2), some (.inl x3), some (.inl x4), some (.inl x5), some (.inl x6), some (.inl x7), some (.inl x8), some (.inl (nI 0)), some (.inl x10), none, none]) dX12_plan_390 rfl rfl ?_
        refine z_iinc (pc := 392) (v := (x10 + (nI 1))) (ls' := [some (.inr (some (0, 12, 63))), some (.inl x1), some (.inl x2), some (.inl x3), some (.inl x4), some (.inl x5), some (.inl x6), some (.inl x7), some (.inl x8), some (.inl (nI 0)), some (.inl (x10 + (nI 1))), none, none]) dX12_plan_392 rfl (by rw [show Int32.ofInt (1) = (nI 1) by decide]) rfl ?_
        refine z_goto (pc := 395) (tgt := 352) dX12_plan_395 (by decide) ?_
        exact H
      · replace H := H.2 c6
        refine z_iconst (pc := 385) (v := (nI 1)) dX12_plan_385 (by decide) ?_
        refine z_goto (pc := 386) (tgt := 390) dX12_plan_386 (by decide) ?_
        refine z_istore (pc := 390) (ls' := [some (.inr (some (0, 12, 63))), some (.inl x1), some (.inl x2), some (.inl x3), some (.inl x4), some (.inl x5), some (.inl x6), some (.inl x7), some (.inl x8), some (.inl (nI 1)), some (.inl x10), none, none]) dX12_plan_390 rfl rfl ?_
        refine z_iinc (pc := 392) (v := (x10 + (nI 1))) (ls' := [some (.inr (some (0, 12, 63))), some (.inl x1), some (.inl x2), some (.inl x3), some (.inl x4), some (.inl x5), some (.inl x6), some (.inl x7), some (.inl x8), some (.inl (nI 1)), some (.inl (x10 + (nI 1))), none, none]) dX12_plan_392 rfl (by rw [show Int32.ofInt (1) = (nI 1) by decide]) rfl ?_
        refine z_goto (pc := 395) (tgt := 352) dX12_plan_395 (by decide) ?_
        exact H

set_option maxRecDepth 20000 in
theorem bX12_plan_406 {l : Launch} {E : eE} {d bc bs : Nat} {h : aH} {Q : Int32 → aH → Prop} {x1 : Int32} {x2 : Int32} {x3 : Int32} {x4 : Int32} {x5 : Int32} {x6 : Int32} {x7 : Int32} {x8 : Int32} {x9 : Int32} {x10 : Int32} (S : SH h) (H : (((hI h 63 3) ≤ x10 → (CV l E d 0 0 mX12_sorts [.inr (some (0, 12, 63))] h (fun h2 => SH h2 ∧ ((x7 = 0 → (CV l E d 0 0 mX12_isBest [.inr (some (0, 12, 63))] h2 (fun h4 => SH h4 ∧ LX12_plan_505 l E (d + 1) bc bs x1 x2 x3 x4 x5 x6 (nI 1) x8 x9 (nI 0) h4 Q))) ∧ (¬ x7 = 0 → (CI l E d 0 0 mX12_isLess [.inr (some (0, 12, 63))] h2 (fun v5 h5 => SH h5 ∧ ((v5 = 0 → LX12_plan_538 l E (d + 1) bc bs x1 x2 x3 x4 x5 x6 x7 x8 x9 (x6 - (nI 1)) h5 Q) ∧ (¬ v5 = 0 → (CV l E d 0 0 mX12_isBest [.inr (some (0, 12, 63))] h5 (fun h7 => SH h7 ∧ LX12_plan_505 l E (d + 1) bc bs x1 x2 x3 x4 x5 x6 (nI 1) x8 x9 (nI 0) h7 Q))))))))))) ∧ (¬ (hI h 63 3) ≤ x10 → (vp_in x10 12 ∧ LX12_plan_426 l E (d + 1) bc bs x1 x2 x3 x4 x5 x6 x7 x8 x9 x10 (nI 0) (stA h 88 (x10).toNatClampNeg (nI 0)) Q)))) : LX12_plan_406 l E (d + 1) bc bs x1 x2 x3 x4 x5 x6 x7 x8 x9 x10 h Q := by
  refine z_iload (pc := 406) dX12_plan_406 rfl ?_
  refine z_aload_n (pc := 408) dX12_plan_408 rfl rfl ?_
  refine z_geti (pc := 409) dX12_plan_409 fX12_123 rfl ?_
  refine z_icmp_ge (pc := 412) (tgt := 479) dX12_plan_412 (by decide) (fun c1 => ?_) (fun c1 => ?_)
  · replace H := H.1 c1
    refine z_aload_n (pc := 479) dX12_plan_479 rfl rfl ?_
    refine y_VV (pc := 480) (bc := bc) (bs := bs) (mc := 0) (ms := 0) (As := []) (rest := []) dX12_plan_480 kX12_sorts lX12_238 ⟨_, _, rfl⟩ rfl rfl (H.use (fun h2 H => ?_))
    have S2 := H.1
    replace H := H.2
    refine z_iload (pc := 483) dX12_plan_483 rfl ?_
    refine z_if_eq (pc := 485) (tgt := 495) dX12_plan_485 (by decide) (fun c3 => ?_) (fun c3 => ?_)
    · replace H := H.1 c3
      refine z_iconst (pc := 495) (v := (nI 1)) dX12_plan_495 (by decide) ?_
      refine z_istore (pc := 496) (ls' := [some (.inr (some (0, 12, 63))), some (.inl x1), some (.inl x2), some (.inl x3), some (.inl x4), some (.inl x5), some (.inl x6), some (.inl (nI 1)), some (.inl x8), some (.inl x9), some (.inl x10), none, none]) dX12_plan_496 rfl rfl ?_
      refine z_aload_n (pc := 498) dX12_plan_498 rfl rfl ?_
      refine y_VV (pc := 499) (bc := bc) (bs := bs) (mc := 0) (ms := 0) (As := []) (rest := []) dX12_plan_499 kX12_isBest lX12_245 ⟨_, _, rfl⟩ rfl rfl (H.use (fun h4 H => ?_))
      have S4 := H.1
      replace H := H.2
      refine z_iconst (pc := 502) (v := (nI 0)) dX12_plan_502 (by decide) ?_
      refine z_istore (pc := 503) (ls' := [some (.inr (some (0, 12, 63))), some (.inl x1), some (.inl x2), some (.inl x3), some (.inl x4), some (.inl x5), some (.inl x6), some (.inl (nI 1)), some (.inl x8), some (.inl x9), some (.inl (nI 0)), none, none]) dX12_plan_503 rfl rfl ?_
      exact H
    · replace H := H.2 c3
      refine z_aload_n (pc := 488) dX12_plan_488 rfl rfl ?_
      refine y_VI (pc := 489) (bc := bc) (bs := bs) (mc := 0) (ms := 0) (As := []) (rest := []) dX12_plan_489 kX12_isLess lX12_241 ⟨_, _, rfl⟩ rfl rfl (H.use (fun v5 h5 H => ?_))
      have S5 := H.1
      replace H := H.2
      refine z_if_eq (pc := 492) (tgt := 532) dX12_plan_492 (by decide) (fun c6 => ?_) (fun c6 => ?_)
      · replace H := H.1 c6
        refine z_iload (pc := 532) dX12_plan_532 rfl ?_
        refine z_iconst (pc := 534) (v := (nI 1)) dX12_plan_534 (by decide) ?_
        refine z_isub (pc := 535) dX12_plan_535 ?_
        refine z_istore (pc := 536) (ls' := [some (.inr (some (0, 12, 63))), some (.inl x1), some (.inl x2), some (.inl x3), some (.inl x4), some (.inl x5), some (.inl x6), some (.inl x7), some (.inl x8), some (.inl x9), some (.inl (x6 - (nI 1))), none, none]) dX12_plan_536 rfl rfl ?_
        exact H
      · replace H := H.2 c6
        refine z_iconst (pc := 495) (v := (nI 1)) dX12_plan_495 (by decide) ?_
        refine z_istore (pc := 496) (ls' := [some (.inr (some (0, 12, 63))), some (.inl x1), some (.inl x2), some (.inl x3), some (.inl x4), some (.inl x5), some (.inl x6), some (.inl (nI 1)), some (.inl x8), some (.inl x9), some (.inl x10), none, none]) dX12_plan_496 rfl rfl ?_
        refine z_aload_n (pc := 498) dX12_plan_498 rfl rfl ?_
        refine y_VV (pc := 499) (bc := bc) (bs := bs) (mc := 0) (ms := 0) (As := []) (rest := []) dX12_plan_499 kX12_isBest lX12_245 ⟨_, _, rfl⟩ rfl rfl (H.use (fun h7 H => ?_))
        have S7 := H.1
        replace H := H.2
        refine z_iconst (pc := 502) (v := (nI 0)) dX12_plan_502 (by decide) ?_
        refine z_istore (pc := 503) (ls' := [some (.inr (some (0, 12, 63))), some (.inl x1), some (.inl x2), some (.inl x3), some (.inl x4), some (.inl x5), some (.inl x6), some (.inl (nI 1)), some (.inl x8), some (.inl x9), some (.inl (nI 0)), none, none]) dX12_plan_503 rfl rfl ?_
        exact H
  · replace H := H.2 c1
    refine z_aload_n (pc := 415) dX12_plan_415 rfl rfl ?_
    refine z_getk (pc := 416) dX12_plan_416 fX12_87 rfl (s_63_31 S) ?_
    refine z_iload (pc := 419) dX12_plan_419 rfl ?_
    refine z_iconst (pc := 421) (v := (nI 0)) dX12_plan_421 (by decide) ?_
    have c8 := H.1
    replace H := H.2
    refine z_iast (pc := 422) dX12_plan_422 c8 ?_
    refine z_iconst (pc := 423) (v := (nI 0)) dX12_plan_423 (by decide) ?_
    refine z_istore (pc := 424) (ls' := [some (.inr (some (0, 12, 63))), some (.inl x1), some (.inl x2), some (.inl x3), some (.inl x4), some (.inl x5), some (.inl x6), some (.inl x7), some (.inl x8), some (.inl x9), some (.inl x10), some (.inl (nI 0)), none]) dX12_plan_424 rfl rfl ?_
    exact H

set_option maxRecDepth 20000 in
theorem bX12_plan_426 {l : Launch} {E : eE} {d bc bs : Nat} {h : aH} {Q : Int32 → aH → Prop} {x1 : Int32} {x2 : Int32} {x3 : Int32} {x4 : Int32} {x5 : Int32} {x6 : Int32} {x7 : Int32} {x8 : Int32} {x9 : Int32} {x10 : Int32} {x11 : Int32} (S : SH h) (H : ((x6 ≤ x11 → LX12_plan_406 l E (d + 1) bc bs x1 x2 x3 x4 x5 x6 x7 x8 x9 (x10 + (nI 1)) h Q) ∧ (¬ x6 ≤ x11 → (vp_in x10 12 ∧ (vp_in x11 6 ∧ (vp_in (((nI 12) * (((nI 15) * x11) + (hA h 93 (x11).toNatClampNeg))) + x10) 1080 ∧ LX12_plan_426 l E (d + 1) bc bs x1 x2 x3 x4 x5 x6 x7 x8 x9 x10 (x11 + (nI 1)) (stA h 88 (x10).toNatClampNeg ((hA h 88 (x10).toNatClampNeg) + (hA h 92 ((((nI 12) * (((nI 15) * x11) + (hA h 93 (x11).toNatClampNeg))) + x10)).toNatClampNeg))) Q)))))) : LX12_plan_426 l E (d + 1) bc bs x1 x2 x3 x4 x5 x6 x7 x8 x9 x10 x11 h Q := by
  refine z_iload (pc := 426) dX12_plan_426 rfl ?_
  refine z_iload (pc := 428) dX12_plan_428 rfl ?_
  refine z_icmp_ge (pc := 430) (tgt := 473) dX12_plan_430 (by decide) (fun c1 => ?_) (fun c1 => ?_)
  · replace H := H.1 c1
    refine z_iinc (pc := 473) (v := (x10 + (nI 1))) (ls' := [some (.inr (some (0, 12, 63))), some (.inl x1), some (.inl x2), some (.inl x3), some (.inl x4), some (.inl x5), some (.inl x6), some (.inl x7), some (.inl x8), some (.inl x9), some (.inl (x10 + (nI 1))), some (.inl x11), none]) dX12_plan_473 rfl (by rw [show Int32.ofInt (1) = (nI 1) by decide]) rfl ?_
    refine z_goto (pc := 476) (tgt := 406) dX12_plan_476 (by decide) ?_
    exact z_drop (ls' := [some (.inr (some (0, 12, 63))), some (.inl x1), some (.inl x2), some (.inl x3), some (.inl x4), some (.inl x5), some (.inl x6), some (.inl x7), some (.inl x8), some (.inl x9), some (.inl (x10 + (nI 1))), none, none]) (by simp [dropL]) H
  · replace H := H.2 c1
    refine z_aload_n (pc := 433) dX12_plan_433 rfl rfl ?_
    refine z_getk (pc := 434) dX12_plan_434 fX12_87 rfl (s_63_31 S) ?_
    refine z_iload (pc := 437) dX12_plan_437 rfl ?_
    refine z_dup2 (pc := 439) dX12_plan_439 ?_
    have c2 := H.1
    replace H := H.2
    refine z_iald (pc := 440) dX12_plan_440 c2 ?_
    refine z_aload_n (pc := 441) dX12_plan_441 rfl rfl ?_
    refine z_getk (pc := 442) dX12_plan_442 fX12_99 rfl (s_63_35 S) ?_
    refine z_bipush (pc := 445) (v := (nI 12)) dX12_plan_445 (by decide) ?_
    refine z_bipush (pc := 447) (v := (nI 15)) dX12_plan_447 (by decide) ?_
    refine z_iload (pc := 449) dX12_plan_449 rfl ?_
    refine z_imul (pc := 451) dX12_plan_451 ?_
    refine z_aload_n (pc := 452) dX12_plan_452 rfl rfl ?_
    refine z_getk (pc := 453) dX12_plan_453 fX12_102 rfl (s_63_36 S) ?_
    refine z_iload (pc := 456) dX12_plan_456 rfl ?_
    have c3 := H.1
    replace H := H.2
    refine z_iald (pc := 458) dX12_plan_458 c3 ?_
    refine z_iadd (pc := 459) dX12_plan_459 ?_
    refine z_imul (pc := 460) dX12_plan_460 ?_
    refine z_iload (pc := 461) dX12_plan_461 rfl ?_
    refine z_iadd (pc := 463) dX12_plan_463 ?_
    have c4 := H.1
    replace H := H.2
    refine z_iald (pc := 464) dX12_plan_464 c4 ?_
    refine z_iadd (pc := 465) dX12_plan_465 ?_
    refine z_iast (pc := 466) dX12_plan_466 c2 ?_
    refine z_iinc (pc := 467) (v := (x11 + (nI 1))) (ls' := [some (.inr (some (0, 12, 63))), some (.inl x1), some (.inl x2), some (.inl x3), some (.inl x4), some (.inl x5), some (.inl x6), some (.inl x7), some (.inl x8), some (.inl x9), some (.inl x10), some (.inl (x11 + (nI 1))), none]) dX12_plan_467 rfl (by rw [show Int32.ofInt (1) = (nI 1) by decide]) rfl ?_
    refine z_goto (pc := 470) (tgt := 426) dX12_plan_470 (by decide) ?_
    exact H

set_option maxRecDepth 20000 in
theorem bX12_plan_505 {l : Launch} {E : eE} {d bc bs : Nat} {h : aH} {Q : Int32 → aH → Prop} {x1 : Int32} {x2 : Int32} {x3 : Int32} {x4 : Int32} {x5 : Int32} {x6 : Int32} {x7 : Int32} {x8 : Int32} {x9 : Int32} {x10 : Int32} (S : SH h) (H : ((x6 ≤ x10 → LX12_plan_538 l E (d + 1) bc bs x1 x2 x3 x4 x5 x6 x7 x8 x9 (x6 - (nI 1)) h Q) ∧ (¬ x6 ≤ x10 → (vp_in x10 6 ∧ LX12_plan_505 l E (d + 1) bc bs x1 x2 x3 x4 x5 x6 x7 x8 x9 (x10 + (nI 1)) (stA h 94 (x10).toNatClampNeg (hA h 93 (x10).toNatClampNeg)) Q)))) : LX12_plan_505 l E (d + 1) bc bs x1 x2 x3 x4 x5 x6 x7 x8 x9 x10 h Q := by
  refine z_iload (pc := 505) dX12_plan_505 rfl ?_
  refine z_iload (pc := 507) dX12_plan_507 rfl ?_
  refine z_icmp_ge (pc := 509) (tgt := 532) dX12_plan_509 (by decide) (fun c1 => ?_) (fun c1 => ?_)
  · replace H := H.1 c1
    refine z_iload (pc := 532) dX12_plan_532 rfl ?_
    refine z_iconst (pc := 534) (v := (nI 1)) dX12_plan_534 (by decide) ?_
    refine z_isub (pc := 535) dX12_plan_535 ?_
    refine z_istore (pc := 536) (ls' := [some (.inr (some (0, 12, 63))), some (.inl x1), some (.inl x2), some (.inl x3), some (.inl x4), some (.inl x5), some (.inl x6), some (.inl x7), some (.inl x8), some (.inl x9), some (.inl (x6 - (nI 1))), none, none]) dX12_plan_536 rfl rfl ?_
    exact H
  · replace H := H.2 c1
    refine z_aload_n (pc := 512) dX12_plan_512 rfl rfl ?_
    refine z_getk (pc := 513) dX12_plan_513 fX12_105 rfl (s_63_37 S) ?_
    refine z_iload (pc := 516) dX12_plan_516 rfl ?_
    refine z_aload_n (pc := 518) dX12_plan_518 rfl rfl ?_
    refine z_getk (pc := 519) dX12_plan_519 fX12_102 rfl (s_63_36 S) ?_
    refine z_iload (pc := 522) dX12_plan_522 rfl ?_
    have c2 := H.1
    replace H := H.2
    refine z_iald (pc := 524) dX12_plan_524 c2 ?_
    refine z_iast (pc := 525) dX12_plan_525 c2 ?_
    refine z_iinc (pc := 526) (v := (x10 + (nI 1))) (ls' := [some (.inr (some (0, 12, 63))), some (.inl x1), some (.inl x2), some (.inl x3), some (.inl x4), some (.inl x5), some (.inl x6), some (.inl x7), some (.inl x8), some (.inl x9), some (.inl (x10 + (nI 1))), none, none]) dX12_plan_526 rfl (by rw [show Int32.ofInt (1) = (nI 1) by decide]) rfl ?_
    refine z_goto (pc := 529) (tgt := 505) dX12_plan_529 (by decide) ?_
    exact H

set_option maxRecDepth 20000 in
theorem bX12_plan_538 {l : Launch} {E : eE} {d bc bs : Nat} {h : aH} {Q : Int32 → aH → Prop} {x1 : Int32} {x2 : Int32} {x3 : Int32} {x4 : Int32} {x5 : Int32} {x6 : Int32} {x7 : Int32} {x8 : Int32} {x9 : Int32} {x10 : Int32} (S : SH h) (H : ((x10 < 0 → LX12_plan_571 l E (d + 1) bc bs x1 x2 x3 x4 x5 x6 x7 x8 x9 x10 h Q) ∧ (¬ x10 < 0 → (vp_in x10 6 ∧ ((¬ (hA h 93 (x10).toNatClampNeg) = (x5 - (nI 1)) → LX12_plan_571 l E (d + 1) bc bs x1 x2 x3 x4 x5 x6 x7 x8 x9 x10 h Q) ∧ ((hA h 93 (x10).toNatClampNeg) = (x5 - (nI 1)) → LX12_plan_538 l E (d + 1) bc bs x1 x2 x3 x4 x5 x6 x7 x8 x9 (x10 + (-1)) (stA h 93 (x10).toNatClampNeg (nI 0)) Q)))))) : LX12_plan_538 l E (d + 1) bc bs x1 x2 x3 x4 x5 x6 x7 x8 x9 x10 h Q := by
  refine z_iload (pc := 538) dX12_plan_538 rfl ?_
  refine z_if_lt (pc := 540) (tgt := 571) dX12_plan_540 (by decide) (fun c1 => ?_) (fun c1 => ?_)
  · replace H := H.1 c1
    exact H
  · replace H := H.2 c1
    refine z_aload_n (pc := 543) dX12_plan_543 rfl rfl ?_
    refine z_getk (pc := 544) dX12_plan_544 fX12_102 rfl (s_63_36 S) ?_
    refine z_iload (pc := 547) dX12_plan_547 rfl ?_
    have c2 := H.1
    replace H := H.2
    refine z_iald (pc := 549) dX12_plan_549 c2 ?_
    refine z_iload (pc := 550) dX12_plan_550 rfl ?_
    refine z_iconst (pc := 552) (v := (nI 1)) dX12_plan_552 (by decide) ?_
    refine z_isub (pc := 553) dX12_plan_553 ?_
    refine z_icmp_ne (pc := 554) (tgt := 571) dX12_plan_554 (by decide) (fun c3 => ?_) (fun c3 => ?_)
    · replace H := H.1 c3
      exact H
    · replace H := H.2 c3
      refine z_aload_n (pc := 557) dX12_plan_557 rfl rfl ?_
      refine z_getk (pc := 558) dX12_plan_558 fX12_102 rfl (s_63_36 S) ?_
      refine z_iload (pc := 561) dX12_plan_561 rfl ?_
      refine z_iconst (pc := 563) (v := (nI 0)) dX12_plan_563 (by decide) ?_
      refine z_iast (pc := 564) dX12_plan_564 c2 ?_
      refine z_iinc (pc := 565) (v := (x10 + (-1))) (ls' := [some (.inr (some (0, 12, 63))), some (.inl x1), some (.inl x2), some (.inl x3), some (.inl x4), some (.inl x5), some (.inl x6), some (.inl x7), some (.inl x8), some (.inl x9), some (.inl (x10 + (-1))), none, none]) dX12_plan_565 rfl (by rw [show Int32.ofInt (-1) = (-1) by decide]) rfl ?_
      refine z_goto (pc := 568) (tgt := 538) dX12_plan_568 (by decide) ?_
      exact H

set_option maxRecDepth 20000 in
theorem bX12_plan_571 {l : Launch} {E : eE} {d bc bs : Nat} {h : aH} {Q : Int32 → aH → Prop} {x1 : Int32} {x2 : Int32} {x3 : Int32} {x4 : Int32} {x5 : Int32} {x6 : Int32} {x7 : Int32} {x8 : Int32} {x9 : Int32} {x10 : Int32} (S : SH h) (H : ((x10 < 0 → (((nI 0) = 0 → LX12_plan_341 l E (d + 1) bc bs x1 x2 x3 x4 x5 x6 x7 (nI 0) h Q) ∧ (¬ (nI 0) = 0 → (vp_in x10 6 ∧ LX12_plan_341 l E (d + 1) bc bs x1 x2 x3 x4 x5 x6 x7 (nI 0) (stA h 93 (x10).toNatClampNeg ((hA h 93 (x10).toNatClampNeg) + (nI 1))) Q)))) ∧ (¬ x10 < 0 → (((nI 1) = 0 → LX12_plan_341 l E (d + 1) bc bs x1 x2 x3 x4 x5 x6 x7 (nI 1) h Q) ∧ (¬ (nI 1) = 0 → (vp_in x10 6 ∧ LX12_plan_341 l E (d + 1) bc bs x1 x2 x3 x4 x5 x6 x7 (nI 1) (stA h 93 (x10).toNatClampNeg ((hA h 93 (x10).toNatClampNeg) + (nI 1))) Q)))))) : LX12_plan_571 l E (d + 1) bc bs x1 x2 x3 x4 x5 x6 x7 x8 x9 x10 h Q := by
  refine z_iload (pc := 571) dX12_plan_571 rfl ?_
  refine z_if_lt (pc := 573) (tgt := 580) dX12_plan_573 (by decide) (fun c1 => ?_) (fun c1 => ?_)
  · replace H := H.1 c1
    refine z_iconst (pc := 580) (v := (nI 0)) dX12_plan_580 (by decide) ?_
    refine z_istore (pc := 581) (ls' := [some (.inr (some (0, 12, 63))), some (.inl x1), some (.inl x2), some (.inl x3), some (.inl x4), some (.inl x5), some (.inl x6), some (.inl x7), some (.inl (nI 0)), some (.inl x9), some (.inl x10), none, none]) dX12_plan_581 rfl rfl ?_
    refine z_iload (pc := 583) dX12_plan_583 rfl ?_
    refine z_if_eq (pc := 585) (tgt := 599) dX12_plan_585 (by decide) (fun c2 => ?_) (fun c2 => ?_)
    · replace H := H.1 c2
      refine z_goto (pc := 599) (tgt := 341) dX12_plan_599 (by decide) ?_
      exact z_drop (ls' := [some (.inr (some (0, 12, 63))), some (.inl x1), some (.inl x2), some (.inl x3), some (.inl x4), some (.inl x5), some (.inl x6), some (.inl x7), some (.inl (nI 0)), none, none, none, none]) (by simp [dropL]) H
    · replace H := H.2 c2
      refine z_aload_n (pc := 588) dX12_plan_588 rfl rfl ?_
      refine z_getk (pc := 589) dX12_plan_589 fX12_102 rfl (s_63_36 S) ?_
      refine z_iload (pc := 592) dX12_plan_592 rfl ?_
      refine z_dup2 (pc := 594) dX12_plan_594 ?_
      have c3 := H.1
      replace H := H.2
      refine z_iald (pc := 595) dX12_plan_595 c3 ?_
      refine z_iconst (pc := 596) (v := (nI 1)) dX12_plan_596 (by decide) ?_
      refine z_iadd (pc := 597) dX12_plan_597 ?_
      refine z_iast (pc := 598) dX12_plan_598 c3 ?_
      refine z_goto (pc := 599) (tgt := 341) dX12_plan_599 (by decide) ?_
      exact z_drop (ls' := [some (.inr (some (0, 12, 63))), some (.inl x1), some (.inl x2), some (.inl x3), some (.inl x4), some (.inl x5), some (.inl x6), some (.inl x7), some (.inl (nI 0)), none, none, none, none]) (by simp [dropL]) H
  · replace H := H.2 c1
    refine z_iconst (pc := 576) (v := (nI 1)) dX12_plan_576 (by decide) ?_
    refine z_goto (pc := 577) (tgt := 581) dX12_plan_577 (by decide) ?_
    refine z_istore (pc := 581) (ls' := [some (.inr (some (0, 12, 63))), some (.inl x1), some (.inl x2), some (.inl x3), some (.inl x4), some (.inl x5), some (.inl x6), some (.inl x7), some (.inl (nI 1)), some (.inl x9), some (.inl x10), none, none]) dX12_plan_581 rfl rfl ?_
    refine z_iload (pc := 583) dX12_plan_583 rfl ?_
    refine z_if_eq (pc := 585) (tgt := 599) dX12_plan_585 (by decide) (fun c4 => ?_) (fun c4 => ?_)
    · replace H := H.1 c4
      refine z_goto (pc := 599) (tgt := 341) dX12_plan_599 (by decide) ?_
      exact z_drop (ls' := [some (.inr (some (0, 12, 63))), some (.inl x1), some (.inl x2), some (.inl x3), some (.inl x4), some (.inl x5), some (.inl x6), some (.inl x7), some (.inl (nI 1)), none, none, none, none]) (by simp [dropL]) H
    · replace H := H.2 c4
      refine z_aload_n (pc := 588) dX12_plan_588 rfl rfl ?_
      refine z_getk (pc := 589) dX12_plan_589 fX12_102 rfl (s_63_36 S) ?_
      refine z_iload (pc := 592) dX12_plan_592 rfl ?_
      refine z_dup2 (pc := 594) dX12_plan_594 ?_
      have c5 := H.1
      replace H := H.2
      refine z_iald (pc := 595) dX12_plan_595 c5 ?_
      refine z_iconst (pc := 596) (v := (nI 1)) dX12_plan_596 (by decide) ?_
      refine z_iadd (pc := 597) dX12_plan_597 ?_
      refine z_iast (pc := 598) dX12_plan_598 c5 ?_
      refine z_goto (pc := 599) (tgt := 341) dX12_plan_599 (by decide) ?_
      exact z_drop (ls' := [some (.inr (some (0, 12, 63))), some (.inl x1), some (.inl x2), some (.inl x3), some (.inl x4), some (.inl x5), some (.inl x6), some (.inl x7), some (.inl (nI 1)), none, none, none, none]) (by simp [dropL]) H

set_option maxRecDepth 20000 in
theorem bX12_plan_605 {l : Launch} {E : eE} {d bc bs : Nat} {h : aH} {Q : Int32 → aH → Prop} {x1 : Int32} {x2 : Int32} {x3 : Int32} {x4 : Int32} {x5 : Int32} {x6 : Int32} {x7 : Int32} {x8 : Int32} {x9 : Int32} (S : SH h) (H : ((x6 ≤ x9 → ((¬ (hI h 63 3) = 0 → Q (hA h 90 ((nI 0)).toNatClampNeg) h) ∧ ((hI h 63 3) = 0 → Q (nI 0) h))) ∧ (¬ x6 ≤ x9 → (vp_in x9 6 ∧ (vp_in (((nI 15) * x1) + (hA h 94 (x9).toNatClampNeg)) 60 ∧ (vp_in ((nI 2) * ((((nI 52) * x1) + x2) + x9)) 416 ∧ (vp_in (((nI 2) * ((((nI 52) * x1) + x2) + x9)) + (nI 1)) 416 ∧ LX12_plan_605 l E (d + 1) bc bs x1 x2 x3 x4 x5 x6 x7 x8 (x9 + (nI 1)) (stA (stA h 80 (((nI 2) * ((((nI 52) * x1) + x2) + x9))).toNatClampNeg (hA h 85 ((((nI 15) * x1) + (hA h 94 (x9).toNatClampNeg))).toNatClampNeg)) 80 ((((nI 2) * ((((nI 52) * x1) + x2) + x9)) + (nI 1))).toNatClampNeg (hA h 86 ((((nI 15) * x1) + (hA h 94 (x9).toNatClampNeg))).toNatClampNeg)) Q))))))) : LX12_plan_605 l E (d + 1) bc bs x1 x2 x3 x4 x5 x6 x7 x8 x9 h Q := by
  refine z_iload (pc := 605) dX12_plan_605 rfl ?_
  refine z_iload (pc := 607) dX12_plan_607 rfl ?_
  refine z_icmp_ge (pc := 609) (tgt := 686) dX12_plan_609 (by decide) (fun c1 => ?_) (fun c1 => ?_)
  · replace H := H.1 c1
    refine z_aload_n (pc := 686) dX12_plan_686 rfl rfl ?_
    refine z_geti (pc := 687) dX12_plan_687 fX12_123 rfl ?_
    refine z_if_ne (pc := 690) (tgt := 697) dX12_plan_690 (by decide) (fun c2 => ?_) (fun c2 => ?_)
    · replace H := H.1 c2
      refine z_aload_n (pc := 697) dX12_plan_697 rfl rfl ?_
      refine z_getk (pc := 698) dX12_plan_698 fX12_93 rfl (s_63_33 S) ?_
      refine z_iconst (pc := 701) (v := (nI 0)) dX12_plan_701 (by decide) ?_
      refine z_iald (pc := 702) dX12_plan_702 (vp_in_nI (by decide) (by decide)) ?_
      exact z_iret (pc := 703) dX12_plan_703 rfl rfl ⟨_, rfl, H⟩
    · replace H := H.2 c2
      refine z_iconst (pc := 693) (v := (nI 0)) dX12_plan_693 (by decide) ?_
      refine z_goto (pc := 694) (tgt := 703) dX12_plan_694 (by decide) ?_
      exact z_iret (pc := 703) dX12_plan_703 rfl rfl ⟨_, rfl, H⟩
  · replace H := H.2 c1
    refine z_aload_n (pc := 612) dX12_plan_612 rfl rfl ?_
    refine z_getk (pc := 613) dX12_plan_613 fX12_63 rfl (s_63_21 S) ?_
    refine z_iconst (pc := 616) (v := (nI 2)) dX12_plan_616 (by decide) ?_
    refine z_bipush (pc := 617) (v := (nI 52)) dX12_plan_617 (by decide) ?_
    refine z_iload_n (pc := 619) dX12_plan_619 rfl rfl ?_
    refine z_imul (pc := 620) dX12_plan_620 ?_
    refine z_iload_n (pc := 621) dX12_plan_621 rfl rfl ?_
    refine z_iadd (pc := 622) dX12_plan_622 ?_
    refine z_iload (pc := 623) dX12_plan_623 rfl ?_
    refine z_iadd (pc := 625) dX12_plan_625 ?_
    refine z_imul (pc := 626) dX12_plan_626 ?_
    refine z_aload_n (pc := 627) dX12_plan_627 rfl rfl ?_
    refine z_getk (pc := 628) dX12_plan_628 fX12_78 rfl (s_63_28 S) ?_
    refine z_bipush (pc := 631) (v := (nI 15)) dX12_plan_631 (by decide) ?_
    refine z_iload_n (pc := 633) dX12_plan_633 rfl rfl ?_
    refine z_imul (pc := 634) dX12_plan_634 ?_
    refine z_aload_n (pc := 635) dX12_plan_635 rfl rfl ?_
    refine z_getk (pc := 636) dX12_plan_636 fX12_105 rfl (s_63_37 S) ?_
    refine z_iload (pc := 639) dX12_plan_639 rfl ?_
    have c3 := H.1
    replace H := H.2
    refine z_iald (pc := 641) dX12_plan_641 c3 ?_
    refine z_iadd (pc := 642) dX12_plan_642 ?_
    have c4 := H.1
    replace H := H.2
    refine z_iald (pc := 643) dX12_plan_643 c4 ?_
    have c5 := H.1
    replace H := H.2
    refine z_iast (pc := 644) dX12_plan_644 c5 ?_
    refine z_aload_n (pc := 645) dX12_plan_645 rfl rfl ?_
    refine z_getk (pc := 646) dX12_plan_646 fX12_63 rfl (s_63_21 S) ?_
    refine z_iconst (pc := 649) (v := (nI 2)) dX12_plan_649 (by decide) ?_
    refine z_bipush (pc := 650) (v := (nI 52)) dX12_plan_650 (by decide) ?_
    refine z_iload_n (pc := 652) dX12_plan_652 rfl rfl ?_
    refine z_imul (pc := 653) dX12_plan_653 ?_
    refine z_iload_n (pc := 654) dX12_plan_654 rfl rfl ?_
    refine z_iadd (pc := 655) dX12_plan_655 ?_
    refine z_iload (pc := 656) dX12_plan_656 rfl ?_
    refine z_iadd (pc := 658) dX12_plan_658 ?_
    refine z_imul (pc := 659) dX12_plan_659 ?_
    refine z_iconst (pc := 660) (v := (nI 1)) dX12_plan_660 (by decide) ?_
    refine z_iadd (pc := 661) dX12_plan_661 ?_
    refine z_aload_n (pc := 662) dX12_plan_662 rfl rfl ?_
    refine z_getk (pc := 663) dX12_plan_663 fX12_81 rfl (s_63_29 S) ?_
    refine z_bipush (pc := 666) (v := (nI 15)) dX12_plan_666 (by decide) ?_
    refine z_iload_n (pc := 668) dX12_plan_668 rfl rfl ?_
    refine z_imul (pc := 669) dX12_plan_669 ?_
    refine z_aload_n (pc := 670) dX12_plan_670 rfl rfl ?_
    refine z_getk (pc := 671) dX12_plan_671 fX12_105 rfl (s_63_37 S) ?_
    refine z_iload (pc := 674) dX12_plan_674 rfl ?_
    refine z_iald (pc := 676) dX12_plan_676 c3 ?_
    refine z_iadd (pc := 677) dX12_plan_677 ?_
    refine z_iald (pc := 678) dX12_plan_678 c4 ?_
    have c6 := H.1
    replace H := H.2
    refine z_iast (pc := 679) dX12_plan_679 c6 ?_
    refine z_iinc (pc := 680) (v := (x9 + (nI 1))) (ls' := [some (.inr (some (0, 12, 63))), some (.inl x1), some (.inl x2), some (.inl x3), some (.inl x4), some (.inl x5), some (.inl x6), some (.inl x7), some (.inl x8), some (.inl (x9 + (nI 1))), none, none, none]) dX12_plan_680 rfl (by rw [show Int32.ofInt (1) = (nI 1) by decide]) rfl ?_
    refine z_goto (pc := 683) (tgt := 605) dX12_plan_683 (by decide) ?_
    exact H

abbrev LX12_stuck_10 (l : Launch) (E : eE) (d bc bs : Nat) (x1 : Int32) (x2 : Int32) (x3 : Int32) (h : aH) (Q : Int32 → aH → Prop) : Prop := TI l E mX12_stuck d bc bs 10 [some (.inr (some (0, 12, 63))), some (.inl x1), some (.inl x2), some (.inl x3)] [] h Q

set_option maxRecDepth 20000 in
theorem bX12_stuck_0 {l : Launch} {E : eE} {d bc bs : Nat} {h : aH} {Q : Int32 → aH → Prop} {x1 : Int32} (S : SH h) (H : ((0 ≤ x1 → LX12_stuck_10 l E d bc bs x1 x1 (nI 0) h Q) ∧ (¬ 0 ≤ x1 → Q (-1) h))) : CI l E d bc bs mX12_stuck [.inr (some (0, 12, 63)), .inl x1] h Q := by
  refine CI.of (by decide) rfl ?_
  show TI l E mX12_stuck d bc bs 0 [some (.inr (some (0, 12, 63))), some (.inl x1), none, none] [] h Q
  refine z_iload_n (pc := 0) dX12_stuck_0 rfl rfl ?_
  refine z_if_ge (pc := 1) (tgt := 6) dX12_stuck_1 (by decide) (fun c1 => ?_) (fun c1 => ?_)
  · replace H := H.1 c1
    refine z_iload_n (pc := 6) dX12_stuck_6 rfl rfl ?_
    refine z_istore_n (pc := 7) (ls' := [some (.inr (some (0, 12, 63))), some (.inl x1), some (.inl x1), none]) dX12_stuck_7 rfl rfl rfl ?_
    refine z_iconst (pc := 8) (v := (nI 0)) dX12_stuck_8 (by decide) ?_
    refine z_istore_n (pc := 9) (ls' := [some (.inr (some (0, 12, 63))), some (.inl x1), some (.inl x1), some (.inl (nI 0))]) dX12_stuck_9 rfl rfl rfl ?_
    exact H
  · replace H := H.2 c1
    refine z_iconst (pc := 4) (v := (-1)) dX12_stuck_4 (by decide) ?_
    exact z_iret (pc := 5) dX12_stuck_5 rfl rfl ⟨_, rfl, H⟩

set_option maxRecDepth 20000 in
theorem bX12_stuck_10 {l : Launch} {E : eE} {d bc bs : Nat} {h : aH} {Q : Int32 → aH → Prop} {x1 : Int32} {x2 : Int32} {x3 : Int32} (S : SH h) (H : (((nI 12) ≤ x3 → Q (-1) h) ∧ (¬ (nI 12) ≤ x3 → ((¬ (((hI h 63 38) >>> (x3 &&& 31)) &&& (nI 1)) = 0 → ((¬ x2 = 0 → LX12_stuck_10 l E d bc bs x1 (x2 + (-1)) (x3 + (nI 1)) h Q) ∧ (x2 = 0 → Q x3 h))) ∧ ((((hI h 63 38) >>> (x3 &&& 31)) &&& (nI 1)) = 0 → LX12_stuck_10 l E d bc bs x1 x2 (x3 + (nI 1)) h Q))))) : LX12_stuck_10 l E d bc bs x1 x2 x3 h Q := by
  refine z_iload_n (pc := 10) dX12_stuck_10 rfl rfl ?_
  refine z_bipush (pc := 11) (v := (nI 12)) dX12_stuck_11 (by decide) ?_
  refine z_icmp_ge (pc := 13) (tgt := 45) dX12_stuck_13 (by decide) (fun c1 => ?_) (fun c1 => ?_)
  · replace H := H.1 c1
    refine z_iconst (pc := 45) (v := (-1)) dX12_stuck_45 (by decide) ?_
    exact z_iret (pc := 46) dX12_stuck_46 rfl rfl ⟨_, rfl, H⟩
  · replace H := H.2 c1
    refine z_aload_n (pc := 16) dX12_stuck_16 rfl rfl ?_
    refine z_geti (pc := 17) dX12_stuck_17 fX12_227 rfl ?_
    refine z_iload_n (pc := 20) dX12_stuck_20 rfl rfl ?_
    refine z_ishr (pc := 21) dX12_stuck_21 ?_
    refine z_iconst (pc := 22) (v := (nI 1)) dX12_stuck_22 (by decide) ?_
    refine z_iand (pc := 23) dX12_stuck_23 ?_
    refine z_if_ne (pc := 24) (tgt := 30) dX12_stuck_24 (by decide) (fun c2 => ?_) (fun c2 => ?_)
    · replace H := H.1 c2
      refine z_iload_n (pc := 30) dX12_stuck_30 rfl rfl ?_
      refine z_if_ne (pc := 31) (tgt := 36) dX12_stuck_31 (by decide) (fun c3 => ?_) (fun c3 => ?_)
      · replace H := H.1 c3
        refine z_iinc (pc := 36) (v := (x2 + (-1))) (ls' := [some (.inr (some (0, 12, 63))), some (.inl x1), some (.inl (x2 + (-1))), some (.inl x3)]) dX12_stuck_36 rfl (by rw [show Int32.ofInt (-1) = (-1) by decide]) rfl ?_
        refine z_iinc (pc := 39) (v := (x3 + (nI 1))) (ls' := [some (.inr (some (0, 12, 63))), some (.inl x1), some (.inl (x2 + (-1))), some (.inl (x3 + (nI 1)))]) dX12_stuck_39 rfl (by rw [show Int32.ofInt (1) = (nI 1) by decide]) rfl ?_
        refine z_goto (pc := 42) (tgt := 10) dX12_stuck_42 (by decide) ?_
        exact H
      · replace H := H.2 c3
        refine z_iload_n (pc := 34) dX12_stuck_34 rfl rfl ?_
        exact z_iret (pc := 35) dX12_stuck_35 rfl rfl ⟨_, rfl, H⟩
    · replace H := H.2 c2
      refine z_goto (pc := 27) (tgt := 39) dX12_stuck_27 (by decide) ?_
      refine z_iinc (pc := 39) (v := (x3 + (nI 1))) (ls' := [some (.inr (some (0, 12, 63))), some (.inl x1), some (.inl x2), some (.inl (x3 + (nI 1)))]) dX12_stuck_39 rfl (by rw [show Int32.ofInt (1) = (nI 1) by decide]) rfl ?_
      refine z_goto (pc := 42) (tgt := 10) dX12_stuck_42 (by decide) ?_
      exact H

abbrev LX12_weekSums_2 (l : Launch) (E : eE) (d bc bs : Nat) (x1 : Int32) (h : aH) (Q : aH → Prop) : Prop := TV l E mX12_weekSums d bc bs 2 [some (.inr (some (0, 12, 63))), some (.inl x1), none] [] h Q

abbrev LX12_weekSums_19 (l : Launch) (E : eE) (d bc bs : Nat) (x1 : Int32) (x2 : Int32) (h : aH) (Q : aH → Prop) : Prop := TV l E mX12_weekSums d bc bs 19 [some (.inr (some (0, 12, 63))), some (.inl x1), some (.inl x2)] [] h Q

set_option maxRecDepth 20000 in
theorem bX12_weekSums_0 {l : Launch} {E : eE} {d bc bs : Nat} {h : aH} {Q : aH → Prop}  (S : SH h) (H : LX12_weekSums_2 l E (d + 1) bc bs (nI 0) h Q) : CV l E (d + 1) bc bs mX12_weekSums [.inr (some (0, 12, 63))] h Q := by
  refine CV.of (by decide) rfl ?_
  show TV l E mX12_weekSums (d + 1) bc bs 0 [some (.inr (some (0, 12, 63))), none, none] [] h Q
  refine z_iconst (pc := 0) (v := (nI 0)) dX12_weekSums_0 (by decide) ?_
  refine z_istore_n (pc := 1) (ls' := [some (.inr (some (0, 12, 63))), some (.inl (nI 0)), none]) dX12_weekSums_1 rfl rfl rfl ?_
  exact H

set_option maxRecDepth 20000 in
theorem bX12_weekSums_2 {l : Launch} {E : eE} {d bc bs : Nat} {h : aH} {Q : aH → Prop} {x1 : Int32} (S : SH h) (H : (((hI h 63 3) ≤ x1 → Q h) ∧ (¬ (hI h 63 3) ≤ x1 → (vp_in x1 12 ∧ LX12_weekSums_19 l E (d + 1) bc bs x1 (nI 0) (stA h 88 (x1).toNatClampNeg (nI 0)) Q)))) : LX12_weekSums_2 l E (d + 1) bc bs x1 h Q := by
  refine z_iload_n (pc := 2) dX12_weekSums_2 rfl rfl ?_
  refine z_aload_n (pc := 3) dX12_weekSums_3 rfl rfl ?_
  refine z_geti (pc := 4) dX12_weekSums_4 fX12_123 rfl ?_
  refine z_icmp_ge (pc := 7) (tgt := 87) dX12_weekSums_7 (by decide) (fun c1 => ?_) (fun c1 => ?_)
  · replace H := H.1 c1
    exact z_ret (pc := 87) dX12_weekSums_87 rfl ⟨rfl, H⟩
  · replace H := H.2 c1
    refine z_aload_n (pc := 10) dX12_weekSums_10 rfl rfl ?_
    refine z_getk (pc := 11) dX12_weekSums_11 fX12_87 rfl (s_63_31 S) ?_
    refine z_iload_n (pc := 14) dX12_weekSums_14 rfl rfl ?_
    refine z_iconst (pc := 15) (v := (nI 0)) dX12_weekSums_15 (by decide) ?_
    have c2 := H.1
    replace H := H.2
    refine z_iast (pc := 16) dX12_weekSums_16 c2 ?_
    refine z_iconst (pc := 17) (v := (nI 0)) dX12_weekSums_17 (by decide) ?_
    refine z_istore_n (pc := 18) (ls' := [some (.inr (some (0, 12, 63))), some (.inl x1), some (.inl (nI 0))]) dX12_weekSums_18 rfl rfl rfl ?_
    exact H

set_option maxRecDepth 20000 in
theorem bX12_weekSums_19 {l : Launch} {E : eE} {d bc bs : Nat} {h : aH} {Q : aH → Prop} {x1 : Int32} {x2 : Int32} (S : SH h) (H : (((hI h 63 14) ≤ x2 → LX12_weekSums_2 l E (d + 1) bc bs (x1 + (nI 1)) h Q) ∧ (¬ (hI h 63 14) ≤ x2 → (vp_in x2 4 ∧ (((hA h 81 (x2).toNatClampNeg) = (-1) → LX12_weekSums_19 l E (d + 1) bc bs x1 (x2 + (nI 1)) h Q) ∧ (¬ (hA h 81 (x2).toNatClampNeg) = (-1) → (vp_in x1 12 ∧ (vp_in (((nI 12) * x2) + x1) 48 ∧ (CI l E d 0 0 mX12_priceOf [.inr (some (0, 12, 63)), .inl x1, .inl x2, .inl (hA h 81 (x2).toNatClampNeg), .inl (hA h 82 (x2).toNatClampNeg), .inl (hA h 83 ((((nI 12) * x2) + x1)).toNatClampNeg)] h (fun v6 h6 => SH h6 ∧ (vp_in x1 12 ∧ LX12_weekSums_19 l E (d + 1) bc bs x1 (x2 + (nI 1)) (stA h6 88 (x1).toNatClampNeg ((hA h 88 (x1).toNatClampNeg) + v6)) Q))))))))))) : LX12_weekSums_19 l E (d + 1) bc bs x1 x2 h Q := by
  refine z_iload_n (pc := 19) dX12_weekSums_19 rfl rfl ?_
  refine z_aload_n (pc := 20) dX12_weekSums_20 rfl rfl ?_
  refine z_geti (pc := 21) dX12_weekSums_21 fX12_126 rfl ?_
  refine z_icmp_ge (pc := 24) (tgt := 81) dX12_weekSums_24 (by decide) (fun c1 => ?_) (fun c1 => ?_)
  · replace H := H.1 c1
    refine z_iinc (pc := 81) (v := (x1 + (nI 1))) (ls' := [some (.inr (some (0, 12, 63))), some (.inl (x1 + (nI 1))), some (.inl x2)]) dX12_weekSums_81 rfl (by rw [show Int32.ofInt (1) = (nI 1) by decide]) rfl ?_
    refine z_goto (pc := 84) (tgt := 2) dX12_weekSums_84 (by decide) ?_
    exact z_drop (ls' := [some (.inr (some (0, 12, 63))), some (.inl (x1 + (nI 1))), none]) (by simp [dropL]) H
  · replace H := H.2 c1
    refine z_aload_n (pc := 27) dX12_weekSums_27 rfl rfl ?_
    refine z_getk (pc := 28) dX12_weekSums_28 fX12_66 rfl (s_63_24 S) ?_
    refine z_iload_n (pc := 31) dX12_weekSums_31 rfl rfl ?_
    have c2 := H.1
    replace H := H.2
    refine z_iald (pc := 32) dX12_weekSums_32 c2 ?_
    refine z_iconst (pc := 33) (v := (-1)) dX12_weekSums_33 (by decide) ?_
    refine z_icmp_eq (pc := 34) (tgt := 75) dX12_weekSums_34 (by decide) (fun c3 => ?_) (fun c3 => ?_)
    · replace H := H.1 c3
      refine z_iinc (pc := 75) (v := (x2 + (nI 1))) (ls' := [some (.inr (some (0, 12, 63))), some (.inl x1), some (.inl (x2 + (nI 1)))]) dX12_weekSums_75 rfl (by rw [show Int32.ofInt (1) = (nI 1) by decide]) rfl ?_
      refine z_goto (pc := 78) (tgt := 19) dX12_weekSums_78 (by decide) ?_
      exact H
    · replace H := H.2 c3
      refine z_aload_n (pc := 37) dX12_weekSums_37 rfl rfl ?_
      refine z_getk (pc := 38) dX12_weekSums_38 fX12_87 rfl (s_63_31 S) ?_
      refine z_iload_n (pc := 41) dX12_weekSums_41 rfl rfl ?_
      refine z_dup2 (pc := 42) dX12_weekSums_42 ?_
      have c4 := H.1
      replace H := H.2
      refine z_iald (pc := 43) dX12_weekSums_43 c4 ?_
      refine z_aload_n (pc := 44) dX12_weekSums_44 rfl rfl ?_
      refine z_iload_n (pc := 45) dX12_weekSums_45 rfl rfl ?_
      refine z_iload_n (pc := 46) dX12_weekSums_46 rfl rfl ?_
      refine z_aload_n (pc := 47) dX12_weekSums_47 rfl rfl ?_
      refine z_getk (pc := 48) dX12_weekSums_48 fX12_66 rfl (s_63_24 S) ?_
      refine z_iload_n (pc := 51) dX12_weekSums_51 rfl rfl ?_
      refine z_iald (pc := 52) dX12_weekSums_52 c2 ?_
      refine z_aload_n (pc := 53) dX12_weekSums_53 rfl rfl ?_
      refine z_getk (pc := 54) dX12_weekSums_54 fX12_69 rfl (s_63_25 S) ?_
      refine z_iload_n (pc := 57) dX12_weekSums_57 rfl rfl ?_
      refine z_iald (pc := 58) dX12_weekSums_58 c2 ?_
      refine z_aload_n (pc := 59) dX12_weekSums_59 rfl rfl ?_
      refine z_getk (pc := 60) dX12_weekSums_60 fX12_72 rfl (s_63_26 S) ?_
      refine z_bipush (pc := 63) (v := (nI 12)) dX12_weekSums_63 (by decide) ?_
      refine z_iload_n (pc := 65) dX12_weekSums_65 rfl rfl ?_
      refine z_imul (pc := 66) dX12_weekSums_66 ?_
      refine z_iload_n (pc := 67) dX12_weekSums_67 rfl rfl ?_
      refine z_iadd (pc := 68) dX12_weekSums_68 ?_
      have c5 := H.1
      replace H := H.2
      refine z_iald (pc := 69) dX12_weekSums_69 c5 ?_
      refine y_VI (pc := 70) (bc := bc) (bs := bs) (mc := 0) (ms := 0) (As := [.inl x1, .inl x2, .inl (hA h 81 (x2).toNatClampNeg), .inl (hA h 82 (x2).toNatClampNeg), .inl (hA h 83 ((((nI 12) * x2) + x1)).toNatClampNeg)]) (rest := [.inl (hA h 88 (x1).toNatClampNeg), .inl x1, .inr (some (1, 12, 88))]) dX12_weekSums_70 kX12_priceOf lX12_230 ⟨_, _, rfl⟩ rfl rfl (H.use (fun v6 h6 H => ?_))
      have S6 := H.1
      replace H := H.2
      refine z_iadd (pc := 73) dX12_weekSums_73 ?_
      have c7 := H.1
      replace H := H.2
      refine z_iast (pc := 74) dX12_weekSums_74 c7 ?_
      refine z_iinc (pc := 75) (v := (x2 + (nI 1))) (ls' := [some (.inr (some (0, 12, 63))), some (.inl x1), some (.inl (x2 + (nI 1)))]) dX12_weekSums_75 rfl (by rw [show Int32.ofInt (1) = (nI 1) by decide]) rfl ?_
      refine z_goto (pc := 78) (tgt := 19) dX12_weekSums_78 (by decide) ?_
      exact H

abbrev LX12_takesChoice_68 (l : Launch) (E : eE) (d bc bs : Nat) (x1 : Int32) (x2 : Int32) (x3 : Int32) (x4 : Int32) (h : aH) (Q : Int32 → aH → Prop) : Prop := TI l E mX12_takesChoice d bc bs 68 [some (.inr (some (0, 12, 63))), some (.inl x1), some (.inl x2), some (.inl x3), some (.inl x4)] [] h Q

set_option maxRecDepth 20000 in
theorem bX12_takesChoice_0 {l : Launch} {E : eE} {d bc bs : Nat} {h : aH} {Q : Int32 → aH → Prop} {x1 : Int32} (S : SH h) (H : (CV l E d 0 0 mX12_asksFree [.inr (some (0, 12, 63)), .inl x1] h (fun h1 => SH h1 ∧ (vp_in x1 4 ∧ (vp_in (((nI 15) * x1) + (hA h1 95 (x1).toNatClampNeg)) 60 ∧ (CI l E d 0 0 mX12_fitsBy [.inr (some (0, 12, 63)), .inl x1, .inl (hA h1 85 ((((nI 15) * x1) + (hA h1 95 (x1).toNatClampNeg))).toNatClampNeg), .inl (hA h1 86 ((((nI 15) * x1) + (hA h1 95 (x1).toNatClampNeg))).toNatClampNeg)] h1 (fun v4 h4 => SH h4 ∧ ((¬ v4 = 0 → (vp_in x1 4 ∧ LX12_takesChoice_68 l E (d + 1) bc bs x1 (hA h1 85 ((((nI 15) * x1) + (hA h1 95 (x1).toNatClampNeg))).toNatClampNeg) (hA h1 86 ((((nI 15) * x1) + (hA h1 95 (x1).toNatClampNeg))).toNatClampNeg) (nI 0) (stA (stA h4 81 (x1).toNatClampNeg (hA h1 85 ((((nI 15) * x1) + (hA h1 95 (x1).toNatClampNeg))).toNatClampNeg)) 82 (x1).toNatClampNeg (hA h1 86 ((((nI 15) * x1) + (hA h1 95 (x1).toNatClampNeg))).toNatClampNeg)) Q)) ∧ (v4 = 0 → Q (nI 0) h4))))))))) : CI l E (d + 1) bc bs mX12_takesChoice [.inr (some (0, 12, 63)), .inl x1] h Q := by
  refine CI.of (by decide) rfl ?_
  show TI l E mX12_takesChoice (d + 1) bc bs 0 [some (.inr (some (0, 12, 63))), some (.inl x1), none, none, none] [] h Q
  refine z_aload_n (pc := 0) dX12_takesChoice_0 rfl rfl ?_
  refine z_iload_n (pc := 1) dX12_takesChoice_1 rfl rfl ?_
  refine y_VV (pc := 2) (bc := bc) (bs := bs) (mc := 0) (ms := 0) (As := [.inl x1]) (rest := []) dX12_takesChoice_2 kX12_asksFree lX12_201 ⟨_, _, rfl⟩ rfl rfl (H.use (fun h1 H => ?_))
  have S1 := H.1
  replace H := H.2
  refine z_aload_n (pc := 5) dX12_takesChoice_5 rfl rfl ?_
  refine z_getk (pc := 6) dX12_takesChoice_6 fX12_78 rfl (s_63_28 S1) ?_
  refine z_bipush (pc := 9) (v := (nI 15)) dX12_takesChoice_9 (by decide) ?_
  refine z_iload_n (pc := 11) dX12_takesChoice_11 rfl rfl ?_
  refine z_imul (pc := 12) dX12_takesChoice_12 ?_
  refine z_aload_n (pc := 13) dX12_takesChoice_13 rfl rfl ?_
  refine z_getk (pc := 14) dX12_takesChoice_14 fX12_108 rfl (s_63_39 S1) ?_
  refine z_iload_n (pc := 17) dX12_takesChoice_17 rfl rfl ?_
  have c2 := H.1
  replace H := H.2
  refine z_iald (pc := 18) dX12_takesChoice_18 c2 ?_
  refine z_iadd (pc := 19) dX12_takesChoice_19 ?_
  have c3 := H.1
  replace H := H.2
  refine z_iald (pc := 20) dX12_takesChoice_20 c3 ?_
  refine z_istore_n (pc := 21) (ls' := [some (.inr (some (0, 12, 63))), some (.inl x1), some (.inl (hA h1 85 ((((nI 15) * x1) + (hA h1 95 (x1).toNatClampNeg))).toNatClampNeg)), none, none]) dX12_takesChoice_21 rfl rfl rfl ?_
  refine z_aload_n (pc := 22) dX12_takesChoice_22 rfl rfl ?_
  refine z_getk (pc := 23) dX12_takesChoice_23 fX12_81 rfl (s_63_29 S1) ?_
  refine z_bipush (pc := 26) (v := (nI 15)) dX12_takesChoice_26 (by decide) ?_
  refine z_iload_n (pc := 28) dX12_takesChoice_28 rfl rfl ?_
  refine z_imul (pc := 29) dX12_takesChoice_29 ?_
  refine z_aload_n (pc := 30) dX12_takesChoice_30 rfl rfl ?_
  refine z_getk (pc := 31) dX12_takesChoice_31 fX12_108 rfl (s_63_39 S1) ?_
  refine z_iload_n (pc := 34) dX12_takesChoice_34 rfl rfl ?_
  refine z_iald (pc := 35) dX12_takesChoice_35 c2 ?_
  refine z_iadd (pc := 36) dX12_takesChoice_36 ?_
  refine z_iald (pc := 37) dX12_takesChoice_37 c3 ?_
  refine z_istore_n (pc := 38) (ls' := [some (.inr (some (0, 12, 63))), some (.inl x1), some (.inl (hA h1 85 ((((nI 15) * x1) + (hA h1 95 (x1).toNatClampNeg))).toNatClampNeg)), some (.inl (hA h1 86 ((((nI 15) * x1) + (hA h1 95 (x1).toNatClampNeg))).toNatClampNeg)), none]) dX12_takesChoice_38 rfl rfl rfl ?_
  refine z_aload_n (pc := 39) dX12_takesChoice_39 rfl rfl ?_
  refine z_iload_n (pc := 40) dX12_takesChoice_40 rfl rfl ?_
  refine z_iload_n (pc := 41) dX12_takesChoice_41 rfl rfl ?_
  refine z_iload_n (pc := 42) dX12_takesChoice_42 rfl rfl ?_
  refine y_VI (pc := 43) (bc := bc) (bs := bs) (mc := 0) (ms := 0) (As := [.inl x1, .inl (hA h1 85 ((((nI 15) * x1) + (hA h1 95 (x1).toNatClampNeg))).toNatClampNeg), .inl (hA h1 86 ((((nI 15) * x1) + (hA h1 95 (x1).toNatClampNeg))).toNatClampNeg)]) (rest := []) dX12_takesChoice_43 kX12_fitsBy lX12_221 ⟨_, _, rfl⟩ rfl rfl (H.use (fun v4 h4 H => ?_))
  have S4 := H.1
  replace H := H.2
  refine z_if_ne (pc := 46) (tgt := 51) dX12_takesChoice_46 (by decide) (fun c5 => ?_) (fun c5 => ?_)
  · replace H := H.1 c5
    refine z_aload_n (pc := 51) dX12_takesChoice_51 rfl rfl ?_
    refine z_getk (pc := 52) dX12_takesChoice_52 fX12_66 rfl (s_63_24 S4) ?_
    refine z_iload_n (pc := 55) dX12_takesChoice_55 rfl rfl ?_
    refine z_iload_n (pc := 56) dX12_takesChoice_56 rfl rfl ?_
    have c6 := H.1
    replace H := H.2
    refine z_iast (pc := 57) dX12_takesChoice_57 c6 ?_
    refine z_aload_n (pc := 58) dX12_takesChoice_58 rfl rfl ?_
    refine z_getk (pc := 59) dX12_takesChoice_59 fX12_69 rfl (s_63_25 S4) ?_
    refine z_iload_n (pc := 62) dX12_takesChoice_62 rfl rfl ?_
    refine z_iload_n (pc := 63) dX12_takesChoice_63 rfl rfl ?_
    refine z_iast (pc := 64) dX12_takesChoice_64 c6 ?_
    refine z_iconst (pc := 65) (v := (nI 0)) dX12_takesChoice_65 (by decide) ?_
    refine z_istore (pc := 66) (ls' := [some (.inr (some (0, 12, 63))), some (.inl x1), some (.inl (hA h1 85 ((((nI 15) * x1) + (hA h1 95 (x1).toNatClampNeg))).toNatClampNeg)), some (.inl (hA h1 86 ((((nI 15) * x1) + (hA h1 95 (x1).toNatClampNeg))).toNatClampNeg)), some (.inl (nI 0))]) dX12_takesChoice_66 rfl rfl ?_
    exact H
  · replace H := H.2 c5
    refine z_iconst (pc := 49) (v := (nI 0)) dX12_takesChoice_49 (by decide) ?_
    exact z_iret (pc := 50) dX12_takesChoice_50 rfl rfl ⟨_, rfl, H⟩

set_option maxRecDepth 20000 in
theorem bX12_takesChoice_68 {l : Launch} {E : eE} {d bc bs : Nat} {h : aH} {Q : Int32 → aH → Prop} {x1 : Int32} {x2 : Int32} {x3 : Int32} {x4 : Int32} (S : SH h) (H : (((nI 12) ≤ x4 → Q (nI 1) h) ∧ (¬ (nI 12) ≤ x4 → (((hI h 63 3) ≤ x4 → (vp_in (((nI 12) * x1) + x4) 48 ∧ LX12_takesChoice_68 l E (d + 1) bc bs x1 x2 x3 (x4 + (nI 1)) (stA h 83 ((((nI 12) * x1) + x4)).toNatClampNeg (nI 0)) Q)) ∧ (¬ (hI h 63 3) ≤ x4 → (CI l E d 0 0 mX12_comesTo [.inr (some (0, 12, 63)), .inl x4, .inl x1, .inl x2, .inl x3] h (fun v4 h4 => SH h4 ∧ (vp_in (((nI 12) * x1) + x4) 48 ∧ LX12_takesChoice_68 l E (d + 1) bc bs x1 x2 x3 (x4 + (nI 1)) (stA h4 83 ((((nI 12) * x1) + x4)).toNatClampNeg v4) Q)))))))) : LX12_takesChoice_68 l E (d + 1) bc bs x1 x2 x3 x4 h Q := by
  refine z_iload (pc := 68) dX12_takesChoice_68 rfl ?_
  refine z_bipush (pc := 70) (v := (nI 12)) dX12_takesChoice_70 (by decide) ?_
  refine z_icmp_ge (pc := 72) (tgt := 115) dX12_takesChoice_72 (by decide) (fun c1 => ?_) (fun c1 => ?_)
  · replace H := H.1 c1
    refine z_iconst (pc := 115) (v := (nI 1)) dX12_takesChoice_115 (by decide) ?_
    exact z_iret (pc := 116) dX12_takesChoice_116 rfl rfl ⟨_, rfl, H⟩
  · replace H := H.2 c1
    refine z_aload_n (pc := 75) dX12_takesChoice_75 rfl rfl ?_
    refine z_getk (pc := 76) dX12_takesChoice_76 fX12_72 rfl (s_63_26 S) ?_
    refine z_bipush (pc := 79) (v := (nI 12)) dX12_takesChoice_79 (by decide) ?_
    refine z_iload_n (pc := 81) dX12_takesChoice_81 rfl rfl ?_
    refine z_imul (pc := 82) dX12_takesChoice_82 ?_
    refine z_iload (pc := 83) dX12_takesChoice_83 rfl ?_
    refine z_iadd (pc := 85) dX12_takesChoice_85 ?_
    refine z_iload (pc := 86) dX12_takesChoice_86 rfl ?_
    refine z_aload_n (pc := 88) dX12_takesChoice_88 rfl rfl ?_
    refine z_geti (pc := 89) dX12_takesChoice_89 fX12_123 rfl ?_
    refine z_icmp_ge (pc := 92) (tgt := 107) dX12_takesChoice_92 (by decide) (fun c2 => ?_) (fun c2 => ?_)
    · replace H := H.1 c2
      refine z_iconst (pc := 107) (v := (nI 0)) dX12_takesChoice_107 (by decide) ?_
      have c3 := H.1
      replace H := H.2
      refine z_iast (pc := 108) dX12_takesChoice_108 c3 ?_
      refine z_iinc (pc := 109) (v := (x4 + (nI 1))) (ls' := [some (.inr (some (0, 12, 63))), some (.inl x1), some (.inl x2), some (.inl x3), some (.inl (x4 + (nI 1)))]) dX12_takesChoice_109 rfl (by rw [show Int32.ofInt (1) = (nI 1) by decide]) rfl ?_
      refine z_goto (pc := 112) (tgt := 68) dX12_takesChoice_112 (by decide) ?_
      exact H
    · replace H := H.2 c2
      refine z_aload_n (pc := 95) dX12_takesChoice_95 rfl rfl ?_
      refine z_iload (pc := 96) dX12_takesChoice_96 rfl ?_
      refine z_iload_n (pc := 98) dX12_takesChoice_98 rfl rfl ?_
      refine z_iload_n (pc := 99) dX12_takesChoice_99 rfl rfl ?_
      refine z_iload_n (pc := 100) dX12_takesChoice_100 rfl rfl ?_
      refine y_VI (pc := 101) (bc := bc) (bs := bs) (mc := 0) (ms := 0) (As := [.inl x4, .inl x1, .inl x2, .inl x3]) (rest := [.inl (((nI 12) * x1) + x4), .inr (some (1, 48, 83))]) dX12_takesChoice_101 kX12_comesTo lX12_205 ⟨_, _, rfl⟩ rfl rfl (H.use (fun v4 h4 H => ?_))
      have S4 := H.1
      replace H := H.2
      refine z_goto (pc := 104) (tgt := 108) dX12_takesChoice_104 (by decide) ?_
      have c5 := H.1
      replace H := H.2
      refine z_iast (pc := 108) dX12_takesChoice_108 c5 ?_
      refine z_iinc (pc := 109) (v := (x4 + (nI 1))) (ls' := [some (.inr (some (0, 12, 63))), some (.inl x1), some (.inl x2), some (.inl x3), some (.inl (x4 + (nI 1)))]) dX12_takesChoice_109 rfl (by rw [show Int32.ofInt (1) = (nI 1) by decide]) rfl ?_
      refine z_goto (pc := 112) (tgt := 68) dX12_takesChoice_112 (by decide) ?_
      exact H

abbrev LX12_move_26 (l : Launch) (E : eE) (d bc bs : Nat) (x1 : Int32) (x2 : Int32) (x3 : Int32) (h : aH) (Q : Int32 → aH → Prop) : Prop := TI l E mX12_move d bc bs 26 [some (.inr (some (0, 12, 63))), some (.inl x1), some (.inl x2), some (.inl x3), none, none, none] [] h Q

abbrev LX12_move_65 (l : Launch) (E : eE) (d bc bs : Nat) (x1 : Int32) (x2 : Int32) (x3 : Int32) (x4 : Int32) (h : aH) (Q : Int32 → aH → Prop) : Prop := TI l E mX12_move d bc bs 65 [some (.inr (some (0, 12, 63))), some (.inl x1), some (.inl x2), some (.inl x3), some (.inl x4), none, none] [] h Q

abbrev LX12_move_99 (l : Launch) (E : eE) (d bc bs : Nat) (x1 : Int32) (x2 : Int32) (x3 : Int32) (h : aH) (Q : Int32 → aH → Prop) : Prop := TI l E mX12_move d bc bs 99 [some (.inr (some (0, 12, 63))), some (.inl x1), some (.inl x2), some (.inl x3), none, none, none] [] h Q

abbrev LX12_move_126 (l : Launch) (E : eE) (d bc bs : Nat) (x1 : Int32) (x2 : Int32) (x3 : Int32) (x4 : Int32) (x5 : Int32) (h : aH) (Q : Int32 → aH → Prop) : Prop := TI l E mX12_move d bc bs 126 [some (.inr (some (0, 12, 63))), some (.inl x1), some (.inl x2), some (.inl x3), some (.inl x4), some (.inl x5), none] [] h Q

abbrev LX12_move_146 (l : Launch) (E : eE) (d bc bs : Nat) (x1 : Int32) (x2 : Int32) (x3 : Int32) (x4 : Int32) (x5 : Int32) (x6 : Int32) (h : aH) (Q : Int32 → aH → Prop) : Prop := TI l E mX12_move d bc bs 146 [some (.inr (some (0, 12, 63))), some (.inl x1), some (.inl x2), some (.inl x3), some (.inl x4), some (.inl x5), some (.inl x6)] [] h Q

abbrev LX12_move_240 (l : Launch) (E : eE) (d bc bs : Nat) (x1 : Int32) (x2 : Int32) (x3 : Int32) (x4 : Int32) (x5 : Int32) (x6 : Int32) (h : aH) (Q : Int32 → aH → Prop) : Prop := TI l E mX12_move d bc bs 240 [some (.inr (some (0, 12, 63))), some (.inl x1), some (.inl x2), some (.inl x3), some (.inl x4), some (.inl x5), some (.inl x6)] [] h Q

abbrev LX12_move_399 (l : Launch) (E : eE) (d bc bs : Nat) (x1 : Int32) (x2 : Int32) (x3 : Int32) (x4 : Int32) (x5 : Int32) (x6 : Int32) (h : aH) (Q : Int32 → aH → Prop) : Prop := TI l E mX12_move d bc bs 399 [some (.inr (some (0, 12, 63))), some (.inl x1), some (.inl x2), some (.inl x3), some (.inl x4), some (.inl x5), some (.inl x6)] [] h Q

set_option maxRecDepth 20000 in
theorem bX12_move_0 {l : Launch} {E : eE} {d bc bs : Nat} {h : aH} {Q : Int32 → aH → Prop} {x1 : Int32} {x2 : Int32} (S : SH h) (H : (CI l E d 0 0 mX12_isWeek [.inl x1] h (fun v1 h1 => SH h1 ∧ ((v1 = 0 → Q (-2) h1) ∧ (¬ v1 = 0 → (CI l E d 0 0 mX12_isKnown [.inr (some (0, 12, 63)), .inl x2] h1 (fun v3 h3 => SH h3 ∧ ((¬ v3 = 0 → (CV l E d 0 0 mX12_takesWeek [.inr (some (0, 12, 63)), .inl x1, .inl x2] h3 (fun h5 => SH h5 ∧ LX12_move_26 l E (d + 1) bc bs x1 x2 (nI 0) h5 Q))) ∧ (v3 = 0 → Q (-2) h3))))))))) : CI l E (d + 1) bc bs mX12_move [.inr (some (0, 12, 63)), .inl x1, .inl x2] h Q := by
  refine CI.of (by decide) rfl ?_
  show TI l E mX12_move (d + 1) bc bs 0 [some (.inr (some (0, 12, 63))), some (.inl x1), some (.inl x2), none, none, none, none] [] h Q
  refine z_iload_n (pc := 0) dX12_move_0 rfl rfl ?_
  refine y_SI (pc := 1) (bc := bc) (bs := bs) (mc := 0) (ms := 0) (As := [.inl x1]) (rest := []) dX12_move_1 kX12_isWeek lX12_149 rfl rfl (H.use (fun v1 h1 H => ?_))
  have S1 := H.1
  replace H := H.2
  refine z_if_eq (pc := 4) (tgt := 15) dX12_move_4 (by decide) (fun c2 => ?_) (fun c2 => ?_)
  · replace H := H.1 c2
    refine z_bipush (pc := 15) (v := (-2)) dX12_move_15 (by decide) ?_
    exact z_iret (pc := 17) dX12_move_17 rfl rfl ⟨_, rfl, H⟩
  · replace H := H.2 c2
    refine z_aload_n (pc := 7) dX12_move_7 rfl rfl ?_
    refine z_iload_n (pc := 8) dX12_move_8 rfl rfl ?_
    refine y_VI (pc := 9) (bc := bc) (bs := bs) (mc := 0) (ms := 0) (As := [.inl x2]) (rest := []) dX12_move_9 kX12_isKnown lX12_152 ⟨_, _, rfl⟩ rfl rfl (H.use (fun v3 h3 H => ?_))
    have S3 := H.1
    replace H := H.2
    refine z_if_ne (pc := 12) (tgt := 18) dX12_move_12 (by decide) (fun c4 => ?_) (fun c4 => ?_)
    · replace H := H.1 c4
      refine z_aload_n (pc := 18) dX12_move_18 rfl rfl ?_
      refine z_iload_n (pc := 19) dX12_move_19 rfl rfl ?_
      refine z_iload_n (pc := 20) dX12_move_20 rfl rfl ?_
      refine y_VV (pc := 21) (bc := bc) (bs := bs) (mc := 0) (ms := 0) (As := [.inl x1, .inl x2]) (rest := []) dX12_move_21 kX12_takesWeek lX12_214 ⟨_, _, rfl⟩ rfl rfl (H.use (fun h5 H => ?_))
      have S5 := H.1
      replace H := H.2
      refine z_iconst (pc := 24) (v := (nI 0)) dX12_move_24 (by decide) ?_
      refine z_istore_n (pc := 25) (ls' := [some (.inr (some (0, 12, 63))), some (.inl x1), some (.inl x2), some (.inl (nI 0)), none, none, none]) dX12_move_25 rfl rfl rfl ?_
      exact H
    · replace H := H.2 c4
      refine z_bipush (pc := 15) (v := (-2)) dX12_move_15 (by decide) ?_
      exact z_iret (pc := 17) dX12_move_17 rfl rfl ⟨_, rfl, H⟩

set_option maxRecDepth 20000 in
theorem bX12_move_26 {l : Launch} {E : eE} {d bc bs : Nat} {h : aH} {Q : Int32 → aH → Prop} {x1 : Int32} {x2 : Int32} {x3 : Int32} (S : SH h) (H : (((nI 4) ≤ x3 → LX12_move_99 l E (d + 1) bc bs x1 x2 (nI 0) h Q) ∧ (¬ (nI 4) ≤ x3 → (vp_in x3 4 ∧ LX12_move_65 l E (d + 1) bc bs x1 x2 x3 (nI 0) (stA (stA (stA h 97 (x3).toNatClampNeg (hA h 81 (x3).toNatClampNeg)) 98 (x3).toNatClampNeg (hA h 82 (x3).toNatClampNeg)) 95 (x3).toNatClampNeg (-1)) Q)))) : LX12_move_26 l E (d + 1) bc bs x1 x2 x3 h Q := by
  refine z_iload_n (pc := 26) dX12_move_26 rfl rfl ?_
  refine z_iconst (pc := 27) (v := (nI 4)) dX12_move_27 (by decide) ?_
  refine z_icmp_ge (pc := 28) (tgt := 97) dX12_move_28 (by decide) (fun c1 => ?_) (fun c1 => ?_)
  · replace H := H.1 c1
    refine z_iconst (pc := 97) (v := (nI 0)) dX12_move_97 (by decide) ?_
    refine z_istore_n (pc := 98) (ls' := [some (.inr (some (0, 12, 63))), some (.inl x1), some (.inl x2), some (.inl (nI 0)), none, none, none]) dX12_move_98 rfl rfl rfl ?_
    exact H
  · replace H := H.2 c1
    refine z_aload_n (pc := 31) dX12_move_31 rfl rfl ?_
    refine z_getk (pc := 32) dX12_move_32 fX12_114 rfl (s_63_41 S) ?_
    refine z_iload_n (pc := 35) dX12_move_35 rfl rfl ?_
    refine z_aload_n (pc := 36) dX12_move_36 rfl rfl ?_
    refine z_getk (pc := 37) dX12_move_37 fX12_66 rfl (s_63_24 S) ?_
    refine z_iload_n (pc := 40) dX12_move_40 rfl rfl ?_
    have c2 := H.1
    replace H := H.2
    refine z_iald (pc := 41) dX12_move_41 c2 ?_
    refine z_iast (pc := 42) dX12_move_42 c2 ?_
    refine z_aload_n (pc := 43) dX12_move_43 rfl rfl ?_
    refine z_getk (pc := 44) dX12_move_44 fX12_117 rfl (s_63_42 S) ?_
    refine z_iload_n (pc := 47) dX12_move_47 rfl rfl ?_
    refine z_aload_n (pc := 48) dX12_move_48 rfl rfl ?_
    refine z_getk (pc := 49) dX12_move_49 fX12_69 rfl (s_63_25 S) ?_
    refine z_iload_n (pc := 52) dX12_move_52 rfl rfl ?_
    refine z_iald (pc := 53) dX12_move_53 c2 ?_
    refine z_iast (pc := 54) dX12_move_54 c2 ?_
    refine z_aload_n (pc := 55) dX12_move_55 rfl rfl ?_
    refine z_getk (pc := 56) dX12_move_56 fX12_108 rfl (s_63_39 S) ?_
    refine z_iload_n (pc := 59) dX12_move_59 rfl rfl ?_
    refine z_iconst (pc := 60) (v := (-1)) dX12_move_60 (by decide) ?_
    refine z_iast (pc := 61) dX12_move_61 c2 ?_
    refine z_iconst (pc := 62) (v := (nI 0)) dX12_move_62 (by decide) ?_
    refine z_istore (pc := 63) (ls' := [some (.inr (some (0, 12, 63))), some (.inl x1), some (.inl x2), some (.inl x3), some (.inl (nI 0)), none, none]) dX12_move_63 rfl rfl ?_
    exact H

set_option maxRecDepth 20000 in
theorem bX12_move_65 {l : Launch} {E : eE} {d bc bs : Nat} {h : aH} {Q : Int32 → aH → Prop} {x1 : Int32} {x2 : Int32} {x3 : Int32} {x4 : Int32} (S : SH h) (H : (((nI 12) ≤ x4 → LX12_move_26 l E (d + 1) bc bs x1 x2 (x3 + (nI 1)) h Q) ∧ (¬ (nI 12) ≤ x4 → (vp_in (((nI 12) * x3) + x4) 48 ∧ LX12_move_65 l E (d + 1) bc bs x1 x2 x3 (x4 + (nI 1)) (stA h 83 ((((nI 12) * x3) + x4)).toNatClampNeg (nI 0)) Q)))) : LX12_move_65 l E (d + 1) bc bs x1 x2 x3 x4 h Q := by
  refine z_iload (pc := 65) dX12_move_65 rfl ?_
  refine z_bipush (pc := 67) (v := (nI 12)) dX12_move_67 (by decide) ?_
  refine z_icmp_ge (pc := 69) (tgt := 91) dX12_move_69 (by decide) (fun c1 => ?_) (fun c1 => ?_)
  · replace H := H.1 c1
    refine z_iinc (pc := 91) (v := (x3 + (nI 1))) (ls' := [some (.inr (some (0, 12, 63))), some (.inl x1), some (.inl x2), some (.inl (x3 + (nI 1))), some (.inl x4), none, none]) dX12_move_91 rfl (by rw [show Int32.ofInt (1) = (nI 1) by decide]) rfl ?_
    refine z_goto (pc := 94) (tgt := 26) dX12_move_94 (by decide) ?_
    exact z_drop (ls' := [some (.inr (some (0, 12, 63))), some (.inl x1), some (.inl x2), some (.inl (x3 + (nI 1))), none, none, none]) (by simp [dropL]) H
  · replace H := H.2 c1
    refine z_aload_n (pc := 72) dX12_move_72 rfl rfl ?_
    refine z_getk (pc := 73) dX12_move_73 fX12_72 rfl (s_63_26 S) ?_
    refine z_bipush (pc := 76) (v := (nI 12)) dX12_move_76 (by decide) ?_
    refine z_iload_n (pc := 78) dX12_move_78 rfl rfl ?_
    refine z_imul (pc := 79) dX12_move_79 ?_
    refine z_iload (pc := 80) dX12_move_80 rfl ?_
    refine z_iadd (pc := 82) dX12_move_82 ?_
    refine z_iconst (pc := 83) (v := (nI 0)) dX12_move_83 (by decide) ?_
    have c2 := H.1
    replace H := H.2
    refine z_iast (pc := 84) dX12_move_84 c2 ?_
    refine z_iinc (pc := 85) (v := (x4 + (nI 1))) (ls' := [some (.inr (some (0, 12, 63))), some (.inl x1), some (.inl x2), some (.inl x3), some (.inl (x4 + (nI 1))), none, none]) dX12_move_85 rfl (by rw [show Int32.ofInt (1) = (nI 1) by decide]) rfl ?_
    refine z_goto (pc := 88) (tgt := 65) dX12_move_88 (by decide) ?_
    exact H

set_option maxRecDepth 20000 in
theorem bX12_move_99 {l : Launch} {E : eE} {d bc bs : Nat} {h : aH} {Q : Int32 → aH → Prop} {x1 : Int32} {x2 : Int32} {x3 : Int32} (S : SH h) (H : (((hI h 63 14) ≤ x3 → LX12_move_126 l E (d + 1) bc bs x1 x2 (-1) (nI 0) (nI 0) h Q) ∧ (¬ (hI h 63 14) ≤ x3 → (CV l E d 0 0 mX12_lists [.inr (some (0, 12, 63)), .inl x3] h (fun h2 => SH h2 ∧ LX12_move_99 l E (d + 1) bc bs x1 x2 (x3 + (nI 1)) h2 Q))))) : LX12_move_99 l E (d + 1) bc bs x1 x2 x3 h Q := by
  refine z_iload_n (pc := 99) dX12_move_99 rfl rfl ?_
  refine z_aload_n (pc := 100) dX12_move_100 rfl rfl ?_
  refine z_geti (pc := 101) dX12_move_101 fX12_126 rfl ?_
  refine z_icmp_ge (pc := 104) (tgt := 118) dX12_move_104 (by decide) (fun c1 => ?_) (fun c1 => ?_)
  · replace H := H.1 c1
    refine z_iconst (pc := 118) (v := (-1)) dX12_move_118 (by decide) ?_
    refine z_istore_n (pc := 119) (ls' := [some (.inr (some (0, 12, 63))), some (.inl x1), some (.inl x2), some (.inl (-1)), none, none, none]) dX12_move_119 rfl rfl rfl ?_
    refine z_iconst (pc := 120) (v := (nI 0)) dX12_move_120 (by decide) ?_
    refine z_istore (pc := 121) (ls' := [some (.inr (some (0, 12, 63))), some (.inl x1), some (.inl x2), some (.inl (-1)), some (.inl (nI 0)), none, none]) dX12_move_121 rfl rfl ?_
    refine z_iconst (pc := 123) (v := (nI 0)) dX12_move_123 (by decide) ?_
    refine z_istore (pc := 124) (ls' := [some (.inr (some (0, 12, 63))), some (.inl x1), some (.inl x2), some (.inl (-1)), some (.inl (nI 0)), some (.inl (nI 0)), none]) dX12_move_124 rfl rfl ?_
    exact H
  · replace H := H.2 c1
    refine z_aload_n (pc := 107) dX12_move_107 rfl rfl ?_
    refine z_iload_n (pc := 108) dX12_move_108 rfl rfl ?_
    refine y_VV (pc := 109) (bc := bc) (bs := bs) (mc := 0) (ms := 0) (As := [.inl x3]) (rest := []) dX12_move_109 kX12_lists lX12_224 ⟨_, _, rfl⟩ rfl rfl (H.use (fun h2 H => ?_))
    have S2 := H.1
    replace H := H.2
    refine z_iinc (pc := 112) (v := (x3 + (nI 1))) (ls' := [some (.inr (some (0, 12, 63))), some (.inl x1), some (.inl x2), some (.inl (x3 + (nI 1))), none, none, none]) dX12_move_112 rfl (by rw [show Int32.ofInt (1) = (nI 1) by decide]) rfl ?_
    refine z_goto (pc := 115) (tgt := 99) dX12_move_115 (by decide) ?_
    exact H

set_option maxRecDepth 20000 in
theorem bX12_move_126 {l : Launch} {E : eE} {d bc bs : Nat} {h : aH} {Q : Int32 → aH → Prop} {x1 : Int32} {x2 : Int32} {x3 : Int32} {x4 : Int32} {x5 : Int32} (S : SH h) (H : ((x4 < 0 → ((¬ x3 = (-1) → LX12_move_399 l E (d + 1) bc bs x1 x2 x3 x4 x5 (nI 0) h Q) ∧ (x3 = (-1) → Q (-1) h))) ∧ (¬ x4 < 0 → ((¬ x4 = (hI h 63 14) → (vp_in x4 4 ∧ ((¬ (hA h 97 (x4).toNatClampNeg) = (-1) → ((¬ (hA (stA h 95 (x4).toNatClampNeg ((hA h 95 (x4).toNatClampNeg) + (nI 1))) 95 (x4).toNatClampNeg) = (hA h 87 (x4).toNatClampNeg) → (CI l E d 0 0 mX12_takesChoice [.inr (some (0, 12, 63)), .inl x4] (stA h 95 (x4).toNatClampNeg ((hA h 95 (x4).toNatClampNeg) + (nI 1))) (fun v7 h7 => SH h7 ∧ ((v7 = 0 → LX12_move_126 l E (d + 1) bc bs x1 x2 x3 x4 x5 h7 Q) ∧ (¬ v7 = 0 → LX12_move_126 l E (d + 1) bc bs x1 x2 x3 (x4 + (nI 1)) x5 h7 Q))))) ∧ ((hA (stA h 95 (x4).toNatClampNeg ((hA h 95 (x4).toNatClampNeg) + (nI 1))) 95 (x4).toNatClampNeg) = (hA h 87 (x4).toNatClampNeg) → LX12_move_126 l E (d + 1) bc bs x1 x2 x3 (x4 + (-1)) x5 (stA (stA h 95 (x4).toNatClampNeg ((hA h 95 (x4).toNatClampNeg) + (nI 1))) 95 (x4).toNatClampNeg (-1)) Q))) ∧ ((hA h 97 (x4).toNatClampNeg) = (-1) → ((¬ (hA h 95 (x4).toNatClampNeg) = (-1) → ((¬ (hA (stA h 95 (x4).toNatClampNeg (-1)) 95 (x4).toNatClampNeg) = 0 → LX12_move_126 l E (d + 1) bc bs x1 x2 x3 (x4 + (-1)) x5 (stA h 95 (x4).toNatClampNeg (-1)) Q) ∧ ((hA (stA h 95 (x4).toNatClampNeg (-1)) 95 (x4).toNatClampNeg) = 0 → LX12_move_126 l E (d + 1) bc bs x1 x2 x3 (x4 + (nI 1)) x5 (stA h 95 (x4).toNatClampNeg (-1)) Q))) ∧ ((hA h 95 (x4).toNatClampNeg) = (-1) → ((¬ (hA (stA h 95 (x4).toNatClampNeg (nI 0)) 95 (x4).toNatClampNeg) = 0 → LX12_move_126 l E (d + 1) bc bs x1 x2 x3 (x4 + (-1)) x5 (stA h 95 (x4).toNatClampNeg (nI 0)) Q) ∧ ((hA (stA h 95 (x4).toNatClampNeg (nI 0)) 95 (x4).toNatClampNeg) = 0 → LX12_move_126 l E (d + 1) bc bs x1 x2 x3 (x4 + (nI 1)) x5 (stA h 95 (x4).toNatClampNeg (nI 0)) Q)))))))) ∧ (x4 = (hI h 63 14) → LX12_move_146 l E (d + 1) bc bs x1 x2 x3 x4 (nI 0) (nI 0) h Q))))) : LX12_move_126 l E (d + 1) bc bs x1 x2 x3 x4 x5 h Q := by
  refine z_iload (pc := 126) dX12_move_126 rfl ?_
  refine z_if_lt (pc := 128) (tgt := 389) dX12_move_128 (by decide) (fun c1 => ?_) (fun c1 => ?_)
  · replace H := H.1 c1
    refine z_iload_n (pc := 389) dX12_move_389 rfl rfl ?_
    refine z_iconst (pc := 390) (v := (-1)) dX12_move_390 (by decide) ?_
    refine z_icmp_ne (pc := 391) (tgt := 396) dX12_move_391 (by decide) (fun c2 => ?_) (fun c2 => ?_)
    · replace H := H.1 c2
      refine z_iconst (pc := 396) (v := (nI 0)) dX12_move_396 (by decide) ?_
      refine z_istore (pc := 397) (ls' := [some (.inr (some (0, 12, 63))), some (.inl x1), some (.inl x2), some (.inl x3), some (.inl x4), some (.inl x5), some (.inl (nI 0))]) dX12_move_397 rfl rfl ?_
      exact H
    · replace H := H.2 c2
      refine z_iconst (pc := 394) (v := (-1)) dX12_move_394 (by decide) ?_
      exact z_iret (pc := 395) dX12_move_395 rfl rfl ⟨_, rfl, H⟩
  · replace H := H.2 c1
    refine z_iload (pc := 131) dX12_move_131 rfl ?_
    refine z_aload_n (pc := 133) dX12_move_133 rfl rfl ?_
    refine z_geti (pc := 134) dX12_move_134 fX12_126 rfl ?_
    refine z_icmp_ne (pc := 137) (tgt := 275) dX12_move_137 (by decide) (fun c3 => ?_) (fun c3 => ?_)
    · replace H := H.1 c3
      refine z_aload_n (pc := 275) dX12_move_275 rfl rfl ?_
      refine z_getk (pc := 276) dX12_move_276 fX12_114 rfl (s_63_41 S) ?_
      refine z_iload (pc := 279) dX12_move_279 rfl ?_
      have c4 := H.1
      replace H := H.2
      refine z_iald (pc := 281) dX12_move_281 c4 ?_
      refine z_iconst (pc := 282) (v := (-1)) dX12_move_282 (by decide) ?_
      refine z_icmp_ne (pc := 283) (tgt := 332) dX12_move_283 (by decide) (fun c5 => ?_) (fun c5 => ?_)
      · replace H := H.1 c5
        refine z_aload_n (pc := 332) dX12_move_332 rfl rfl ?_
        refine z_getk (pc := 333) dX12_move_333 fX12_108 rfl (s_63_39 S) ?_
        refine z_iload (pc := 336) dX12_move_336 rfl ?_
        refine z_dup2 (pc := 338) dX12_move_338 ?_
        refine z_iald (pc := 339) dX12_move_339 c4 ?_
        refine z_iconst (pc := 340) (v := (nI 1)) dX12_move_340 (by decide) ?_
        refine z_iadd (pc := 341) dX12_move_341 ?_
        refine z_iast (pc := 342) dX12_move_342 c4 ?_
        refine z_aload_n (pc := 343) dX12_move_343 rfl rfl ?_
        refine z_getk (pc := 344) dX12_move_344 fX12_108 rfl (s_63_39 S) ?_
        refine z_iload (pc := 347) dX12_move_347 rfl ?_
        refine z_iald (pc := 349) dX12_move_349 c4 ?_
        refine z_aload_n (pc := 350) dX12_move_350 rfl rfl ?_
        refine z_getk (pc := 351) dX12_move_351 fX12_84 rfl (s_63_30 S) ?_
        refine z_iload (pc := 354) dX12_move_354 rfl ?_
        refine z_iald (pc := 356) dX12_move_356 c4 ?_
        refine z_icmp_ne (pc := 357) (tgt := 374) dX12_move_357 (by decide) (fun c6 => ?_) (fun c6 => ?_)
        · replace H := H.1 c6
          refine z_aload_n (pc := 374) dX12_move_374 rfl rfl ?_
          refine z_iload (pc := 375) dX12_move_375 rfl ?_
          refine y_VI (pc := 377) (bc := bc) (bs := bs) (mc := 0) (ms := 0) (As := [.inl x4]) (rest := []) dX12_move_377 kX12_takesChoice lX12_260 ⟨_, _, rfl⟩ rfl rfl (H.use (fun v7 h7 H => ?_))
          have S7 := H.1
          replace H := H.2
          refine z_if_eq (pc := 380) (tgt := 126) dX12_move_380 (by decide) (fun c8 => ?_) (fun c8 => ?_)
          · replace H := H.1 c8
            exact H
          · replace H := H.2 c8
            refine z_iinc (pc := 383) (v := (x4 + (nI 1))) (ls' := [some (.inr (some (0, 12, 63))), some (.inl x1), some (.inl x2), some (.inl x3), some (.inl (x4 + (nI 1))), some (.inl x5), none]) dX12_move_383 rfl (by rw [show Int32.ofInt (1) = (nI 1) by decide]) rfl ?_
            refine z_goto (pc := 386) (tgt := 126) dX12_move_386 (by decide) ?_
            exact H
        · replace H := H.2 c6
          refine z_aload_n (pc := 360) dX12_move_360 rfl rfl ?_
          refine z_getk (pc := 361) dX12_move_361 fX12_108 rfl (s_63_39 S) ?_
          refine z_iload (pc := 364) dX12_move_364 rfl ?_
          refine z_iconst (pc := 366) (v := (-1)) dX12_move_366 (by decide) ?_
          refine z_iast (pc := 367) dX12_move_367 c4 ?_
          refine z_iinc (pc := 368) (v := (x4 + (-1))) (ls' := [some (.inr (some (0, 12, 63))), some (.inl x1), some (.inl x2), some (.inl x3), some (.inl (x4 + (-1))), some (.inl x5), none]) dX12_move_368 rfl (by rw [show Int32.ofInt (-1) = (-1) by decide]) rfl ?_
          refine z_goto (pc := 371) (tgt := 126) dX12_move_371 (by decide) ?_
          exact H
      · replace H := H.2 c5
        refine z_aload_n (pc := 286) dX12_move_286 rfl rfl ?_
        refine z_getk (pc := 287) dX12_move_287 fX12_108 rfl (s_63_39 S) ?_
        refine z_iload (pc := 290) dX12_move_290 rfl ?_
        refine z_aload_n (pc := 292) dX12_move_292 rfl rfl ?_
        refine z_getk (pc := 293) dX12_move_293 fX12_108 rfl (s_63_39 S) ?_
        refine z_iload (pc := 296) dX12_move_296 rfl ?_
        refine z_iald (pc := 298) dX12_move_298 c4 ?_
        refine z_iconst (pc := 299) (v := (-1)) dX12_move_299 (by decide) ?_
        refine z_icmp_ne (pc := 300) (tgt := 307) dX12_move_300 (by decide) (fun c9 => ?_) (fun c9 => ?_)
        · replace H := H.1 c9
          refine z_iconst (pc := 307) (v := (-1)) dX12_move_307 (by decide) ?_
          refine z_iast (pc := 308) dX12_move_308 c4 ?_
          refine z_iload (pc := 309) dX12_move_309 rfl ?_
          refine z_aload_n (pc := 311) dX12_move_311 rfl rfl ?_
          refine z_getk (pc := 312) dX12_move_312 fX12_108 rfl (s_63_39 S) ?_
          refine z_iload (pc := 315) dX12_move_315 rfl ?_
          refine z_iald (pc := 317) dX12_move_317 c4 ?_
          refine z_if_ne (pc := 318) (tgt := 325) dX12_move_318 (by decide) (fun c10 => ?_) (fun c10 => ?_)
          · replace H := H.1 c10
            refine z_iconst (pc := 325) (v := (-1)) dX12_move_325 (by decide) ?_
            refine z_iadd (pc := 326) dX12_move_326 ?_
            refine z_istore (pc := 327) (ls' := [some (.inr (some (0, 12, 63))), some (.inl x1), some (.inl x2), some (.inl x3), some (.inl (x4 + (-1))), some (.inl x5), none]) dX12_move_327 rfl rfl ?_
            refine z_goto (pc := 329) (tgt := 126) dX12_move_329 (by decide) ?_
            exact H
          · replace H := H.2 c10
            refine z_iconst (pc := 321) (v := (nI 1)) dX12_move_321 (by decide) ?_
            refine z_goto (pc := 322) (tgt := 326) dX12_move_322 (by decide) ?_
            refine z_iadd (pc := 326) dX12_move_326 ?_
            refine z_istore (pc := 327) (ls' := [some (.inr (some (0, 12, 63))), some (.inl x1), some (.inl x2), some (.inl x3), some (.inl (x4 + (nI 1))), some (.inl x5), none]) dX12_move_327 rfl rfl ?_
            refine z_goto (pc := 329) (tgt := 126) dX12_move_329 (by decide) ?_
            exact H
        · replace H := H.2 c9
          refine z_iconst (pc := 303) (v := (nI 0)) dX12_move_303 (by decide) ?_
          refine z_goto (pc := 304) (tgt := 308) dX12_move_304 (by decide) ?_
          refine z_iast (pc := 308) dX12_move_308 c4 ?_
          refine z_iload (pc := 309) dX12_move_309 rfl ?_
          refine z_aload_n (pc := 311) dX12_move_311 rfl rfl ?_
          refine z_getk (pc := 312) dX12_move_312 fX12_108 rfl (s_63_39 S) ?_
          refine z_iload (pc := 315) dX12_move_315 rfl ?_
          refine z_iald (pc := 317) dX12_move_317 c4 ?_
          refine z_if_ne (pc := 318) (tgt := 325) dX12_move_318 (by decide) (fun c11 => ?_) (fun c11 => ?_)
          · replace H := H.1 c11
            refine z_iconst (pc := 325) (v := (-1)) dX12_move_325 (by decide) ?_
            refine z_iadd (pc := 326) dX12_move_326 ?_
            refine z_istore (pc := 327) (ls' := [some (.inr (some (0, 12, 63))), some (.inl x1), some (.inl x2), some (.inl x3), some (.inl (x4 + (-1))), some (.inl x5), none]) dX12_move_327 rfl rfl ?_
            refine z_goto (pc := 329) (tgt := 126) dX12_move_329 (by decide) ?_
            exact H
          · replace H := H.2 c11
            refine z_iconst (pc := 321) (v := (nI 1)) dX12_move_321 (by decide) ?_
            refine z_goto (pc := 322) (tgt := 326) dX12_move_322 (by decide) ?_
            refine z_iadd (pc := 326) dX12_move_326 ?_
            refine z_istore (pc := 327) (ls' := [some (.inr (some (0, 12, 63))), some (.inl x1), some (.inl x2), some (.inl x3), some (.inl (x4 + (nI 1))), some (.inl x5), none]) dX12_move_327 rfl rfl ?_
            refine z_goto (pc := 329) (tgt := 126) dX12_move_329 (by decide) ?_
            exact H
    · replace H := H.2 c3
      refine z_iconst (pc := 140) (v := (nI 0)) dX12_move_140 (by decide) ?_
      refine z_istore (pc := 141) (ls' := [some (.inr (some (0, 12, 63))), some (.inl x1), some (.inl x2), some (.inl x3), some (.inl x4), some (.inl (nI 0)), none]) dX12_move_141 rfl rfl ?_
      refine z_iconst (pc := 143) (v := (nI 0)) dX12_move_143 (by decide) ?_
      refine z_istore (pc := 144) (ls' := [some (.inr (some (0, 12, 63))), some (.inl x1), some (.inl x2), some (.inl x3), some (.inl x4), some (.inl (nI 0)), some (.inl (nI 0))]) dX12_move_144 rfl rfl ?_
      exact H

set_option maxRecDepth 20000 in
theorem bX12_move_146 {l : Launch} {E : eE} {d bc bs : Nat} {h : aH} {Q : Int32 → aH → Prop} {x1 : Int32} {x2 : Int32} {x3 : Int32} {x4 : Int32} {x5 : Int32} {x6 : Int32} (S : SH h) (H : (((hI h 63 14) ≤ x6 → (CV l E d 0 0 mX12_weekSums [.inr (some (0, 12, 63))] h (fun h2 => SH h2 ∧ (CV l E d 0 0 mX12_sorts [.inr (some (0, 12, 63))] h2 (fun h3 => SH h3 ∧ ((x3 = (-1) → (CV l E d 0 0 mX12_isBest [.inr (some (0, 12, 63))] h3 (fun h5 => SH h5 ∧ LX12_move_240 l E (d + 1) bc bs x1 x2 x5 x4 x5 (nI 0) h5 Q))) ∧ (¬ x3 = (-1) → ((x5 < x3 → (CV l E d 0 0 mX12_isBest [.inr (some (0, 12, 63))] h3 (fun h7 => SH h7 ∧ LX12_move_240 l E (d + 1) bc bs x1 x2 x5 x4 x5 (nI 0) h7 Q))) ∧ (¬ x5 < x3 → ((¬ x5 = x3 → LX12_move_126 l E (d + 1) bc bs x1 x2 x3 (x4 + (-1)) x5 h3 Q) ∧ (x5 = x3 → (CI l E d 0 0 mX12_isLess [.inr (some (0, 12, 63))] h3 (fun v9 h9 => SH h9 ∧ ((v9 = 0 → LX12_move_126 l E (d + 1) bc bs x1 x2 x3 (x4 + (-1)) x5 h9 Q) ∧ (¬ v9 = 0 → (CV l E d 0 0 mX12_isBest [.inr (some (0, 12, 63))] h9 (fun h11 => SH h11 ∧ LX12_move_240 l E (d + 1) bc bs x1 x2 x5 x4 x5 (nI 0) h11 Q))))))))))))))))) ∧ (¬ (hI h 63 14) ≤ x6 → (vp_in x6 4 ∧ ((¬ (hA h 81 (x6).toNatClampNeg) = (hA h 97 (x6).toNatClampNeg) → LX12_move_146 l E (d + 1) bc bs x1 x2 x3 x4 (x5 + (nI 1)) (x6 + (nI 1)) h Q) ∧ ((hA h 81 (x6).toNatClampNeg) = (hA h 97 (x6).toNatClampNeg) → (((hA h 82 (x6).toNatClampNeg) = (hA h 98 (x6).toNatClampNeg) → LX12_move_146 l E (d + 1) bc bs x1 x2 x3 x4 x5 (x6 + (nI 1)) h Q) ∧ (¬ (hA h 82 (x6).toNatClampNeg) = (hA h 98 (x6).toNatClampNeg) → LX12_move_146 l E (d + 1) bc bs x1 x2 x3 x4 (x5 + (nI 1)) (x6 + (nI 1)) h Q)))))))) : LX12_move_146 l E (d + 1) bc bs x1 x2 x3 x4 x5 x6 h Q := by
  refine z_iload (pc := 146) dX12_move_146 rfl ?_
  refine z_aload_n (pc := 148) dX12_move_148 rfl rfl ?_
  refine z_geti (pc := 149) dX12_move_149 fX12_126 rfl ?_
  refine z_icmp_ge (pc := 152) (tgt := 198) dX12_move_152 (by decide) (fun c1 => ?_) (fun c1 => ?_)
  · replace H := H.1 c1
    refine z_aload_n (pc := 198) dX12_move_198 rfl rfl ?_
    refine y_VV (pc := 199) (bc := bc) (bs := bs) (mc := 0) (ms := 0) (As := []) (rest := []) dX12_move_199 kX12_weekSums lX12_257 ⟨_, _, rfl⟩ rfl rfl (H.use (fun h2 H => ?_))
    have S2 := H.1
    replace H := H.2
    refine z_aload_n (pc := 202) dX12_move_202 rfl rfl ?_
    refine y_VV (pc := 203) (bc := bc) (bs := bs) (mc := 0) (ms := 0) (As := []) (rest := []) dX12_move_203 kX12_sorts lX12_238 ⟨_, _, rfl⟩ rfl rfl (H.use (fun h3 H => ?_))
    have S3 := H.1
    replace H := H.2
    refine z_iload_n (pc := 206) dX12_move_206 rfl rfl ?_
    refine z_iconst (pc := 207) (v := (-1)) dX12_move_207 (by decide) ?_
    refine z_icmp_eq (pc := 208) (tgt := 230) dX12_move_208 (by decide) (fun c4 => ?_) (fun c4 => ?_)
    · replace H := H.1 c4
      refine z_iload (pc := 230) dX12_move_230 rfl ?_
      refine z_istore_n (pc := 232) (ls' := [some (.inr (some (0, 12, 63))), some (.inl x1), some (.inl x2), some (.inl x5), some (.inl x4), some (.inl x5), some (.inl x6)]) dX12_move_232 rfl rfl rfl ?_
      refine z_aload_n (pc := 233) dX12_move_233 rfl rfl ?_
      refine y_VV (pc := 234) (bc := bc) (bs := bs) (mc := 0) (ms := 0) (As := []) (rest := []) dX12_move_234 kX12_isBest lX12_245 ⟨_, _, rfl⟩ rfl rfl (H.use (fun h5 H => ?_))
      have S5 := H.1
      replace H := H.2
      refine z_iconst (pc := 237) (v := (nI 0)) dX12_move_237 (by decide) ?_
      refine z_istore (pc := 238) (ls' := [some (.inr (some (0, 12, 63))), some (.inl x1), some (.inl x2), some (.inl x5), some (.inl x4), some (.inl x5), some (.inl (nI 0))]) dX12_move_238 rfl rfl ?_
      exact H
    · replace H := H.2 c4
      refine z_iload (pc := 211) dX12_move_211 rfl ?_
      refine z_iload_n (pc := 213) dX12_move_213 rfl rfl ?_
      refine z_icmp_lt (pc := 214) (tgt := 230) dX12_move_214 (by decide) (fun c6 => ?_) (fun c6 => ?_)
      · replace H := H.1 c6
        refine z_iload (pc := 230) dX12_move_230 rfl ?_
        refine z_istore_n (pc := 232) (ls' := [some (.inr (some (0, 12, 63))), some (.inl x1), some (.inl x2), some (.inl x5), some (.inl x4), some (.inl x5), some (.inl x6)]) dX12_move_232 rfl rfl rfl ?_
        refine z_aload_n (pc := 233) dX12_move_233 rfl rfl ?_
        refine y_VV (pc := 234) (bc := bc) (bs := bs) (mc := 0) (ms := 0) (As := []) (rest := []) dX12_move_234 kX12_isBest lX12_245 ⟨_, _, rfl⟩ rfl rfl (H.use (fun h7 H => ?_))
        have S7 := H.1
        replace H := H.2
        refine z_iconst (pc := 237) (v := (nI 0)) dX12_move_237 (by decide) ?_
        refine z_istore (pc := 238) (ls' := [some (.inr (some (0, 12, 63))), some (.inl x1), some (.inl x2), some (.inl x5), some (.inl x4), some (.inl x5), some (.inl (nI 0))]) dX12_move_238 rfl rfl ?_
        exact H
      · replace H := H.2 c6
        refine z_iload (pc := 217) dX12_move_217 rfl ?_
        refine z_iload_n (pc := 219) dX12_move_219 rfl rfl ?_
        refine z_icmp_ne (pc := 220) (tgt := 269) dX12_move_220 (by decide) (fun c8 => ?_) (fun c8 => ?_)
        · replace H := H.1 c8
          refine z_iinc (pc := 269) (v := (x4 + (-1))) (ls' := [some (.inr (some (0, 12, 63))), some (.inl x1), some (.inl x2), some (.inl x3), some (.inl (x4 + (-1))), some (.inl x5), some (.inl x6)]) dX12_move_269 rfl (by rw [show Int32.ofInt (-1) = (-1) by decide]) rfl ?_
          refine z_goto (pc := 272) (tgt := 126) dX12_move_272 (by decide) ?_
          exact z_drop (ls' := [some (.inr (some (0, 12, 63))), some (.inl x1), some (.inl x2), some (.inl x3), some (.inl (x4 + (-1))), some (.inl x5), none]) (by simp [dropL]) H
        · replace H := H.2 c8
          refine z_aload_n (pc := 223) dX12_move_223 rfl rfl ?_
          refine y_VI (pc := 224) (bc := bc) (bs := bs) (mc := 0) (ms := 0) (As := []) (rest := []) dX12_move_224 kX12_isLess lX12_241 ⟨_, _, rfl⟩ rfl rfl (H.use (fun v9 h9 H => ?_))
          have S9 := H.1
          replace H := H.2
          refine z_if_eq (pc := 227) (tgt := 269) dX12_move_227 (by decide) (fun c10 => ?_) (fun c10 => ?_)
          · replace H := H.1 c10
            refine z_iinc (pc := 269) (v := (x4 + (-1))) (ls' := [some (.inr (some (0, 12, 63))), some (.inl x1), some (.inl x2), some (.inl x3), some (.inl (x4 + (-1))), some (.inl x5), some (.inl x6)]) dX12_move_269 rfl (by rw [show Int32.ofInt (-1) = (-1) by decide]) rfl ?_
            refine z_goto (pc := 272) (tgt := 126) dX12_move_272 (by decide) ?_
            exact z_drop (ls' := [some (.inr (some (0, 12, 63))), some (.inl x1), some (.inl x2), some (.inl x3), some (.inl (x4 + (-1))), some (.inl x5), none]) (by simp [dropL]) H
          · replace H := H.2 c10
            refine z_iload (pc := 230) dX12_move_230 rfl ?_
            refine z_istore_n (pc := 232) (ls' := [some (.inr (some (0, 12, 63))), some (.inl x1), some (.inl x2), some (.inl x5), some (.inl x4), some (.inl x5), some (.inl x6)]) dX12_move_232 rfl rfl rfl ?_
            refine z_aload_n (pc := 233) dX12_move_233 rfl rfl ?_
            refine y_VV (pc := 234) (bc := bc) (bs := bs) (mc := 0) (ms := 0) (As := []) (rest := []) dX12_move_234 kX12_isBest lX12_245 ⟨_, _, rfl⟩ rfl rfl (H.use (fun h11 H => ?_))
            have S11 := H.1
            replace H := H.2
            refine z_iconst (pc := 237) (v := (nI 0)) dX12_move_237 (by decide) ?_
            refine z_istore (pc := 238) (ls' := [some (.inr (some (0, 12, 63))), some (.inl x1), some (.inl x2), some (.inl x5), some (.inl x4), some (.inl x5), some (.inl (nI 0))]) dX12_move_238 rfl rfl ?_
            exact H
  · replace H := H.2 c1
    refine z_aload_n (pc := 155) dX12_move_155 rfl rfl ?_
    refine z_getk (pc := 156) dX12_move_156 fX12_66 rfl (s_63_24 S) ?_
    refine z_iload (pc := 159) dX12_move_159 rfl ?_
    have c12 := H.1
    replace H := H.2
    refine z_iald (pc := 161) dX12_move_161 c12 ?_
    refine z_aload_n (pc := 162) dX12_move_162 rfl rfl ?_
    refine z_getk (pc := 163) dX12_move_163 fX12_114 rfl (s_63_41 S) ?_
    refine z_iload (pc := 166) dX12_move_166 rfl ?_
    refine z_iald (pc := 168) dX12_move_168 c12 ?_
    refine z_icmp_ne (pc := 169) (tgt := 189) dX12_move_169 (by decide) (fun c13 => ?_) (fun c13 => ?_)
    · replace H := H.1 c13
      refine z_iinc (pc := 189) (v := (x5 + (nI 1))) (ls' := [some (.inr (some (0, 12, 63))), some (.inl x1), some (.inl x2), some (.inl x3), some (.inl x4), some (.inl (x5 + (nI 1))), some (.inl x6)]) dX12_move_189 rfl (by rw [show Int32.ofInt (1) = (nI 1) by decide]) rfl ?_
      refine z_iinc (pc := 192) (v := (x6 + (nI 1))) (ls' := [some (.inr (some (0, 12, 63))), some (.inl x1), some (.inl x2), some (.inl x3), some (.inl x4), some (.inl (x5 + (nI 1))), some (.inl (x6 + (nI 1)))]) dX12_move_192 rfl (by rw [show Int32.ofInt (1) = (nI 1) by decide]) rfl ?_
      refine z_goto (pc := 195) (tgt := 146) dX12_move_195 (by decide) ?_
      exact H
    · replace H := H.2 c13
      refine z_aload_n (pc := 172) dX12_move_172 rfl rfl ?_
      refine z_getk (pc := 173) dX12_move_173 fX12_69 rfl (s_63_25 S) ?_
      refine z_iload (pc := 176) dX12_move_176 rfl ?_
      refine z_iald (pc := 178) dX12_move_178 c12 ?_
      refine z_aload_n (pc := 179) dX12_move_179 rfl rfl ?_
      refine z_getk (pc := 180) dX12_move_180 fX12_117 rfl (s_63_42 S) ?_
      refine z_iload (pc := 183) dX12_move_183 rfl ?_
      refine z_iald (pc := 185) dX12_move_185 c12 ?_
      refine z_icmp_eq (pc := 186) (tgt := 192) dX12_move_186 (by decide) (fun c14 => ?_) (fun c14 => ?_)
      · replace H := H.1 c14
        refine z_iinc (pc := 192) (v := (x6 + (nI 1))) (ls' := [some (.inr (some (0, 12, 63))), some (.inl x1), some (.inl x2), some (.inl x3), some (.inl x4), some (.inl x5), some (.inl (x6 + (nI 1)))]) dX12_move_192 rfl (by rw [show Int32.ofInt (1) = (nI 1) by decide]) rfl ?_
        refine z_goto (pc := 195) (tgt := 146) dX12_move_195 (by decide) ?_
        exact H
      · replace H := H.2 c14
        refine z_iinc (pc := 189) (v := (x5 + (nI 1))) (ls' := [some (.inr (some (0, 12, 63))), some (.inl x1), some (.inl x2), some (.inl x3), some (.inl x4), some (.inl (x5 + (nI 1))), some (.inl x6)]) dX12_move_189 rfl (by rw [show Int32.ofInt (1) = (nI 1) by decide]) rfl ?_
        refine z_iinc (pc := 192) (v := (x6 + (nI 1))) (ls' := [some (.inr (some (0, 12, 63))), some (.inl x1), some (.inl x2), some (.inl x3), some (.inl x4), some (.inl (x5 + (nI 1))), some (.inl (x6 + (nI 1)))]) dX12_move_192 rfl (by rw [show Int32.ofInt (1) = (nI 1) by decide]) rfl ?_
        refine z_goto (pc := 195) (tgt := 146) dX12_move_195 (by decide) ?_
        exact H

set_option maxRecDepth 20000 in
theorem bX12_move_240 {l : Launch} {E : eE} {d bc bs : Nat} {h : aH} {Q : Int32 → aH → Prop} {x1 : Int32} {x2 : Int32} {x3 : Int32} {x4 : Int32} {x5 : Int32} {x6 : Int32} (S : SH h) (H : (((hI h 63 14) ≤ x6 → LX12_move_126 l E (d + 1) bc bs x1 x2 x3 (x4 + (-1)) x5 h Q) ∧ (¬ (hI h 63 14) ≤ x6 → (vp_in x6 4 ∧ LX12_move_240 l E (d + 1) bc bs x1 x2 x3 x4 x5 (x6 + (nI 1)) (stA h 96 (x6).toNatClampNeg (hA h 95 (x6).toNatClampNeg)) Q)))) : LX12_move_240 l E (d + 1) bc bs x1 x2 x3 x4 x5 x6 h Q := by
  refine z_iload (pc := 240) dX12_move_240 rfl ?_
  refine z_aload_n (pc := 242) dX12_move_242 rfl rfl ?_
  refine z_geti (pc := 243) dX12_move_243 fX12_126 rfl ?_
  refine z_icmp_ge (pc := 246) (tgt := 269) dX12_move_246 (by decide) (fun c1 => ?_) (fun c1 => ?_)
  · replace H := H.1 c1
    refine z_iinc (pc := 269) (v := (x4 + (-1))) (ls' := [some (.inr (some (0, 12, 63))), some (.inl x1), some (.inl x2), some (.inl x3), some (.inl (x4 + (-1))), some (.inl x5), some (.inl x6)]) dX12_move_269 rfl (by rw [show Int32.ofInt (-1) = (-1) by decide]) rfl ?_
    refine z_goto (pc := 272) (tgt := 126) dX12_move_272 (by decide) ?_
    exact z_drop (ls' := [some (.inr (some (0, 12, 63))), some (.inl x1), some (.inl x2), some (.inl x3), some (.inl (x4 + (-1))), some (.inl x5), none]) (by simp [dropL]) H
  · replace H := H.2 c1
    refine z_aload_n (pc := 249) dX12_move_249 rfl rfl ?_
    refine z_getk (pc := 250) dX12_move_250 fX12_111 rfl (s_63_40 S) ?_
    refine z_iload (pc := 253) dX12_move_253 rfl ?_
    refine z_aload_n (pc := 255) dX12_move_255 rfl rfl ?_
    refine z_getk (pc := 256) dX12_move_256 fX12_108 rfl (s_63_39 S) ?_
    refine z_iload (pc := 259) dX12_move_259 rfl ?_
    have c2 := H.1
    replace H := H.2
    refine z_iald (pc := 261) dX12_move_261 c2 ?_
    refine z_iast (pc := 262) dX12_move_262 c2 ?_
    refine z_iinc (pc := 263) (v := (x6 + (nI 1))) (ls' := [some (.inr (some (0, 12, 63))), some (.inl x1), some (.inl x2), some (.inl x3), some (.inl x4), some (.inl x5), some (.inl (x6 + (nI 1)))]) dX12_move_263 rfl (by rw [show Int32.ofInt (1) = (nI 1) by decide]) rfl ?_
    refine z_goto (pc := 266) (tgt := 240) dX12_move_266 (by decide) ?_
    exact H

set_option maxRecDepth 20000 in
theorem bX12_move_399 {l : Launch} {E : eE} {d bc bs : Nat} {h : aH} {Q : Int32 → aH → Prop} {x1 : Int32} {x2 : Int32} {x3 : Int32} {x4 : Int32} {x5 : Int32} {x6 : Int32} (S : SH h) (H : (((hI h 63 14) ≤ x6 → Q x3 h) ∧ (¬ (hI h 63 14) ≤ x6 → (vp_in x6 4 ∧ ((¬ (hA h 97 (x6).toNatClampNeg) = (-1) → (vp_in (((nI 15) * x6) + (hA h 96 (x6).toNatClampNeg)) 60 ∧ (vp_in ((nI 2) * (((nI 52) * x6) + x1)) 416 ∧ (vp_in (((nI 2) * (((nI 52) * x6) + x1)) + (nI 1)) 416 ∧ LX12_move_399 l E (d + 1) bc bs x1 x2 x3 x4 x5 (x6 + (nI 1)) (stA (stA h 80 (((nI 2) * (((nI 52) * x6) + x1))).toNatClampNeg (hA h 85 ((((nI 15) * x6) + (hA h 96 (x6).toNatClampNeg))).toNatClampNeg)) 80 ((((nI 2) * (((nI 52) * x6) + x1)) + (nI 1))).toNatClampNeg (hA h 86 ((((nI 15) * x6) + (hA h 96 (x6).toNatClampNeg))).toNatClampNeg)) Q)))) ∧ ((hA h 97 (x6).toNatClampNeg) = (-1) → LX12_move_399 l E (d + 1) bc bs x1 x2 x3 x4 x5 (x6 + (nI 1)) h Q)))))) : LX12_move_399 l E (d + 1) bc bs x1 x2 x3 x4 x5 x6 h Q := by
  refine z_iload (pc := 399) dX12_move_399 rfl ?_
  refine z_aload_n (pc := 401) dX12_move_401 rfl rfl ?_
  refine z_geti (pc := 402) dX12_move_402 fX12_126 rfl ?_
  refine z_icmp_ge (pc := 405) (tgt := 494) dX12_move_405 (by decide) (fun c1 => ?_) (fun c1 => ?_)
  · replace H := H.1 c1
    refine z_iload_n (pc := 494) dX12_move_494 rfl rfl ?_
    exact z_iret (pc := 495) dX12_move_495 rfl rfl ⟨_, rfl, H⟩
  · replace H := H.2 c1
    refine z_aload_n (pc := 408) dX12_move_408 rfl rfl ?_
    refine z_getk (pc := 409) dX12_move_409 fX12_114 rfl (s_63_41 S) ?_
    refine z_iload (pc := 412) dX12_move_412 rfl ?_
    have c2 := H.1
    replace H := H.2
    refine z_iald (pc := 414) dX12_move_414 c2 ?_
    refine z_iconst (pc := 415) (v := (-1)) dX12_move_415 (by decide) ?_
    refine z_icmp_ne (pc := 416) (tgt := 422) dX12_move_416 (by decide) (fun c3 => ?_) (fun c3 => ?_)
    · replace H := H.1 c3
      refine z_aload_n (pc := 422) dX12_move_422 rfl rfl ?_
      refine z_getk (pc := 423) dX12_move_423 fX12_63 rfl (s_63_21 S) ?_
      refine z_iconst (pc := 426) (v := (nI 2)) dX12_move_426 (by decide) ?_
      refine z_bipush (pc := 427) (v := (nI 52)) dX12_move_427 (by decide) ?_
      refine z_iload (pc := 429) dX12_move_429 rfl ?_
      refine z_imul (pc := 431) dX12_move_431 ?_
      refine z_iload_n (pc := 432) dX12_move_432 rfl rfl ?_
      refine z_iadd (pc := 433) dX12_move_433 ?_
      refine z_imul (pc := 434) dX12_move_434 ?_
      refine z_aload_n (pc := 435) dX12_move_435 rfl rfl ?_
      refine z_getk (pc := 436) dX12_move_436 fX12_78 rfl (s_63_28 S) ?_
      refine z_bipush (pc := 439) (v := (nI 15)) dX12_move_439 (by decide) ?_
      refine z_iload (pc := 441) dX12_move_441 rfl ?_
      refine z_imul (pc := 443) dX12_move_443 ?_
      refine z_aload_n (pc := 444) dX12_move_444 rfl rfl ?_
      refine z_getk (pc := 445) dX12_move_445 fX12_111 rfl (s_63_40 S) ?_
      refine z_iload (pc := 448) dX12_move_448 rfl ?_
      refine z_iald (pc := 450) dX12_move_450 c2 ?_
      refine z_iadd (pc := 451) dX12_move_451 ?_
      have c4 := H.1
      replace H := H.2
      refine z_iald (pc := 452) dX12_move_452 c4 ?_
      have c5 := H.1
      replace H := H.2
      refine z_iast (pc := 453) dX12_move_453 c5 ?_
      refine z_aload_n (pc := 454) dX12_move_454 rfl rfl ?_
      refine z_getk (pc := 455) dX12_move_455 fX12_63 rfl (s_63_21 S) ?_
      refine z_iconst (pc := 458) (v := (nI 2)) dX12_move_458 (by decide) ?_
      refine z_bipush (pc := 459) (v := (nI 52)) dX12_move_459 (by decide) ?_
      refine z_iload (pc := 461) dX12_move_461 rfl ?_
      refine z_imul (pc := 463) dX12_move_463 ?_
      refine z_iload_n (pc := 464) dX12_move_464 rfl rfl ?_
      refine z_iadd (pc := 465) dX12_move_465 ?_
      refine z_imul (pc := 466) dX12_move_466 ?_
      refine z_iconst (pc := 467) (v := (nI 1)) dX12_move_467 (by decide) ?_
      refine z_iadd (pc := 468) dX12_move_468 ?_
      refine z_aload_n (pc := 469) dX12_move_469 rfl rfl ?_
      refine z_getk (pc := 470) dX12_move_470 fX12_81 rfl (s_63_29 S) ?_
      refine z_bipush (pc := 473) (v := (nI 15)) dX12_move_473 (by decide) ?_
      refine z_iload (pc := 475) dX12_move_475 rfl ?_
      refine z_imul (pc := 477) dX12_move_477 ?_
      refine z_aload_n (pc := 478) dX12_move_478 rfl rfl ?_
      refine z_getk (pc := 479) dX12_move_479 fX12_111 rfl (s_63_40 S) ?_
      refine z_iload (pc := 482) dX12_move_482 rfl ?_
      refine z_iald (pc := 484) dX12_move_484 c2 ?_
      refine z_iadd (pc := 485) dX12_move_485 ?_
      refine z_iald (pc := 486) dX12_move_486 c4 ?_
      have c6 := H.1
      replace H := H.2
      refine z_iast (pc := 487) dX12_move_487 c6 ?_
      refine z_iinc (pc := 488) (v := (x6 + (nI 1))) (ls' := [some (.inr (some (0, 12, 63))), some (.inl x1), some (.inl x2), some (.inl x3), some (.inl x4), some (.inl x5), some (.inl (x6 + (nI 1)))]) dX12_move_488 rfl (by rw [show Int32.ofInt (1) = (nI 1) by decide]) rfl ?_
      refine z_goto (pc := 491) (tgt := 399) dX12_move_491 (by decide) ?_
      exact H
    · replace H := H.2 c3
      refine z_goto (pc := 419) (tgt := 488) dX12_move_419 (by decide) ?_
      refine z_iinc (pc := 488) (v := (x6 + (nI 1))) (ls' := [some (.inr (some (0, 12, 63))), some (.inl x1), some (.inl x2), some (.inl x3), some (.inl x4), some (.inl x5), some (.inl (x6 + (nI 1)))]) dX12_move_488 rfl (by rw [show Int32.ofInt (1) = (nI 1) by decide]) rfl ?_
      refine z_goto (pc := 491) (tgt := 399) dX12_move_491 (by decide) ?_
      exact H

set_option maxRecDepth 20000 in
theorem bX12_planned_0 {l : Launch} {E : eE} {d bc bs : Nat} {h : aH} {Q : Int32 → aH → Prop} {x1 : Int32} {x2 : Int32} {x3 : Int32} (S : SH h) (H : (CI l E d 0 0 mX12_isSeries [.inr (some (0, 12, 63)), .inl x1] h (fun v1 h1 => SH h1 ∧ ((v1 = 0 → Q (-1) h1) ∧ (¬ v1 = 0 → (CI l E d 0 0 mX12_isWeek [.inl x2] h1 (fun v3 h3 => SH h3 ∧ ((v3 = 0 → Q (-1) h3) ∧ (¬ v3 = 0 → ((x3 < 0 → Q (-1) h3) ∧ (¬ x3 < 0 → ((x3 ≤ (nI 3) → (vp_in (((nI 2) * (((nI 52) * x1) + x2)) + (x3 - x3 / (nI 2) * (nI 2))) 416 ∧ (vp_in ((nI 2) * (((nI 52) * x1) + x2)) 416 ∧ (((hA h3 80 (((nI 2) * (((nI 52) * x1) + x2))).toNatClampNeg) = (-1) → Q (hA h3 80 ((((nI 2) * (((nI 52) * x1) + x2)) + (x3 - x3 / (nI 2) * (nI 2)))).toNatClampNeg) h3) ∧ (¬ (hA h3 80 (((nI 2) * (((nI 52) * x1) + x2))).toNatClampNeg) = (-1) → (((hA h3 80 ((((nI 2) * (((nI 52) * x1) + x2)) + (x3 - x3 / (nI 2) * (nI 2)))).toNatClampNeg) = (-1) → Q (hA h3 80 ((((nI 2) * (((nI 52) * x1) + x2)) + (x3 - x3 / (nI 2) * (nI 2)))).toNatClampNeg) h3) ∧ (¬ (hA h3 80 ((((nI 2) * (((nI 52) * x1) + x2)) + (x3 - x3 / (nI 2) * (nI 2)))).toNatClampNeg) = (-1) → (((nI 2) ≤ x3 → (vp_in (((nI 6) * x1) + (hA h3 80 ((((nI 2) * (((nI 52) * x1) + x2)) + (x3 - x3 / (nI 2) * (nI 2)))).toNatClampNeg)) 24 ∧ Q (((nI 336) * x2) + (hA h3 78 ((((nI 6) * x1) + (hA h3 80 ((((nI 2) * (((nI 52) * x1) + x2)) + (x3 - x3 / (nI 2) * (nI 2)))).toNatClampNeg))).toNatClampNeg)) h3)) ∧ (¬ (nI 2) ≤ x3 → Q (hA h3 80 ((((nI 2) * (((nI 52) * x1) + x2)) + (x3 - x3 / (nI 2) * (nI 2)))).toNatClampNeg) h3))))))))) ∧ (¬ x3 ≤ (nI 3) → Q (-1) h3))))))))))))) : CI l E (d + 1) bc bs mX12_planned [.inr (some (0, 12, 63)), .inl x1, .inl x2, .inl x3] h Q := by
  refine CI.of (by decide) rfl ?_
  show TI l E mX12_planned (d + 1) bc bs 0 [some (.inr (some (0, 12, 63))), some (.inl x1), some (.inl x2), some (.inl x3), none] [] h Q
  refine z_aload_n (pc := 0) dX12_planned_0 rfl rfl ?_
  refine z_iload_n (pc := 1) dX12_planned_1 rfl rfl ?_
  refine y_VI (pc := 2) (bc := bc) (bs := bs) (mc := 0) (ms := 0) (As := [.inl x1]) (rest := []) dX12_planned_2 kX12_isSeries lX12_146 ⟨_, _, rfl⟩ rfl rfl (H.use (fun v1 h1 H => ?_))
  have S1 := H.1
  replace H := H.2
  refine z_if_eq (pc := 5) (tgt := 24) dX12_planned_5 (by decide) (fun c2 => ?_) (fun c2 => ?_)
  · replace H := H.1 c2
    refine z_iconst (pc := 24) (v := (-1)) dX12_planned_24 (by decide) ?_
    exact z_iret (pc := 25) dX12_planned_25 rfl rfl ⟨_, rfl, H⟩
  · replace H := H.2 c2
    refine z_iload_n (pc := 8) dX12_planned_8 rfl rfl ?_
    refine y_SI (pc := 9) (bc := bc) (bs := bs) (mc := 0) (ms := 0) (As := [.inl x2]) (rest := []) dX12_planned_9 kX12_isWeek lX12_149 rfl rfl (H.use (fun v3 h3 H => ?_))
    have S3 := H.1
    replace H := H.2
    refine z_if_eq (pc := 12) (tgt := 24) dX12_planned_12 (by decide) (fun c4 => ?_) (fun c4 => ?_)
    · replace H := H.1 c4
      refine z_iconst (pc := 24) (v := (-1)) dX12_planned_24 (by decide) ?_
      exact z_iret (pc := 25) dX12_planned_25 rfl rfl ⟨_, rfl, H⟩
    · replace H := H.2 c4
      refine z_iload_n (pc := 15) dX12_planned_15 rfl rfl ?_
      refine z_if_lt (pc := 16) (tgt := 24) dX12_planned_16 (by decide) (fun c5 => ?_) (fun c5 => ?_)
      · replace H := H.1 c5
        refine z_iconst (pc := 24) (v := (-1)) dX12_planned_24 (by decide) ?_
        exact z_iret (pc := 25) dX12_planned_25 rfl rfl ⟨_, rfl, H⟩
      · replace H := H.2 c5
        refine z_iload_n (pc := 19) dX12_planned_19 rfl rfl ?_
        refine z_iconst (pc := 20) (v := (nI 3)) dX12_planned_20 (by decide) ?_
        refine z_icmp_le (pc := 21) (tgt := 26) dX12_planned_21 (by decide) (fun c6 => ?_) (fun c6 => ?_)
        · replace H := H.1 c6
          refine z_aload_n (pc := 26) dX12_planned_26 rfl rfl ?_
          refine z_getk (pc := 27) dX12_planned_27 fX12_63 rfl (s_63_21 S3) ?_
          refine z_iconst (pc := 30) (v := (nI 2)) dX12_planned_30 (by decide) ?_
          refine z_bipush (pc := 31) (v := (nI 52)) dX12_planned_31 (by decide) ?_
          refine z_iload_n (pc := 33) dX12_planned_33 rfl rfl ?_
          refine z_imul (pc := 34) dX12_planned_34 ?_
          refine z_iload_n (pc := 35) dX12_planned_35 rfl rfl ?_
          refine z_iadd (pc := 36) dX12_planned_36 ?_
          refine z_imul (pc := 37) dX12_planned_37 ?_
          refine z_iload_n (pc := 38) dX12_planned_38 rfl rfl ?_
          refine z_iconst (pc := 39) (v := (nI 2)) dX12_planned_39 (by decide) ?_
          refine z_irem (pc := 40) dX12_planned_40 (by decide) ?_
          refine z_iadd (pc := 41) dX12_planned_41 ?_
          have c7 := H.1
          replace H := H.2
          refine z_iald (pc := 42) dX12_planned_42 c7 ?_
          refine z_istore (pc := 43) (ls' := [some (.inr (some (0, 12, 63))), some (.inl x1), some (.inl x2), some (.inl x3), some (.inl (hA h3 80 ((((nI 2) * (((nI 52) * x1) + x2)) + (x3 - x3 / (nI 2) * (nI 2)))).toNatClampNeg))]) dX12_planned_43 rfl rfl ?_
          refine z_aload_n (pc := 45) dX12_planned_45 rfl rfl ?_
          refine z_getk (pc := 46) dX12_planned_46 fX12_63 rfl (s_63_21 S3) ?_
          refine z_iconst (pc := 49) (v := (nI 2)) dX12_planned_49 (by decide) ?_
          refine z_bipush (pc := 50) (v := (nI 52)) dX12_planned_50 (by decide) ?_
          refine z_iload_n (pc := 52) dX12_planned_52 rfl rfl ?_
          refine z_imul (pc := 53) dX12_planned_53 ?_
          refine z_iload_n (pc := 54) dX12_planned_54 rfl rfl ?_
          refine z_iadd (pc := 55) dX12_planned_55 ?_
          refine z_imul (pc := 56) dX12_planned_56 ?_
          have c8 := H.1
          replace H := H.2
          refine z_iald (pc := 57) dX12_planned_57 c8 ?_
          refine z_iconst (pc := 58) (v := (-1)) dX12_planned_58 (by decide) ?_
          refine z_icmp_eq (pc := 59) (tgt := 73) dX12_planned_59 (by decide) (fun c9 => ?_) (fun c9 => ?_)
          · replace H := H.1 c9
            refine z_iload (pc := 73) dX12_planned_73 rfl ?_
            exact z_iret (pc := 75) dX12_planned_75 rfl rfl ⟨_, rfl, H⟩
          · replace H := H.2 c9
            refine z_iload (pc := 62) dX12_planned_62 rfl ?_
            refine z_iconst (pc := 64) (v := (-1)) dX12_planned_64 (by decide) ?_
            refine z_icmp_eq (pc := 65) (tgt := 73) dX12_planned_65 (by decide) (fun c10 => ?_) (fun c10 => ?_)
            · replace H := H.1 c10
              refine z_iload (pc := 73) dX12_planned_73 rfl ?_
              exact z_iret (pc := 75) dX12_planned_75 rfl rfl ⟨_, rfl, H⟩
            · replace H := H.2 c10
              refine z_iload_n (pc := 68) dX12_planned_68 rfl rfl ?_
              refine z_iconst (pc := 69) (v := (nI 2)) dX12_planned_69 (by decide) ?_
              refine z_icmp_ge (pc := 70) (tgt := 76) dX12_planned_70 (by decide) (fun c11 => ?_) (fun c11 => ?_)
              · replace H := H.1 c11
                refine z_sipush (pc := 76) (v := (nI 336)) dX12_planned_76 (by decide) ?_
                refine z_iload_n (pc := 79) dX12_planned_79 rfl rfl ?_
                refine z_imul (pc := 80) dX12_planned_80 ?_
                refine z_aload_n (pc := 81) dX12_planned_81 rfl rfl ?_
                refine z_getk (pc := 82) dX12_planned_82 fX12_57 rfl (s_63_19 S3) ?_
                refine z_bipush (pc := 85) (v := (nI 6)) dX12_planned_85 (by decide) ?_
                refine z_iload_n (pc := 87) dX12_planned_87 rfl rfl ?_
                refine z_imul (pc := 88) dX12_planned_88 ?_
                refine z_iload (pc := 89) dX12_planned_89 rfl ?_
                refine z_iadd (pc := 91) dX12_planned_91 ?_
                have c12 := H.1
                replace H := H.2
                refine z_iald (pc := 92) dX12_planned_92 c12 ?_
                refine z_iadd (pc := 93) dX12_planned_93 ?_
                exact z_iret (pc := 94) dX12_planned_94 rfl rfl ⟨_, rfl, H⟩
              · replace H := H.2 c11
                refine z_iload (pc := 73) dX12_planned_73 rfl ?_
                exact z_iret (pc := 75) dX12_planned_75 rfl rfl ⟨_, rfl, H⟩
        · replace H := H.2 c6
          refine z_iconst (pc := 24) (v := (-1)) dX12_planned_24 (by decide) ?_
          exact z_iret (pc := 25) dX12_planned_25 rfl rfl ⟨_, rfl, H⟩

set_option maxRecDepth 20000 in
theorem bX12_comes_0 {l : Launch} {E : eE} {d bc bs : Nat} {h : aH} {Q : Int32 → aH → Prop} {x1 : Int32} {x2 : Int32} {x3 : Int32} {x4 : Int32} (S : SH h) (H : (CI l E d 0 0 mX12_isPerson [.inr (some (0, 12, 63)), .inl x1] h (fun v1 h1 => SH h1 ∧ ((v1 = 0 → Q (-1) h1) ∧ (¬ v1 = 0 → (CI l E d 0 0 mX12_isSeries [.inr (some (0, 12, 63)), .inl x2] h1 (fun v3 h3 => SH h3 ∧ ((v3 = 0 → Q (-1) h3) ∧ (¬ v3 = 0 → (CI l E d 0 0 mX12_isWeek [.inl x3] h3 (fun v5 h5 => SH h5 ∧ ((v5 = 0 → Q (-1) h5) ∧ (¬ v5 = 0 → (CI l E d 0 0 mX12_isKnown [.inr (some (0, 12, 63)), .inl x4] h5 (fun v7 h7 => SH h7 ∧ ((v7 = 0 → Q (-1) h7) ∧ (¬ v7 = 0 → (vp_in ((nI 2) * (((nI 52) * x2) + x3)) 416 ∧ ((¬ (hA h7 80 (((nI 2) * (((nI 52) * x2) + x3))).toNatClampNeg) = (-1) → (CV l E d 0 0 mX12_takesWeek [.inr (some (0, 12, 63)), .inl x3, .inl x4] h7 (fun h11 => SH h11 ∧ (CV l E d 0 0 mX12_comeAll [.inr (some (0, 12, 63)), .inl (x2 + (nI 1))] h11 (fun h12 => SH h12 ∧ (vp_in (((nI 12) * x2) + x1) 48 ∧ Q (hA h12 83 ((((nI 12) * x2) + x1)).toNatClampNeg) h12)))))) ∧ ((hA h7 80 (((nI 2) * (((nI 52) * x2) + x3))).toNatClampNeg) = (-1) → Q (-1) h7)))))))))))))))))))) : CI l E (d + 1) bc bs mX12_comes [.inr (some (0, 12, 63)), .inl x1, .inl x2, .inl x3, .inl x4] h Q := by
  refine CI.of (by decide) rfl ?_
  show TI l E mX12_comes (d + 1) bc bs 0 [some (.inr (some (0, 12, 63))), some (.inl x1), some (.inl x2), some (.inl x3), some (.inl x4)] [] h Q
  refine z_aload_n (pc := 0) dX12_comes_0 rfl rfl ?_
  refine z_iload_n (pc := 1) dX12_comes_1 rfl rfl ?_
  refine y_VI (pc := 2) (bc := bc) (bs := bs) (mc := 0) (ms := 0) (As := [.inl x1]) (rest := []) dX12_comes_2 kX12_isPerson lX12_139 ⟨_, _, rfl⟩ rfl rfl (H.use (fun v1 h1 H => ?_))
  have S1 := H.1
  replace H := H.2
  refine z_if_eq (pc := 5) (tgt := 49) dX12_comes_5 (by decide) (fun c2 => ?_) (fun c2 => ?_)
  · replace H := H.1 c2
    refine z_iconst (pc := 49) (v := (-1)) dX12_comes_49 (by decide) ?_
    exact z_iret (pc := 50) dX12_comes_50 rfl rfl ⟨_, rfl, H⟩
  · replace H := H.2 c2
    refine z_aload_n (pc := 8) dX12_comes_8 rfl rfl ?_
    refine z_iload_n (pc := 9) dX12_comes_9 rfl rfl ?_
    refine y_VI (pc := 10) (bc := bc) (bs := bs) (mc := 0) (ms := 0) (As := [.inl x2]) (rest := []) dX12_comes_10 kX12_isSeries lX12_146 ⟨_, _, rfl⟩ rfl rfl (H.use (fun v3 h3 H => ?_))
    have S3 := H.1
    replace H := H.2
    refine z_if_eq (pc := 13) (tgt := 49) dX12_comes_13 (by decide) (fun c4 => ?_) (fun c4 => ?_)
    · replace H := H.1 c4
      refine z_iconst (pc := 49) (v := (-1)) dX12_comes_49 (by decide) ?_
      exact z_iret (pc := 50) dX12_comes_50 rfl rfl ⟨_, rfl, H⟩
    · replace H := H.2 c4
      refine z_iload_n (pc := 16) dX12_comes_16 rfl rfl ?_
      refine y_SI (pc := 17) (bc := bc) (bs := bs) (mc := 0) (ms := 0) (As := [.inl x3]) (rest := []) dX12_comes_17 kX12_isWeek lX12_149 rfl rfl (H.use (fun v5 h5 H => ?_))
      have S5 := H.1
      replace H := H.2
      refine z_if_eq (pc := 20) (tgt := 49) dX12_comes_20 (by decide) (fun c6 => ?_) (fun c6 => ?_)
      · replace H := H.1 c6
        refine z_iconst (pc := 49) (v := (-1)) dX12_comes_49 (by decide) ?_
        exact z_iret (pc := 50) dX12_comes_50 rfl rfl ⟨_, rfl, H⟩
      · replace H := H.2 c6
        refine z_aload_n (pc := 23) dX12_comes_23 rfl rfl ?_
        refine z_iload (pc := 24) dX12_comes_24 rfl ?_
        refine y_VI (pc := 26) (bc := bc) (bs := bs) (mc := 0) (ms := 0) (As := [.inl x4]) (rest := []) dX12_comes_26 kX12_isKnown lX12_152 ⟨_, _, rfl⟩ rfl rfl (H.use (fun v7 h7 H => ?_))
        have S7 := H.1
        replace H := H.2
        refine z_if_eq (pc := 29) (tgt := 49) dX12_comes_29 (by decide) (fun c8 => ?_) (fun c8 => ?_)
        · replace H := H.1 c8
          refine z_iconst (pc := 49) (v := (-1)) dX12_comes_49 (by decide) ?_
          exact z_iret (pc := 50) dX12_comes_50 rfl rfl ⟨_, rfl, H⟩
        · replace H := H.2 c8
          refine z_aload_n (pc := 32) dX12_comes_32 rfl rfl ?_
          refine z_getk (pc := 33) dX12_comes_33 fX12_63 rfl (s_63_21 S7) ?_
          refine z_iconst (pc := 36) (v := (nI 2)) dX12_comes_36 (by decide) ?_
          refine z_bipush (pc := 37) (v := (nI 52)) dX12_comes_37 (by decide) ?_
          refine z_iload_n (pc := 39) dX12_comes_39 rfl rfl ?_
          refine z_imul (pc := 40) dX12_comes_40 ?_
          refine z_iload_n (pc := 41) dX12_comes_41 rfl rfl ?_
          refine z_iadd (pc := 42) dX12_comes_42 ?_
          refine z_imul (pc := 43) dX12_comes_43 ?_
          have c9 := H.1
          replace H := H.2
          refine z_iald (pc := 44) dX12_comes_44 c9 ?_
          refine z_iconst (pc := 45) (v := (-1)) dX12_comes_45 (by decide) ?_
          refine z_icmp_ne (pc := 46) (tgt := 51) dX12_comes_46 (by decide) (fun c10 => ?_) (fun c10 => ?_)
          · replace H := H.1 c10
            refine z_aload_n (pc := 51) dX12_comes_51 rfl rfl ?_
            refine z_iload_n (pc := 52) dX12_comes_52 rfl rfl ?_
            refine z_iload (pc := 53) dX12_comes_53 rfl ?_
            refine y_VV (pc := 55) (bc := bc) (bs := bs) (mc := 0) (ms := 0) (As := [.inl x3, .inl x4]) (rest := []) dX12_comes_55 kX12_takesWeek lX12_214 ⟨_, _, rfl⟩ rfl rfl (H.use (fun h11 H => ?_))
            have S11 := H.1
            replace H := H.2
            refine z_aload_n (pc := 58) dX12_comes_58 rfl rfl ?_
            refine z_iload_n (pc := 59) dX12_comes_59 rfl rfl ?_
            refine z_iconst (pc := 60) (v := (nI 1)) dX12_comes_60 (by decide) ?_
            refine z_iadd (pc := 61) dX12_comes_61 ?_
            refine y_VV (pc := 62) (bc := bc) (bs := bs) (mc := 0) (ms := 0) (As := [.inl (x2 + (nI 1))]) (rest := []) dX12_comes_62 kX12_comeAll lX12_218 ⟨_, _, rfl⟩ rfl rfl (H.use (fun h12 H => ?_))
            have S12 := H.1
            replace H := H.2
            refine z_aload_n (pc := 65) dX12_comes_65 rfl rfl ?_
            refine z_getk (pc := 66) dX12_comes_66 fX12_72 rfl (s_63_26 S12) ?_
            refine z_bipush (pc := 69) (v := (nI 12)) dX12_comes_69 (by decide) ?_
            refine z_iload_n (pc := 71) dX12_comes_71 rfl rfl ?_
            refine z_imul (pc := 72) dX12_comes_72 ?_
            refine z_iload_n (pc := 73) dX12_comes_73 rfl rfl ?_
            refine z_iadd (pc := 74) dX12_comes_74 ?_
            have c13 := H.1
            replace H := H.2
            refine z_iald (pc := 75) dX12_comes_75 c13 ?_
            exact z_iret (pc := 76) dX12_comes_76 rfl rfl ⟨_, rfl, H⟩
          · replace H := H.2 c10
            refine z_iconst (pc := 49) (v := (-1)) dX12_comes_49 (by decide) ?_
            exact z_iret (pc := 50) dX12_comes_50 rfl rfl ⟨_, rfl, H⟩

abbrev LX12_sum_23 (l : Launch) (E : eE) (d bc bs : Nat) (x1 : Int32) (x2 : Int32) (x3 : Int32) (x4 : Int32) (h : aH) (Q : Int32 → aH → Prop) : Prop := TI l E mX12_sum d bc bs 23 [some (.inr (some (0, 12, 63))), some (.inl x1), some (.inl x2), some (.inl x3), some (.inl x4), none, none] [] h Q

abbrev LX12_sum_43 (l : Launch) (E : eE) (d bc bs : Nat) (x1 : Int32) (x2 : Int32) (x3 : Int32) (x4 : Int32) (x5 : Int32) (x6 : Int32) (h : aH) (Q : Int32 → aH → Prop) : Prop := TI l E mX12_sum d bc bs 43 [some (.inr (some (0, 12, 63))), some (.inl x1), some (.inl x2), some (.inl x3), some (.inl x4), some (.inl x5), some (.inl x6)] [] h Q

abbrev LX12_sum_100 (l : Launch) (E : eE) (d bc bs : Nat) (x1 : Int32) (x2 : Int32) (x3 : Int32) (x4 : Int32) (x5 : Int32) (x6 : Int32) (h : aH) (Q : Int32 → aH → Prop) : Prop := TI l E mX12_sum d bc bs 100 [some (.inr (some (0, 12, 63))), some (.inl x1), some (.inl x2), some (.inl x3), some (.inl x4), some (.inl x5), some (.inl x6)] [] h Q

set_option maxRecDepth 20000 in
theorem bX12_sum_0 {l : Launch} {E : eE} {d bc bs : Nat} {h : aH} {Q : Int32 → aH → Prop} {x1 : Int32} {x2 : Int32} (S : SH h) (H : (CI l E d 0 0 mX12_isPerson [.inr (some (0, 12, 63)), .inl x1] h (fun v1 h1 => SH h1 ∧ ((v1 = 0 → Q (-1) h1) ∧ (¬ v1 = 0 → (CI l E d 0 0 mX12_isKnown [.inr (some (0, 12, 63)), .inl x2] h1 (fun v3 h3 => SH h3 ∧ ((¬ v3 = 0 → LX12_sum_23 l E (d + 1) bc bs x1 x2 (nI 0) (nI 0) h3 Q) ∧ (v3 = 0 → Q (-1) h3))))))))) : CI l E (d + 1) bc bs mX12_sum [.inr (some (0, 12, 63)), .inl x1, .inl x2] h Q := by
  refine CI.of (by decide) rfl ?_
  show TI l E mX12_sum (d + 1) bc bs 0 [some (.inr (some (0, 12, 63))), some (.inl x1), some (.inl x2), none, none, none, none] [] h Q
  refine z_aload_n (pc := 0) dX12_sum_0 rfl rfl ?_
  refine z_iload_n (pc := 1) dX12_sum_1 rfl rfl ?_
  refine y_VI (pc := 2) (bc := bc) (bs := bs) (mc := 0) (ms := 0) (As := [.inl x1]) (rest := []) dX12_sum_2 kX12_isPerson lX12_139 ⟨_, _, rfl⟩ rfl rfl (H.use (fun v1 h1 H => ?_))
  have S1 := H.1
  replace H := H.2
  refine z_if_eq (pc := 5) (tgt := 16) dX12_sum_5 (by decide) (fun c2 => ?_) (fun c2 => ?_)
  · replace H := H.1 c2
    refine z_iconst (pc := 16) (v := (-1)) dX12_sum_16 (by decide) ?_
    exact z_iret (pc := 17) dX12_sum_17 rfl rfl ⟨_, rfl, H⟩
  · replace H := H.2 c2
    refine z_aload_n (pc := 8) dX12_sum_8 rfl rfl ?_
    refine z_iload_n (pc := 9) dX12_sum_9 rfl rfl ?_
    refine y_VI (pc := 10) (bc := bc) (bs := bs) (mc := 0) (ms := 0) (As := [.inl x2]) (rest := []) dX12_sum_10 kX12_isKnown lX12_152 ⟨_, _, rfl⟩ rfl rfl (H.use (fun v3 h3 H => ?_))
    have S3 := H.1
    replace H := H.2
    refine z_if_ne (pc := 13) (tgt := 18) dX12_sum_13 (by decide) (fun c4 => ?_) (fun c4 => ?_)
    · replace H := H.1 c4
      refine z_iconst (pc := 18) (v := (nI 0)) dX12_sum_18 (by decide) ?_
      refine z_istore_n (pc := 19) (ls' := [some (.inr (some (0, 12, 63))), some (.inl x1), some (.inl x2), some (.inl (nI 0)), none, none, none]) dX12_sum_19 rfl rfl rfl ?_
      refine z_iconst (pc := 20) (v := (nI 0)) dX12_sum_20 (by decide) ?_
      refine z_istore (pc := 21) (ls' := [some (.inr (some (0, 12, 63))), some (.inl x1), some (.inl x2), some (.inl (nI 0)), some (.inl (nI 0)), none, none]) dX12_sum_21 rfl rfl ?_
      exact H
    · replace H := H.2 c4
      refine z_iconst (pc := 16) (v := (-1)) dX12_sum_16 (by decide) ?_
      exact z_iret (pc := 17) dX12_sum_17 rfl rfl ⟨_, rfl, H⟩

set_option maxRecDepth 20000 in
theorem bX12_sum_23 {l : Launch} {E : eE} {d bc bs : Nat} {h : aH} {Q : Int32 → aH → Prop} {x1 : Int32} {x2 : Int32} {x3 : Int32} {x4 : Int32} (S : SH h) (H : (((nI 52) ≤ x4 → Q x3 h) ∧ (¬ (nI 52) ≤ x4 → (CV l E d 0 0 mX12_takesWeek [.inr (some (0, 12, 63)), .inl x4, .inl x2] h (fun h2 => SH h2 ∧ LX12_sum_43 l E (d + 1) bc bs x1 x2 x3 x4 (nI 0) (nI 0) h2 Q))))) : LX12_sum_23 l E (d + 1) bc bs x1 x2 x3 x4 h Q := by
  refine z_iload (pc := 23) dX12_sum_23 rfl ?_
  refine z_bipush (pc := 25) (v := (nI 52)) dX12_sum_25 (by decide) ?_
  refine z_icmp_ge (pc := 27) (tgt := 168) dX12_sum_27 (by decide) (fun c1 => ?_) (fun c1 => ?_)
  · replace H := H.1 c1
    refine z_iload_n (pc := 168) dX12_sum_168 rfl rfl ?_
    exact z_iret (pc := 169) dX12_sum_169 rfl rfl ⟨_, rfl, H⟩
  · replace H := H.2 c1
    refine z_aload_n (pc := 30) dX12_sum_30 rfl rfl ?_
    refine z_iload (pc := 31) dX12_sum_31 rfl ?_
    refine z_iload_n (pc := 33) dX12_sum_33 rfl rfl ?_
    refine y_VV (pc := 34) (bc := bc) (bs := bs) (mc := 0) (ms := 0) (As := [.inl x4, .inl x2]) (rest := []) dX12_sum_34 kX12_takesWeek lX12_214 ⟨_, _, rfl⟩ rfl rfl (H.use (fun h2 H => ?_))
    have S2 := H.1
    replace H := H.2
    refine z_iconst (pc := 37) (v := (nI 0)) dX12_sum_37 (by decide) ?_
    refine z_istore (pc := 38) (ls' := [some (.inr (some (0, 12, 63))), some (.inl x1), some (.inl x2), some (.inl x3), some (.inl x4), some (.inl (nI 0)), none]) dX12_sum_38 rfl rfl ?_
    refine z_iconst (pc := 40) (v := (nI 0)) dX12_sum_40 (by decide) ?_
    refine z_istore (pc := 41) (ls' := [some (.inr (some (0, 12, 63))), some (.inl x1), some (.inl x2), some (.inl x3), some (.inl x4), some (.inl (nI 0)), some (.inl (nI 0))]) dX12_sum_41 rfl rfl ?_
    exact H

set_option maxRecDepth 20000 in
theorem bX12_sum_43 {l : Launch} {E : eE} {d bc bs : Nat} {h : aH} {Q : Int32 → aH → Prop} {x1 : Int32} {x2 : Int32} {x3 : Int32} {x4 : Int32} {x5 : Int32} {x6 : Int32} (S : SH h) (H : (((hI h 63 14) ≤ x6 → ((¬ x5 = 0 → (CV l E d 0 0 mX12_comeAll [.inr (some (0, 12, 63)), .inl (hI h 63 14)] h (fun h3 => SH h3 ∧ LX12_sum_100 l E (d + 1) bc bs x1 x2 x3 x4 x5 (nI 0) h3 Q))) ∧ (x5 = 0 → LX12_sum_23 l E (d + 1) bc bs x1 x2 x3 (x4 + (nI 1)) h Q))) ∧ (¬ (hI h 63 14) ≤ x6 → ((¬ x5 = 0 → LX12_sum_43 l E (d + 1) bc bs x1 x2 x3 x4 (nI 1) (x6 + (nI 1)) h Q) ∧ (x5 = 0 → (vp_in x6 4 ∧ (((hA h 81 (x6).toNatClampNeg) = (-1) → LX12_sum_43 l E (d + 1) bc bs x1 x2 x3 x4 (nI 0) (x6 + (nI 1)) h Q) ∧ (¬ (hA h 81 (x6).toNatClampNeg) = (-1) → LX12_sum_43 l E (d + 1) bc bs x1 x2 x3 x4 (nI 1) (x6 + (nI 1)) h Q)))))))) : LX12_sum_43 l E (d + 1) bc bs x1 x2 x3 x4 x5 x6 h Q := by
  refine z_iload (pc := 43) dX12_sum_43 rfl ?_
  refine z_aload_n (pc := 45) dX12_sum_45 rfl rfl ?_
  refine z_geti (pc := 46) dX12_sum_46 fX12_126 rfl ?_
  refine z_icmp_ge (pc := 49) (tgt := 81) dX12_sum_49 (by decide) (fun c1 => ?_) (fun c1 => ?_)
  · replace H := H.1 c1
    refine z_iload (pc := 81) dX12_sum_81 rfl ?_
    refine z_if_ne (pc := 83) (tgt := 89) dX12_sum_83 (by decide) (fun c2 => ?_) (fun c2 => ?_)
    · replace H := H.1 c2
      refine z_aload_n (pc := 89) dX12_sum_89 rfl rfl ?_
      refine z_aload_n (pc := 90) dX12_sum_90 rfl rfl ?_
      refine z_geti (pc := 91) dX12_sum_91 fX12_126 rfl ?_
      refine y_VV (pc := 94) (bc := bc) (bs := bs) (mc := 0) (ms := 0) (As := [.inl (hI h 63 14)]) (rest := []) dX12_sum_94 kX12_comeAll lX12_218 ⟨_, _, rfl⟩ rfl rfl (H.use (fun h3 H => ?_))
      have S3 := H.1
      replace H := H.2
      refine z_iconst (pc := 97) (v := (nI 0)) dX12_sum_97 (by decide) ?_
      refine z_istore (pc := 98) (ls' := [some (.inr (some (0, 12, 63))), some (.inl x1), some (.inl x2), some (.inl x3), some (.inl x4), some (.inl x5), some (.inl (nI 0))]) dX12_sum_98 rfl rfl ?_
      exact H
    · replace H := H.2 c2
      refine z_goto (pc := 86) (tgt := 162) dX12_sum_86 (by decide) ?_
      refine z_iinc (pc := 162) (v := (x4 + (nI 1))) (ls' := [some (.inr (some (0, 12, 63))), some (.inl x1), some (.inl x2), some (.inl x3), some (.inl (x4 + (nI 1))), some (.inl x5), some (.inl x6)]) dX12_sum_162 rfl (by rw [show Int32.ofInt (1) = (nI 1) by decide]) rfl ?_
      refine z_goto (pc := 165) (tgt := 23) dX12_sum_165 (by decide) ?_
      exact z_drop (ls' := [some (.inr (some (0, 12, 63))), some (.inl x1), some (.inl x2), some (.inl x3), some (.inl (x4 + (nI 1))), none, none]) (by simp [dropL]) H
  · replace H := H.2 c1
    refine z_iload (pc := 52) dX12_sum_52 rfl ?_
    refine z_if_ne (pc := 54) (tgt := 68) dX12_sum_54 (by decide) (fun c4 => ?_) (fun c4 => ?_)
    · replace H := H.1 c4
      refine z_iconst (pc := 68) (v := (nI 1)) dX12_sum_68 (by decide) ?_
      refine z_goto (pc := 69) (tgt := 73) dX12_sum_69 (by decide) ?_
      refine z_istore (pc := 73) (ls' := [some (.inr (some (0, 12, 63))), some (.inl x1), some (.inl x2), some (.inl x3), some (.inl x4), some (.inl (nI 1)), some (.inl x6)]) dX12_sum_73 rfl rfl ?_
      refine z_iinc (pc := 75) (v := (x6 + (nI 1))) (ls' := [some (.inr (some (0, 12, 63))), some (.inl x1), some (.inl x2), some (.inl x3), some (.inl x4), some (.inl (nI 1)), some (.inl (x6 + (nI 1)))]) dX12_sum_75 rfl (by rw [show Int32.ofInt (1) = (nI 1) by decide]) rfl ?_
      refine z_goto (pc := 78) (tgt := 43) dX12_sum_78 (by decide) ?_
      exact H
    · replace H := H.2 c4
      refine z_aload_n (pc := 57) dX12_sum_57 rfl rfl ?_
      refine z_getk (pc := 58) dX12_sum_58 fX12_66 rfl (s_63_24 S) ?_
      refine z_iload (pc := 61) dX12_sum_61 rfl ?_
      have c5 := H.1
      replace H := H.2
      refine z_iald (pc := 63) dX12_sum_63 c5 ?_
      refine z_iconst (pc := 64) (v := (-1)) dX12_sum_64 (by decide) ?_
      refine z_icmp_eq (pc := 65) (tgt := 72) dX12_sum_65 (by decide) (fun c6 => ?_) (fun c6 => ?_)
      · replace H := H.1 c6
        refine z_iconst (pc := 72) (v := (nI 0)) dX12_sum_72 (by decide) ?_
        refine z_istore (pc := 73) (ls' := [some (.inr (some (0, 12, 63))), some (.inl x1), some (.inl x2), some (.inl x3), some (.inl x4), some (.inl (nI 0)), some (.inl x6)]) dX12_sum_73 rfl rfl ?_
        refine z_iinc (pc := 75) (v := (x6 + (nI 1))) (ls' := [some (.inr (some (0, 12, 63))), some (.inl x1), some (.inl x2), some (.inl x3), some (.inl x4), some (.inl (nI 0)), some (.inl (x6 + (nI 1)))]) dX12_sum_75 rfl (by rw [show Int32.ofInt (1) = (nI 1) by decide]) rfl ?_
        refine z_goto (pc := 78) (tgt := 43) dX12_sum_78 (by decide) ?_
        exact H
      · replace H := H.2 c6
        refine z_iconst (pc := 68) (v := (nI 1)) dX12_sum_68 (by decide) ?_
        refine z_goto (pc := 69) (tgt := 73) dX12_sum_69 (by decide) ?_
        refine z_istore (pc := 73) (ls' := [some (.inr (some (0, 12, 63))), some (.inl x1), some (.inl x2), some (.inl x3), some (.inl x4), some (.inl (nI 1)), some (.inl x6)]) dX12_sum_73 rfl rfl ?_
        refine z_iinc (pc := 75) (v := (x6 + (nI 1))) (ls' := [some (.inr (some (0, 12, 63))), some (.inl x1), some (.inl x2), some (.inl x3), some (.inl x4), some (.inl (nI 1)), some (.inl (x6 + (nI 1)))]) dX12_sum_75 rfl (by rw [show Int32.ofInt (1) = (nI 1) by decide]) rfl ?_
        refine z_goto (pc := 78) (tgt := 43) dX12_sum_78 (by decide) ?_
        exact H

set_option maxRecDepth 20000 in
theorem bX12_sum_100 {l : Launch} {E : eE} {d bc bs : Nat} {h : aH} {Q : Int32 → aH → Prop} {x1 : Int32} {x2 : Int32} {x3 : Int32} {x4 : Int32} {x5 : Int32} {x6 : Int32} (S : SH h) (H : (((hI h 63 14) ≤ x6 → LX12_sum_23 l E (d + 1) bc bs x1 x2 x3 (x4 + (nI 1)) h Q) ∧ (¬ (hI h 63 14) ≤ x6 → (vp_in x6 4 ∧ (((hA h 81 (x6).toNatClampNeg) = (-1) → LX12_sum_100 l E (d + 1) bc bs x1 x2 x3 x4 x5 (x6 + (nI 1)) h Q) ∧ (¬ (hA h 81 (x6).toNatClampNeg) = (-1) → (vp_in (((nI 12) * x6) + x1) 48 ∧ (CI l E d 0 0 mX12_priceOf [.inr (some (0, 12, 63)), .inl x1, .inl x6, .inl (hA h 81 (x6).toNatClampNeg), .inl (hA h 82 (x6).toNatClampNeg), .inl (hA h 83 ((((nI 12) * x6) + x1)).toNatClampNeg)] h (fun v5 h5 => SH h5 ∧ LX12_sum_100 l E (d + 1) bc bs x1 x2 (x3 + v5) x4 x5 (x6 + (nI 1)) h5 Q))))))))) : LX12_sum_100 l E (d + 1) bc bs x1 x2 x3 x4 x5 x6 h Q := by
  refine z_iload (pc := 100) dX12_sum_100 rfl ?_
  refine z_aload_n (pc := 102) dX12_sum_102 rfl rfl ?_
  refine z_geti (pc := 103) dX12_sum_103 fX12_126 rfl ?_
  refine z_icmp_ge (pc := 106) (tgt := 162) dX12_sum_106 (by decide) (fun c1 => ?_) (fun c1 => ?_)
  · replace H := H.1 c1
    refine z_iinc (pc := 162) (v := (x4 + (nI 1))) (ls' := [some (.inr (some (0, 12, 63))), some (.inl x1), some (.inl x2), some (.inl x3), some (.inl (x4 + (nI 1))), some (.inl x5), some (.inl x6)]) dX12_sum_162 rfl (by rw [show Int32.ofInt (1) = (nI 1) by decide]) rfl ?_
    refine z_goto (pc := 165) (tgt := 23) dX12_sum_165 (by decide) ?_
    exact z_drop (ls' := [some (.inr (some (0, 12, 63))), some (.inl x1), some (.inl x2), some (.inl x3), some (.inl (x4 + (nI 1))), none, none]) (by simp [dropL]) H
  · replace H := H.2 c1
    refine z_aload_n (pc := 109) dX12_sum_109 rfl rfl ?_
    refine z_getk (pc := 110) dX12_sum_110 fX12_66 rfl (s_63_24 S) ?_
    refine z_iload (pc := 113) dX12_sum_113 rfl ?_
    have c2 := H.1
    replace H := H.2
    refine z_iald (pc := 115) dX12_sum_115 c2 ?_
    refine z_iconst (pc := 116) (v := (-1)) dX12_sum_116 (by decide) ?_
    refine z_icmp_eq (pc := 117) (tgt := 156) dX12_sum_117 (by decide) (fun c3 => ?_) (fun c3 => ?_)
    · replace H := H.1 c3
      refine z_iinc (pc := 156) (v := (x6 + (nI 1))) (ls' := [some (.inr (some (0, 12, 63))), some (.inl x1), some (.inl x2), some (.inl x3), some (.inl x4), some (.inl x5), some (.inl (x6 + (nI 1)))]) dX12_sum_156 rfl (by rw [show Int32.ofInt (1) = (nI 1) by decide]) rfl ?_
      refine z_goto (pc := 159) (tgt := 100) dX12_sum_159 (by decide) ?_
      exact H
    · replace H := H.2 c3
      refine z_iload_n (pc := 120) dX12_sum_120 rfl rfl ?_
      refine z_aload_n (pc := 121) dX12_sum_121 rfl rfl ?_
      refine z_iload_n (pc := 122) dX12_sum_122 rfl rfl ?_
      refine z_iload (pc := 123) dX12_sum_123 rfl ?_
      refine z_aload_n (pc := 125) dX12_sum_125 rfl rfl ?_
      refine z_getk (pc := 126) dX12_sum_126 fX12_66 rfl (s_63_24 S) ?_
      refine z_iload (pc := 129) dX12_sum_129 rfl ?_
      refine z_iald (pc := 131) dX12_sum_131 c2 ?_
      refine z_aload_n (pc := 132) dX12_sum_132 rfl rfl ?_
      refine z_getk (pc := 133) dX12_sum_133 fX12_69 rfl (s_63_25 S) ?_
      refine z_iload (pc := 136) dX12_sum_136 rfl ?_
      refine z_iald (pc := 138) dX12_sum_138 c2 ?_
      refine z_aload_n (pc := 139) dX12_sum_139 rfl rfl ?_
      refine z_getk (pc := 140) dX12_sum_140 fX12_72 rfl (s_63_26 S) ?_
      refine z_bipush (pc := 143) (v := (nI 12)) dX12_sum_143 (by decide) ?_
      refine z_iload (pc := 145) dX12_sum_145 rfl ?_
      refine z_imul (pc := 147) dX12_sum_147 ?_
      refine z_iload_n (pc := 148) dX12_sum_148 rfl rfl ?_
      refine z_iadd (pc := 149) dX12_sum_149 ?_
      have c4 := H.1
      replace H := H.2
      refine z_iald (pc := 150) dX12_sum_150 c4 ?_
      refine y_VI (pc := 151) (bc := bc) (bs := bs) (mc := 0) (ms := 0) (As := [.inl x1, .inl x6, .inl (hA h 81 (x6).toNatClampNeg), .inl (hA h 82 (x6).toNatClampNeg), .inl (hA h 83 ((((nI 12) * x6) + x1)).toNatClampNeg)]) (rest := [.inl x3]) dX12_sum_151 kX12_priceOf lX12_230 ⟨_, _, rfl⟩ rfl rfl (H.use (fun v5 h5 H => ?_))
      have S5 := H.1
      replace H := H.2
      refine z_iadd (pc := 154) dX12_sum_154 ?_
      refine z_istore_n (pc := 155) (ls' := [some (.inr (some (0, 12, 63))), some (.inl x1), some (.inl x2), some (.inl (x3 + v5)), some (.inl x4), some (.inl x5), some (.inl x6)]) dX12_sum_155 rfl rfl rfl ?_
      refine z_iinc (pc := 156) (v := (x6 + (nI 1))) (ls' := [some (.inr (some (0, 12, 63))), some (.inl x1), some (.inl x2), some (.inl (x3 + v5)), some (.inl x4), some (.inl x5), some (.inl (x6 + (nI 1)))]) dX12_sum_156 rfl (by rw [show Int32.ofInt (1) = (nI 1) by decide]) rfl ?_
      refine z_goto (pc := 159) (tgt := 100) dX12_sum_159 (by decide) ?_
      exact H

abbrev LX12_isShifted_3 (l : Launch) (E : eE) (d bc bs : Nat) (x1 : Int32) (x2 : Int32) (x3 : Int32) (x4 : Int32) (x5 : Int32) (h : aH) (Q : Int32 → aH → Prop) : Prop := TI l E mX12_isShifted d bc bs 3 [some (.inr (some (0, 12, 63))), some (.inl x1), some (.inl x2), some (.inl x3), some (.inl x4), some (.inl x5)] [] h Q

set_option maxRecDepth 20000 in
theorem bX12_isShifted_0 {l : Launch} {E : eE} {d bc bs : Nat} {h : aH} {Q : Int32 → aH → Prop} {x1 : Int32} {x2 : Int32} {x3 : Int32} {x4 : Int32} (S : SH h) (H : LX12_isShifted_3 l E (d + 1) bc bs x1 x2 x3 x4 (nI 0) h Q) : CI l E (d + 1) bc bs mX12_isShifted [.inr (some (0, 12, 63)), .inl x1, .inl x2, .inl x3, .inl x4] h Q := by
  refine CI.of (by decide) rfl ?_
  show TI l E mX12_isShifted (d + 1) bc bs 0 [some (.inr (some (0, 12, 63))), some (.inl x1), some (.inl x2), some (.inl x3), some (.inl x4), none] [] h Q
  refine z_iconst (pc := 0) (v := (nI 0)) dX12_isShifted_0 (by decide) ?_
  refine z_istore (pc := 1) (ls' := [some (.inr (some (0, 12, 63))), some (.inl x1), some (.inl x2), some (.inl x3), some (.inl x4), some (.inl (nI 0))]) dX12_isShifted_1 rfl rfl ?_
  exact H

set_option maxRecDepth 20000 in
theorem bX12_isShifted_3 {l : Launch} {E : eE} {d bc bs : Nat} {h : aH} {Q : Int32 → aH → Prop} {x1 : Int32} {x2 : Int32} {x3 : Int32} {x4 : Int32} {x5 : Int32} (S : SH h) (H : (((hI h 63 3) ≤ x5 → Q (nI 0) h) ∧ (¬ (hI h 63 3) ≤ x5 → (vp_in (((nI 12) * x1) + x5) 48 ∧ (((hA h 79 ((((nI 12) * x1) + x5)).toNatClampNeg) ≤ 0 → LX12_isShifted_3 l E (d + 1) bc bs x1 x2 x3 x4 (x5 + (nI 1)) h Q) ∧ (¬ (hA h 79 ((((nI 12) * x1) + x5)).toNatClampNeg) ≤ 0 → (vp_in x5 12 ∧ (CI l E d 0 0 mX12_offsetAt [.inr (some (0, 12, 63)), .inl (hA h 65 (x5).toNatClampNeg), .inl x2, .inl x3] h (fun v5 h5 => SH h5 ∧ (vp_in x5 12 ∧ (CI l E d 0 0 mX12_offsetAt [.inr (some (0, 12, 63)), .inl (hA h5 65 (x5).toNatClampNeg), .inl x2, .inl x4] h5 (fun v7 h7 => SH h7 ∧ ((v5 = v7 → LX12_isShifted_3 l E (d + 1) bc bs x1 x2 x3 x4 (x5 + (nI 1)) h7 Q) ∧ (¬ v5 = v7 → Q (nI 1) h7)))))))))))))) : LX12_isShifted_3 l E (d + 1) bc bs x1 x2 x3 x4 x5 h Q := by
  refine z_iload (pc := 3) dX12_isShifted_3 rfl ?_
  refine z_aload_n (pc := 5) dX12_isShifted_5 rfl rfl ?_
  refine z_geti (pc := 6) dX12_isShifted_6 fX12_123 rfl ?_
  refine z_icmp_ge (pc := 9) (tgt := 65) dX12_isShifted_9 (by decide) (fun c1 => ?_) (fun c1 => ?_)
  · replace H := H.1 c1
    refine z_iconst (pc := 65) (v := (nI 0)) dX12_isShifted_65 (by decide) ?_
    exact z_iret (pc := 66) dX12_isShifted_66 rfl rfl ⟨_, rfl, H⟩
  · replace H := H.2 c1
    refine z_aload_n (pc := 12) dX12_isShifted_12 rfl rfl ?_
    refine z_getk (pc := 13) dX12_isShifted_13 fX12_60 rfl (s_63_20 S) ?_
    refine z_bipush (pc := 16) (v := (nI 12)) dX12_isShifted_16 (by decide) ?_
    refine z_iload_n (pc := 18) dX12_isShifted_18 rfl rfl ?_
    refine z_imul (pc := 19) dX12_isShifted_19 ?_
    refine z_iload (pc := 20) dX12_isShifted_20 rfl ?_
    refine z_iadd (pc := 22) dX12_isShifted_22 ?_
    have c2 := H.1
    replace H := H.2
    refine z_iald (pc := 23) dX12_isShifted_23 c2 ?_
    refine z_if_le (pc := 24) (tgt := 59) dX12_isShifted_24 (by decide) (fun c3 => ?_) (fun c3 => ?_)
    · replace H := H.1 c3
      refine z_iinc (pc := 59) (v := (x5 + (nI 1))) (ls' := [some (.inr (some (0, 12, 63))), some (.inl x1), some (.inl x2), some (.inl x3), some (.inl x4), some (.inl (x5 + (nI 1)))]) dX12_isShifted_59 rfl (by rw [show Int32.ofInt (1) = (nI 1) by decide]) rfl ?_
      refine z_goto (pc := 62) (tgt := 3) dX12_isShifted_62 (by decide) ?_
      exact H
    · replace H := H.2 c3
      refine z_aload_n (pc := 27) dX12_isShifted_27 rfl rfl ?_
      refine z_aload_n (pc := 28) dX12_isShifted_28 rfl rfl ?_
      refine z_getk (pc := 29) dX12_isShifted_29 fX12_17 rfl (s_63_4 S) ?_
      refine z_iload (pc := 32) dX12_isShifted_32 rfl ?_
      have c4 := H.1
      replace H := H.2
      refine z_iald (pc := 34) dX12_isShifted_34 c4 ?_
      refine z_iload_n (pc := 35) dX12_isShifted_35 rfl rfl ?_
      refine z_iload_n (pc := 36) dX12_isShifted_36 rfl rfl ?_
      refine y_VI (pc := 37) (bc := bc) (bs := bs) (mc := 0) (ms := 0) (As := [.inl (hA h 65 (x5).toNatClampNeg), .inl x2, .inl x3]) (rest := []) dX12_isShifted_37 kX12_offsetAt lX12_156 ⟨_, _, rfl⟩ rfl rfl (H.use (fun v5 h5 H => ?_))
      have S5 := H.1
      replace H := H.2
      refine z_aload_n (pc := 40) dX12_isShifted_40 rfl rfl ?_
      refine z_aload_n (pc := 41) dX12_isShifted_41 rfl rfl ?_
      refine z_getk (pc := 42) dX12_isShifted_42 fX12_17 rfl (s_63_4 S5) ?_
      refine z_iload (pc := 45) dX12_isShifted_45 rfl ?_
      have c6 := H.1
      replace H := H.2
      refine z_iald (pc := 47) dX12_isShifted_47 c6 ?_
      refine z_iload_n (pc := 48) dX12_isShifted_48 rfl rfl ?_
      refine z_iload (pc := 49) dX12_isShifted_49 rfl ?_
      refine y_VI (pc := 51) (bc := bc) (bs := bs) (mc := 0) (ms := 0) (As := [.inl (hA h5 65 (x5).toNatClampNeg), .inl x2, .inl x4]) (rest := [.inl v5]) dX12_isShifted_51 kX12_offsetAt lX12_156 ⟨_, _, rfl⟩ rfl rfl (H.use (fun v7 h7 H => ?_))
      have S7 := H.1
      replace H := H.2
      refine z_icmp_eq (pc := 54) (tgt := 59) dX12_isShifted_54 (by decide) (fun c8 => ?_) (fun c8 => ?_)
      · replace H := H.1 c8
        refine z_iinc (pc := 59) (v := (x5 + (nI 1))) (ls' := [some (.inr (some (0, 12, 63))), some (.inl x1), some (.inl x2), some (.inl x3), some (.inl x4), some (.inl (x5 + (nI 1)))]) dX12_isShifted_59 rfl (by rw [show Int32.ofInt (1) = (nI 1) by decide]) rfl ?_
        refine z_goto (pc := 62) (tgt := 3) dX12_isShifted_62 (by decide) ?_
        exact H
      · replace H := H.2 c8
        refine z_iconst (pc := 57) (v := (nI 1)) dX12_isShifted_57 (by decide) ?_
        exact z_iret (pc := 58) dX12_isShifted_58 rfl rfl ⟨_, rfl, H⟩

abbrev LX12_shifted_23 (l : Launch) (E : eE) (d bc bs : Nat) (x1 : Int32) (x2 : Int32) (x3 : Int32) (x4 : Int32) (h : aH) (Q : Int32 → aH → Prop) : Prop := TI l E mX12_shifted d bc bs 23 [some (.inr (some (0, 12, 63))), some (.inl x1), some (.inl x2), some (.inl x3), some (.inl x4), none, none, none] [] h Q

abbrev LX12_shifted_35 (l : Launch) (E : eE) (d bc bs : Nat) (x1 : Int32) (x2 : Int32) (x3 : Int32) (x4 : Int32) (x5 : Int32) (h : aH) (Q : Int32 → aH → Prop) : Prop := TI l E mX12_shifted d bc bs 35 [some (.inr (some (0, 12, 63))), some (.inl x1), some (.inl x2), some (.inl x3), some (.inl x4), some (.inl x5), none, none] [] h Q

abbrev LX12_shifted_45 (l : Launch) (E : eE) (d bc bs : Nat) (x1 : Int32) (x2 : Int32) (x3 : Int32) (x4 : Int32) (x5 : Int32) (x6 : Int32) (h : aH) (Q : Int32 → aH → Prop) : Prop := TI l E mX12_shifted d bc bs 45 [some (.inr (some (0, 12, 63))), some (.inl x1), some (.inl x2), some (.inl x3), some (.inl x4), some (.inl x5), some (.inl x6), none] [] h Q

set_option maxRecDepth 20000 in
theorem bX12_shifted_0 {l : Launch} {E : eE} {d bc bs : Nat} {h : aH} {Q : Int32 → aH → Prop} {x1 : Int32} {x2 : Int32} (S : SH h) (H : (CI l E d 0 0 mX12_isKnown [.inr (some (0, 12, 63)), .inl x1] h (fun v1 h1 => SH h1 ∧ ((v1 = 0 → Q (-1) h1) ∧ (¬ v1 = 0 → (CI l E d 0 0 mX12_isKnown [.inr (some (0, 12, 63)), .inl x2] h1 (fun v3 h3 => SH h3 ∧ ((¬ v3 = 0 → LX12_shifted_23 l E (d + 1) bc bs x1 x2 (nI 0) (nI 0) h3 Q) ∧ (v3 = 0 → Q (-1) h3))))))))) : CI l E (d + 1) bc bs mX12_shifted [.inr (some (0, 12, 63)), .inl x1, .inl x2] h Q := by
  refine CI.of (by decide) rfl ?_
  show TI l E mX12_shifted (d + 1) bc bs 0 [some (.inr (some (0, 12, 63))), some (.inl x1), some (.inl x2), none, none, none, none, none] [] h Q
  refine z_aload_n (pc := 0) dX12_shifted_0 rfl rfl ?_
  refine z_iload_n (pc := 1) dX12_shifted_1 rfl rfl ?_
  refine y_VI (pc := 2) (bc := bc) (bs := bs) (mc := 0) (ms := 0) (As := [.inl x1]) (rest := []) dX12_shifted_2 kX12_isKnown lX12_152 ⟨_, _, rfl⟩ rfl rfl (H.use (fun v1 h1 H => ?_))
  have S1 := H.1
  replace H := H.2
  refine z_if_eq (pc := 5) (tgt := 16) dX12_shifted_5 (by decide) (fun c2 => ?_) (fun c2 => ?_)
  · replace H := H.1 c2
    refine z_iconst (pc := 16) (v := (-1)) dX12_shifted_16 (by decide) ?_
    exact z_iret (pc := 17) dX12_shifted_17 rfl rfl ⟨_, rfl, H⟩
  · replace H := H.2 c2
    refine z_aload_n (pc := 8) dX12_shifted_8 rfl rfl ?_
    refine z_iload_n (pc := 9) dX12_shifted_9 rfl rfl ?_
    refine y_VI (pc := 10) (bc := bc) (bs := bs) (mc := 0) (ms := 0) (As := [.inl x2]) (rest := []) dX12_shifted_10 kX12_isKnown lX12_152 ⟨_, _, rfl⟩ rfl rfl (H.use (fun v3 h3 H => ?_))
    have S3 := H.1
    replace H := H.2
    refine z_if_ne (pc := 13) (tgt := 18) dX12_shifted_13 (by decide) (fun c4 => ?_) (fun c4 => ?_)
    · replace H := H.1 c4
      refine z_iconst (pc := 18) (v := (nI 0)) dX12_shifted_18 (by decide) ?_
      refine z_istore_n (pc := 19) (ls' := [some (.inr (some (0, 12, 63))), some (.inl x1), some (.inl x2), some (.inl (nI 0)), none, none, none, none]) dX12_shifted_19 rfl rfl rfl ?_
      refine z_iconst (pc := 20) (v := (nI 0)) dX12_shifted_20 (by decide) ?_
      refine z_istore (pc := 21) (ls' := [some (.inr (some (0, 12, 63))), some (.inl x1), some (.inl x2), some (.inl (nI 0)), some (.inl (nI 0)), none, none, none]) dX12_shifted_21 rfl rfl ?_
      exact H
    · replace H := H.2 c4
      refine z_iconst (pc := 16) (v := (-1)) dX12_shifted_16 (by decide) ?_
      exact z_iret (pc := 17) dX12_shifted_17 rfl rfl ⟨_, rfl, H⟩

set_option maxRecDepth 20000 in
theorem bX12_shifted_23 {l : Launch} {E : eE} {d bc bs : Nat} {h : aH} {Q : Int32 → aH → Prop} {x1 : Int32} {x2 : Int32} {x3 : Int32} {x4 : Int32} (S : SH h) (H : (((hI h 63 14) ≤ x4 → Q x3 h) ∧ (¬ (hI h 63 14) ≤ x4 → LX12_shifted_35 l E (d + 1) bc bs x1 x2 x3 x4 (nI 0) h Q))) : LX12_shifted_23 l E (d + 1) bc bs x1 x2 x3 x4 h Q := by
  refine z_iload (pc := 23) dX12_shifted_23 rfl ?_
  refine z_aload_n (pc := 25) dX12_shifted_25 rfl rfl ?_
  refine z_geti (pc := 26) dX12_shifted_26 fX12_126 rfl ?_
  refine z_icmp_ge (pc := 29) (tgt := 129) dX12_shifted_29 (by decide) (fun c1 => ?_) (fun c1 => ?_)
  · replace H := H.1 c1
    refine z_iload_n (pc := 129) dX12_shifted_129 rfl rfl ?_
    exact z_iret (pc := 130) dX12_shifted_130 rfl rfl ⟨_, rfl, H⟩
  · replace H := H.2 c1
    refine z_iconst (pc := 32) (v := (nI 0)) dX12_shifted_32 (by decide) ?_
    refine z_istore (pc := 33) (ls' := [some (.inr (some (0, 12, 63))), some (.inl x1), some (.inl x2), some (.inl x3), some (.inl x4), some (.inl (nI 0)), none, none]) dX12_shifted_33 rfl rfl ?_
    exact H

set_option maxRecDepth 20000 in
theorem bX12_shifted_35 {l : Launch} {E : eE} {d bc bs : Nat} {h : aH} {Q : Int32 → aH → Prop} {x1 : Int32} {x2 : Int32} {x3 : Int32} {x4 : Int32} {x5 : Int32} (S : SH h) (H : (((nI 52) ≤ x5 → LX12_shifted_23 l E (d + 1) bc bs x1 x2 x3 (x4 + (nI 1)) h Q) ∧ (¬ (nI 52) ≤ x5 → LX12_shifted_45 l E (d + 1) bc bs x1 x2 x3 x4 x5 (nI 0) h Q))) : LX12_shifted_35 l E (d + 1) bc bs x1 x2 x3 x4 x5 h Q := by
  refine z_iload (pc := 35) dX12_shifted_35 rfl ?_
  refine z_bipush (pc := 37) (v := (nI 52)) dX12_shifted_37 (by decide) ?_
  refine z_icmp_ge (pc := 39) (tgt := 123) dX12_shifted_39 (by decide) (fun c1 => ?_) (fun c1 => ?_)
  · replace H := H.1 c1
    refine z_iinc (pc := 123) (v := (x4 + (nI 1))) (ls' := [some (.inr (some (0, 12, 63))), some (.inl x1), some (.inl x2), some (.inl x3), some (.inl (x4 + (nI 1))), some (.inl x5), none, none]) dX12_shifted_123 rfl (by rw [show Int32.ofInt (1) = (nI 1) by decide]) rfl ?_
    refine z_goto (pc := 126) (tgt := 23) dX12_shifted_126 (by decide) ?_
    exact z_drop (ls' := [some (.inr (some (0, 12, 63))), some (.inl x1), some (.inl x2), some (.inl x3), some (.inl (x4 + (nI 1))), none, none, none]) (by simp [dropL]) H
  · replace H := H.2 c1
    refine z_iconst (pc := 42) (v := (nI 0)) dX12_shifted_42 (by decide) ?_
    refine z_istore (pc := 43) (ls' := [some (.inr (some (0, 12, 63))), some (.inl x1), some (.inl x2), some (.inl x3), some (.inl x4), some (.inl x5), some (.inl (nI 0)), none]) dX12_shifted_43 rfl rfl ?_
    exact H

set_option maxRecDepth 20000 in
theorem bX12_shifted_45 {l : Launch} {E : eE} {d bc bs : Nat} {h : aH} {Q : Int32 → aH → Prop} {x1 : Int32} {x2 : Int32} {x3 : Int32} {x4 : Int32} {x5 : Int32} {x6 : Int32} (S : SH h) (H : (((nI 2) ≤ x6 → LX12_shifted_35 l E (d + 1) bc bs x1 x2 x3 x4 (x5 + (nI 1)) h Q) ∧ (¬ (nI 2) ≤ x6 → (vp_in (((nI 2) * (((nI 52) * x4) + x5)) + x6) 416 ∧ (((hA h 80 ((((nI 2) * (((nI 52) * x4) + x5)) + x6)).toNatClampNeg) = (-1) → LX12_shifted_45 l E (d + 1) bc bs x1 x2 x3 x4 x5 (x6 + (nI 1)) h Q) ∧ (¬ (hA h 80 ((((nI 2) * (((nI 52) * x4) + x5)) + x6)).toNatClampNeg) = (-1) → (vp_in (((nI 6) * x4) + (hA h 80 ((((nI 2) * (((nI 52) * x4) + x5)) + x6)).toNatClampNeg)) 24 ∧ (CI l E d 0 0 mX12_isShifted [.inr (some (0, 12, 63)), .inl x4, .inl (((nI 336) * x5) + (hA h 78 ((((nI 6) * x4) + (hA h 80 ((((nI 2) * (((nI 52) * x4) + x5)) + x6)).toNatClampNeg))).toNatClampNeg)), .inl x1, .inl x2] h (fun v5 h5 => SH h5 ∧ ((v5 = 0 → LX12_shifted_45 l E (d + 1) bc bs x1 x2 x3 x4 x5 (x6 + (nI 1)) h5 Q) ∧ (¬ v5 = 0 → LX12_shifted_45 l E (d + 1) bc bs x1 x2 (x3 + (nI 1)) x4 x5 (x6 + (nI 1)) h5 Q))))))))))) : LX12_shifted_45 l E (d + 1) bc bs x1 x2 x3 x4 x5 x6 h Q := by
  refine z_iload (pc := 45) dX12_shifted_45 rfl ?_
  refine z_iconst (pc := 47) (v := (nI 2)) dX12_shifted_47 (by decide) ?_
  refine z_icmp_ge (pc := 48) (tgt := 117) dX12_shifted_48 (by decide) (fun c1 => ?_) (fun c1 => ?_)
  · replace H := H.1 c1
    refine z_iinc (pc := 117) (v := (x5 + (nI 1))) (ls' := [some (.inr (some (0, 12, 63))), some (.inl x1), some (.inl x2), some (.inl x3), some (.inl x4), some (.inl (x5 + (nI 1))), some (.inl x6), none]) dX12_shifted_117 rfl (by rw [show Int32.ofInt (1) = (nI 1) by decide]) rfl ?_
    refine z_goto (pc := 120) (tgt := 35) dX12_shifted_120 (by decide) ?_
    exact z_drop (ls' := [some (.inr (some (0, 12, 63))), some (.inl x1), some (.inl x2), some (.inl x3), some (.inl x4), some (.inl (x5 + (nI 1))), none, none]) (by simp [dropL]) H
  · replace H := H.2 c1
    refine z_aload_n (pc := 51) dX12_shifted_51 rfl rfl ?_
    refine z_getk (pc := 52) dX12_shifted_52 fX12_63 rfl (s_63_21 S) ?_
    refine z_iconst (pc := 55) (v := (nI 2)) dX12_shifted_55 (by decide) ?_
    refine z_bipush (pc := 56) (v := (nI 52)) dX12_shifted_56 (by decide) ?_
    refine z_iload (pc := 58) dX12_shifted_58 rfl ?_
    refine z_imul (pc := 60) dX12_shifted_60 ?_
    refine z_iload (pc := 61) dX12_shifted_61 rfl ?_
    refine z_iadd (pc := 63) dX12_shifted_63 ?_
    refine z_imul (pc := 64) dX12_shifted_64 ?_
    refine z_iload (pc := 65) dX12_shifted_65 rfl ?_
    refine z_iadd (pc := 67) dX12_shifted_67 ?_
    have c2 := H.1
    replace H := H.2
    refine z_iald (pc := 68) dX12_shifted_68 c2 ?_
    refine z_istore (pc := 69) (ls' := [some (.inr (some (0, 12, 63))), some (.inl x1), some (.inl x2), some (.inl x3), some (.inl x4), some (.inl x5), some (.inl x6), some (.inl (hA h 80 ((((nI 2) * (((nI 52) * x4) + x5)) + x6)).toNatClampNeg))]) dX12_shifted_69 rfl rfl ?_
    refine z_iload (pc := 71) dX12_shifted_71 rfl ?_
    refine z_iconst (pc := 73) (v := (-1)) dX12_shifted_73 (by decide) ?_
    refine z_icmp_eq (pc := 74) (tgt := 111) dX12_shifted_74 (by decide) (fun c3 => ?_) (fun c3 => ?_)
    · replace H := H.1 c3
      refine z_iinc (pc := 111) (v := (x6 + (nI 1))) (ls' := [some (.inr (some (0, 12, 63))), some (.inl x1), some (.inl x2), some (.inl x3), some (.inl x4), some (.inl x5), some (.inl (x6 + (nI 1))), some (.inl (hA h 80 ((((nI 2) * (((nI 52) * x4) + x5)) + x6)).toNatClampNeg))]) dX12_shifted_111 rfl (by rw [show Int32.ofInt (1) = (nI 1) by decide]) rfl ?_
      refine z_goto (pc := 114) (tgt := 45) dX12_shifted_114 (by decide) ?_
      exact z_drop (ls' := [some (.inr (some (0, 12, 63))), some (.inl x1), some (.inl x2), some (.inl x3), some (.inl x4), some (.inl x5), some (.inl (x6 + (nI 1))), none]) (by simp [dropL]) H
    · replace H := H.2 c3
      refine z_aload_n (pc := 77) dX12_shifted_77 rfl rfl ?_
      refine z_iload (pc := 78) dX12_shifted_78 rfl ?_
      refine z_sipush (pc := 80) (v := (nI 336)) dX12_shifted_80 (by decide) ?_
      refine z_iload (pc := 83) dX12_shifted_83 rfl ?_
      refine z_imul (pc := 85) dX12_shifted_85 ?_
      refine z_aload_n (pc := 86) dX12_shifted_86 rfl rfl ?_
      refine z_getk (pc := 87) dX12_shifted_87 fX12_57 rfl (s_63_19 S) ?_
      refine z_bipush (pc := 90) (v := (nI 6)) dX12_shifted_90 (by decide) ?_
      refine z_iload (pc := 92) dX12_shifted_92 rfl ?_
      refine z_imul (pc := 94) dX12_shifted_94 ?_
      refine z_iload (pc := 95) dX12_shifted_95 rfl ?_
      refine z_iadd (pc := 97) dX12_shifted_97 ?_
      have c4 := H.1
      replace H := H.2
      refine z_iald (pc := 98) dX12_shifted_98 c4 ?_
      refine z_iadd (pc := 99) dX12_shifted_99 ?_
      refine z_iload_n (pc := 100) dX12_shifted_100 rfl rfl ?_
      refine z_iload_n (pc := 101) dX12_shifted_101 rfl rfl ?_
      refine y_VI (pc := 102) (bc := bc) (bs := bs) (mc := 0) (ms := 0) (As := [.inl x4, .inl (((nI 336) * x5) + (hA h 78 ((((nI 6) * x4) + (hA h 80 ((((nI 2) * (((nI 52) * x4) + x5)) + x6)).toNatClampNeg))).toNatClampNeg)), .inl x1, .inl x2]) (rest := []) dX12_shifted_102 kX12_isShifted lX12_263 ⟨_, _, rfl⟩ rfl rfl (H.use (fun v5 h5 H => ?_))
      have S5 := H.1
      replace H := H.2
      refine z_if_eq (pc := 105) (tgt := 111) dX12_shifted_105 (by decide) (fun c6 => ?_) (fun c6 => ?_)
      · replace H := H.1 c6
        refine z_iinc (pc := 111) (v := (x6 + (nI 1))) (ls' := [some (.inr (some (0, 12, 63))), some (.inl x1), some (.inl x2), some (.inl x3), some (.inl x4), some (.inl x5), some (.inl (x6 + (nI 1))), some (.inl (hA h 80 ((((nI 2) * (((nI 52) * x4) + x5)) + x6)).toNatClampNeg))]) dX12_shifted_111 rfl (by rw [show Int32.ofInt (1) = (nI 1) by decide]) rfl ?_
        refine z_goto (pc := 114) (tgt := 45) dX12_shifted_114 (by decide) ?_
        exact z_drop (ls' := [some (.inr (some (0, 12, 63))), some (.inl x1), some (.inl x2), some (.inl x3), some (.inl x4), some (.inl x5), some (.inl (x6 + (nI 1))), none]) (by simp [dropL]) H
      · replace H := H.2 c6
        refine z_iinc (pc := 108) (v := (x3 + (nI 1))) (ls' := [some (.inr (some (0, 12, 63))), some (.inl x1), some (.inl x2), some (.inl (x3 + (nI 1))), some (.inl x4), some (.inl x5), some (.inl x6), some (.inl (hA h 80 ((((nI 2) * (((nI 52) * x4) + x5)) + x6)).toNatClampNeg))]) dX12_shifted_108 rfl (by rw [show Int32.ofInt (1) = (nI 1) by decide]) rfl ?_
        refine z_iinc (pc := 111) (v := (x6 + (nI 1))) (ls' := [some (.inr (some (0, 12, 63))), some (.inl x1), some (.inl x2), some (.inl (x3 + (nI 1))), some (.inl x4), some (.inl x5), some (.inl (x6 + (nI 1))), some (.inl (hA h 80 ((((nI 2) * (((nI 52) * x4) + x5)) + x6)).toNatClampNeg))]) dX12_shifted_111 rfl (by rw [show Int32.ofInt (1) = (nI 1) by decide]) rfl ?_
        refine z_goto (pc := 114) (tgt := 45) dX12_shifted_114 (by decide) ?_
        exact z_drop (ls' := [some (.inr (some (0, 12, 63))), some (.inl x1), some (.inl x2), some (.inl (x3 + (nI 1))), some (.inl x4), some (.inl x5), some (.inl (x6 + (nI 1))), none]) (by simp [dropL]) H

abbrev LX12_count_60 (l : Launch) (E : eE) (d bc bs : Nat) (x1 : Int32) (x2 : Int32) (x3 : Int32) (h : aH) (Q : Int32 → aH → Prop) : Prop := TI l E mX12_count d bc bs 60 [some (.inr (some (0, 12, 63))), some (.inl x1), some (.inl x2), some (.inl x3)] [] h Q

set_option maxRecDepth 20000 in
theorem bX12_count_0 {l : Launch} {E : eE} {d bc bs : Nat} {h : aH} {Q : Int32 → aH → Prop} {x1 : Int32} (S : SH h) (H : ((x1 = nI 0 → Q (hI h 63 1) h) ∧ (x1 = nI 1 → Q (hI h 63 3) h) ∧ (x1 = nI 2 → Q (hI h 63 8) h) ∧ (x1 = nI 3 → Q (hI h 63 14) h) ∧ (x1 = nI 4 → LX12_count_60 l E d bc bs x1 (nI 0) (nI 0) h Q) ∧ ((x1).toInt < 0 ∨ 4 < (x1).toInt → Q (-1) h))) : CI l E d bc bs mX12_count [.inr (some (0, 12, 63)), .inl x1] h Q := by
  refine CI.of (by decide) rfl ?_
  show TI l E mX12_count d bc bs 0 [some (.inr (some (0, 12, 63))), some (.inl x1), none, none] [] h Q
  refine z_iload_n (pc := 0) dX12_count_0 rfl rfl ?_
  refine z_table (pc := 1) (tgtD := 90) [36, 41, 46, 51, 56] dX12_count_1 (by decide) (by decide) (by decide) ?_ (fun c1 => ?_)
  · refine And.intro (fun c1 => ?_) (And.intro (fun c1 => ?_) (And.intro (fun c1 => ?_) (And.intro (fun c1 => ?_) (And.intro (fun c1 => ?_) (trivial)))))
    · replace H := H.1 c1
      refine z_aload_n (pc := 36) dX12_count_36 rfl rfl ?_
      refine z_geti (pc := 37) dX12_count_37 fX12_120 rfl ?_
      exact z_iret (pc := 40) dX12_count_40 rfl rfl ⟨_, rfl, H⟩
    · replace H := H.2.1 c1
      refine z_aload_n (pc := 41) dX12_count_41 rfl rfl ?_
      refine z_geti (pc := 42) dX12_count_42 fX12_123 rfl ?_
      exact z_iret (pc := 45) dX12_count_45 rfl rfl ⟨_, rfl, H⟩
    · replace H := H.2.2.1 c1
      refine z_aload_n (pc := 46) dX12_count_46 rfl rfl ?_
      refine z_geti (pc := 47) dX12_count_47 fX12_129 rfl ?_
      exact z_iret (pc := 50) dX12_count_50 rfl rfl ⟨_, rfl, H⟩
    · replace H := H.2.2.2.1 c1
      refine z_aload_n (pc := 51) dX12_count_51 rfl rfl ?_
      refine z_geti (pc := 52) dX12_count_52 fX12_126 rfl ?_
      exact z_iret (pc := 55) dX12_count_55 rfl rfl ⟨_, rfl, H⟩
    · replace H := H.2.2.2.2.1 c1
      refine z_iconst (pc := 56) (v := (nI 0)) dX12_count_56 (by decide) ?_
      refine z_istore_n (pc := 57) (ls' := [some (.inr (some (0, 12, 63))), some (.inl x1), some (.inl (nI 0)), none]) dX12_count_57 rfl rfl rfl ?_
      refine z_iconst (pc := 58) (v := (nI 0)) dX12_count_58 (by decide) ?_
      refine z_istore_n (pc := 59) (ls' := [some (.inr (some (0, 12, 63))), some (.inl x1), some (.inl (nI 0)), some (.inl (nI 0))]) dX12_count_59 rfl rfl rfl ?_
      exact H
  · replace H := H.2.2.2.2.2 c1
    refine z_iconst (pc := 90) (v := (-1)) dX12_count_90 (by decide) ?_
    exact z_iret (pc := 91) dX12_count_91 rfl rfl ⟨_, rfl, H⟩

set_option maxRecDepth 20000 in
theorem bX12_count_60 {l : Launch} {E : eE} {d bc bs : Nat} {h : aH} {Q : Int32 → aH → Prop} {x1 : Int32} {x2 : Int32} {x3 : Int32} (S : SH h) (H : (((nI 208) ≤ x3 → Q x2 h) ∧ (¬ (nI 208) ≤ x3 → (vp_in ((nI 2) * x3) 416 ∧ (((hA h 80 (((nI 2) * x3)).toNatClampNeg) = (-1) → LX12_count_60 l E d bc bs x1 x2 (x3 + (nI 1)) h Q) ∧ (¬ (hA h 80 (((nI 2) * x3)).toNatClampNeg) = (-1) → LX12_count_60 l E d bc bs x1 (x2 + (nI 1)) (x3 + (nI 1)) h Q)))))) : LX12_count_60 l E d bc bs x1 x2 x3 h Q := by
  refine z_iload_n (pc := 60) dX12_count_60 rfl rfl ?_
  refine z_sipush (pc := 61) (v := (nI 208)) dX12_count_61 (by decide) ?_
  refine z_icmp_ge (pc := 64) (tgt := 88) dX12_count_64 (by decide) (fun c1 => ?_) (fun c1 => ?_)
  · replace H := H.1 c1
    refine z_iload_n (pc := 88) dX12_count_88 rfl rfl ?_
    exact z_iret (pc := 89) dX12_count_89 rfl rfl ⟨_, rfl, H⟩
  · replace H := H.2 c1
    refine z_aload_n (pc := 67) dX12_count_67 rfl rfl ?_
    refine z_getk (pc := 68) dX12_count_68 fX12_63 rfl (s_63_21 S) ?_
    refine z_iconst (pc := 71) (v := (nI 2)) dX12_count_71 (by decide) ?_
    refine z_iload_n (pc := 72) dX12_count_72 rfl rfl ?_
    refine z_imul (pc := 73) dX12_count_73 ?_
    have c2 := H.1
    replace H := H.2
    refine z_iald (pc := 74) dX12_count_74 c2 ?_
    refine z_iconst (pc := 75) (v := (-1)) dX12_count_75 (by decide) ?_
    refine z_icmp_eq (pc := 76) (tgt := 82) dX12_count_76 (by decide) (fun c3 => ?_) (fun c3 => ?_)
    · replace H := H.1 c3
      refine z_iinc (pc := 82) (v := (x3 + (nI 1))) (ls' := [some (.inr (some (0, 12, 63))), some (.inl x1), some (.inl x2), some (.inl (x3 + (nI 1)))]) dX12_count_82 rfl (by rw [show Int32.ofInt (1) = (nI 1) by decide]) rfl ?_
      refine z_goto (pc := 85) (tgt := 60) dX12_count_85 (by decide) ?_
      exact H
    · replace H := H.2 c3
      refine z_iinc (pc := 79) (v := (x2 + (nI 1))) (ls' := [some (.inr (some (0, 12, 63))), some (.inl x1), some (.inl (x2 + (nI 1))), some (.inl x3)]) dX12_count_79 rfl (by rw [show Int32.ofInt (1) = (nI 1) by decide]) rfl ?_
      refine z_iinc (pc := 82) (v := (x3 + (nI 1))) (ls' := [some (.inr (some (0, 12, 63))), some (.inl x1), some (.inl (x2 + (nI 1))), some (.inl (x3 + (nI 1)))]) dX12_count_82 rfl (by rw [show Int32.ofInt (1) = (nI 1) by decide]) rfl ?_
      refine z_goto (pc := 85) (tgt := 60) dX12_count_85 (by decide) ?_
      exact H
