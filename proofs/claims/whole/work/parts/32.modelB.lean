set_option maxRecDepth 20000 in
theorem bX12_isIn_0 {l : Launch} {E : eE} {d bc bs : Nat} {h : aH} {Q : Int32 → aH → Prop} {x1 : Int32} {x2 : Int32} (S : SH h) (H : ((vp_in x1 4 ∧ vp_in x2 6) ∧ (vp_in x1 4 ∧ (((nI 17472) < ((rSlot h x1 x2) + (hA h 74 (x1).toNatClampNeg)) → Q (nI 0) h) ∧ (¬ (nI 17472) < ((rSlot h x1 x2) + (hA h 74 (x1).toNatClampNeg)) → Q (nI 1) h))))) : CI l E (d + 1) bc bs mX12_isIn [.inr (some (0, 12, 63)), .inl x1, .inl x2] h Q := by
  refine CI.of (by decide) rfl ?_
  show TI l E mX12_isIn (d + 1) bc bs 0 [some (.inr (some (0, 12, 63))), some (.inl x1), some (.inl x2)] [] h Q
  refine z_aload_n (pc := 0) dX12_isIn_0 rfl rfl ?_
  refine z_iload_n (pc := 1) dX12_isIn_1 rfl rfl ?_
  refine z_iload_n (pc := 2) dX12_isIn_2 rfl rfl ?_
  have c1 := H.1
  replace H := H.2
  refine y_VI (pc := 3) (bc := bc) (bs := bs) (mc := 0) (ms := 0) (As := [.inl x1, .inl x2]) (rest := []) dX12_isIn_3 kX12_slotOf lX12_184 ⟨_, _, rfl⟩ rfl rfl (c_slotOf S c1 ?_)
  refine z_aload_n (pc := 6) dX12_isIn_6 rfl rfl ?_
  refine z_getk (pc := 7) dX12_isIn_7 fX12_45 rfl (s_63_15 S) ?_
  refine z_iload_n (pc := 10) dX12_isIn_10 rfl rfl ?_
  have c2 := H.1
  replace H := H.2
  refine z_iald (pc := 11) dX12_isIn_11 c2 ?_
  refine z_iadd (pc := 12) dX12_isIn_12 ?_
  refine z_sipush (pc := 13) (v := (nI 17472)) dX12_isIn_13 (by decide) ?_
  refine z_icmp_gt (pc := 16) (tgt := 23) dX12_isIn_16 (by decide) (fun c3 => ?_) (fun c3 => ?_)
  · replace H := H.1 c3
    refine z_iconst (pc := 23) (v := (nI 0)) dX12_isIn_23 (by decide) ?_
    exact z_iret (pc := 24) dX12_isIn_24 rfl rfl ⟨_, rfl, H⟩
  · replace H := H.2 c3
    refine z_iconst (pc := 19) (v := (nI 1)) dX12_isIn_19 (by decide) ?_
    refine z_goto (pc := 20) (tgt := 24) dX12_isIn_20 (by decide) ?_
    exact z_iret (pc := 24) dX12_isIn_24 rfl rfl ⟨_, rfl, H⟩

set_option maxRecDepth 20000 in
theorem bX12_meet_0 {l : Launch} {E : eE} {d bc bs : Nat} {h : aH} {Q : Int32 → aH → Prop} {x1 : Int32} {x2 : Int32} {x3 : Int32} {x4 : Int32} (S : SH h) (H : ((vp_in x1 4 ∧ vp_in x2 6) ∧ ((vp_in x3 4 ∧ vp_in x4 6) ∧ (vp_in x3 4 ∧ ((((rSlot h x3 x4) + (hA h 74 (x3).toNatClampNeg)) ≤ (rSlot h x1 x2) → Q (nI 0) h) ∧ (¬ ((rSlot h x3 x4) + (hA h 74 (x3).toNatClampNeg)) ≤ (rSlot h x1 x2) → (vp_in x1 4 ∧ ((((rSlot h x1 x2) + (hA h 74 (x1).toNatClampNeg)) ≤ (rSlot h x3 x4) → Q (nI 0) h) ∧ (¬ ((rSlot h x1 x2) + (hA h 74 (x1).toNatClampNeg)) ≤ (rSlot h x3 x4) → Q (nI 1) h))))))))) : CI l E (d + 1) bc bs mX12_meet [.inr (some (0, 12, 63)), .inl x1, .inl x2, .inl x3, .inl x4] h Q := by
  refine CI.of (by decide) rfl ?_
  show TI l E mX12_meet (d + 1) bc bs 0 [some (.inr (some (0, 12, 63))), some (.inl x1), some (.inl x2), some (.inl x3), some (.inl x4), none, none] [] h Q
  refine z_aload_n (pc := 0) dX12_meet_0 rfl rfl ?_
  refine z_iload_n (pc := 1) dX12_meet_1 rfl rfl ?_
  refine z_iload_n (pc := 2) dX12_meet_2 rfl rfl ?_
  have c1 := H.1
  replace H := H.2
  refine y_VI (pc := 3) (bc := bc) (bs := bs) (mc := 0) (ms := 0) (As := [.inl x1, .inl x2]) (rest := []) dX12_meet_3 kX12_slotOf lX12_184 ⟨_, _, rfl⟩ rfl rfl (c_slotOf S c1 ?_)
  refine z_istore (pc := 6) (ls' := [some (.inr (some (0, 12, 63))), some (.inl x1), some (.inl x2), some (.inl x3), some (.inl x4), some (.inl (rSlot h x1 x2)), none]) dX12_meet_6 rfl rfl ?_
  refine z_aload_n (pc := 8) dX12_meet_8 rfl rfl ?_
  refine z_iload_n (pc := 9) dX12_meet_9 rfl rfl ?_
  refine z_iload (pc := 10) dX12_meet_10 rfl ?_
  have c2 := H.1
  replace H := H.2
  refine y_VI (pc := 12) (bc := bc) (bs := bs) (mc := 0) (ms := 0) (As := [.inl x3, .inl x4]) (rest := []) dX12_meet_12 kX12_slotOf lX12_184 ⟨_, _, rfl⟩ rfl rfl (c_slotOf S c2 ?_)
  refine z_istore (pc := 15) (ls' := [some (.inr (some (0, 12, 63))), some (.inl x1), some (.inl x2), some (.inl x3), some (.inl x4), some (.inl (rSlot h x1 x2)), some (.inl (rSlot h x3 x4))]) dX12_meet_15 rfl rfl ?_
  refine z_iload (pc := 17) dX12_meet_17 rfl ?_
  refine z_iload (pc := 19) dX12_meet_19 rfl ?_
  refine z_aload_n (pc := 21) dX12_meet_21 rfl rfl ?_
  refine z_getk (pc := 22) dX12_meet_22 fX12_45 rfl (s_63_15 S) ?_
  refine z_iload_n (pc := 25) dX12_meet_25 rfl rfl ?_
  have c3 := H.1
  replace H := H.2
  refine z_iald (pc := 26) dX12_meet_26 c3 ?_
  refine z_iadd (pc := 27) dX12_meet_27 ?_
  refine z_icmp_ge (pc := 28) (tgt := 49) dX12_meet_28 (by decide) (fun c4 => ?_) (fun c4 => ?_)
  · replace H := H.1 c4
    refine z_iconst (pc := 49) (v := (nI 0)) dX12_meet_49 (by decide) ?_
    exact z_iret (pc := 50) dX12_meet_50 rfl rfl ⟨_, rfl, H⟩
  · replace H := H.2 c4
    refine z_iload (pc := 31) dX12_meet_31 rfl ?_
    refine z_iload (pc := 33) dX12_meet_33 rfl ?_
    refine z_aload_n (pc := 35) dX12_meet_35 rfl rfl ?_
    refine z_getk (pc := 36) dX12_meet_36 fX12_45 rfl (s_63_15 S) ?_
    refine z_iload_n (pc := 39) dX12_meet_39 rfl rfl ?_
    have c5 := H.1
    replace H := H.2
    refine z_iald (pc := 40) dX12_meet_40 c5 ?_
    refine z_iadd (pc := 41) dX12_meet_41 ?_
    refine z_icmp_ge (pc := 42) (tgt := 49) dX12_meet_42 (by decide) (fun c6 => ?_) (fun c6 => ?_)
    · replace H := H.1 c6
      refine z_iconst (pc := 49) (v := (nI 0)) dX12_meet_49 (by decide) ?_
      exact z_iret (pc := 50) dX12_meet_50 rfl rfl ⟨_, rfl, H⟩
    · replace H := H.2 c6
      refine z_iconst (pc := 45) (v := (nI 1)) dX12_meet_45 (by decide) ?_
      refine z_goto (pc := 46) (tgt := 50) dX12_meet_46 (by decide) ?_
      exact z_iret (pc := 50) dX12_meet_50 rfl rfl ⟨_, rfl, H⟩

set_option maxRecDepth 20000 in
theorem bX12_land_0 {l : Launch} {E : eE} {d bc bs : Nat} {h : aH} {Q : Int32 → aH → Prop} {x1 : Int32} (S : SR h) (H : (((hI h 63 1) = (nI 8) → Q (-1) h) ∧ (¬ (hI h 63 1) = (nI 8) → (((-24 ≤ (x1).toInt ∧ (x1).toInt ≤ 28) → (vp_in (hI h 63 1) 8 ∧ Q (((hI h 63 1) + (nI 1)) - (nI 1)) (stI (stA h 64 ((hI h 63 1)).toNatClampNeg x1) 63 1 ((hI h 63 1) + (nI 1))))) ∧ (¬ (-24 ≤ (x1).toInt ∧ (x1).toInt ≤ 28) → Q (-1) h))))) : CI l E (d + 1) bc bs mX12_land [.inr (some (0, 12, 63)), .inl x1] h Q := by
  refine CI.of (by decide) rfl ?_
  show TI l E mX12_land (d + 1) bc bs 0 [some (.inr (some (0, 12, 63))), some (.inl x1)] [] h Q
  refine z_aload_n (pc := 0) dX12_land_0 rfl rfl ?_
  refine z_geti (pc := 1) dX12_land_1 fX12_120 rfl ?_
  refine z_bipush (pc := 4) (v := (nI 8)) dX12_land_4 (by decide) ?_
  refine z_icmp_eq (pc := 6) (tgt := 16) dX12_land_6 (by decide) (fun c1 => ?_) (fun c1 => ?_)
  · replace H := H.1 c1
    refine z_iconst (pc := 16) (v := (-1)) dX12_land_16 (by decide) ?_
    exact z_iret (pc := 17) dX12_land_17 rfl rfl ⟨_, rfl, H⟩
  · replace H := H.2 c1
    refine z_iload_n (pc := 9) dX12_land_9 rfl rfl ?_
    refine y_SI (pc := 10) (bc := bc) (bs := bs) (mc := 0) (ms := 0) (As := [.inl x1]) (rest := []) dX12_land_10 kX12_isOffset lX12_132 rfl rfl (c_isOffset S.1 ?_)
    refine z_if_ne (pc := 13) (tgt := 18) dX12_land_13 (by decide) (fun c2 => ?_) (fun c2 => ?_)
    · replace H := H.1 (bI1.mp c2)
      refine z_aload_n (pc := 18) dX12_land_18 rfl rfl ?_
      refine z_getk (pc := 19) dX12_land_19 fX12_13 rfl (s_63_2 S.1) ?_
      refine z_aload_n (pc := 22) dX12_land_22 rfl rfl ?_
      refine z_geti (pc := 23) dX12_land_23 fX12_120 rfl ?_
      refine z_iload_n (pc := 26) dX12_land_26 rfl rfl ?_
      have c3 := H.1
      replace H := H.2
      refine z_iast (pc := 27) dX12_land_27 c3 ?_
      refine z_aload_n (pc := 28) dX12_land_28 rfl rfl ?_
      refine z_dup (pc := 29) dX12_land_29 ?_
      refine z_geti (pc := 30) dX12_land_30 fX12_120 rfl ?_
      refine z_iconst (pc := 33) (v := (nI 1)) dX12_land_33 (by decide) ?_
      refine z_iadd (pc := 34) dX12_land_34 ?_
      refine z_puti (pc := 35) dX12_land_35 fX12_120 (uX12_1 _) rfl rfl rfl ?_
      refine z_aload_n (pc := 38) dX12_land_38 rfl rfl ?_
      refine z_geti (pc := 39) dX12_land_39 fX12_120 rfl ?_
      refine z_iconst (pc := 42) (v := (nI 1)) dX12_land_42 (by decide) ?_
      refine z_isub (pc := 43) dX12_land_43 ?_
      exact z_iret (pc := 44) dX12_land_44 rfl rfl ⟨_, rfl, H⟩
    · replace H := H.2 (bI0.mp c2)
      refine z_iconst (pc := 16) (v := (-1)) dX12_land_16 (by decide) ?_
      exact z_iret (pc := 17) dX12_land_17 rfl rfl ⟨_, rfl, H⟩

set_option maxRecDepth 20000 in
theorem bX12_person_0 {l : Launch} {E : eE} {d bc bs : Nat} {h : aH} {Q : Int32 → aH → Prop} {x1 : Int32} {x2 : Int32} (S : SR h) (H : (((hI h 63 3) = (nI 12) → Q (-1) h) ∧ (¬ (hI h 63 3) = (nI 12) → ((¬ (inI x1 (hI h 63 1)) → Q (-1) h) ∧ ((inI x1 (hI h 63 1)) → ((x2 < 0 → Q (-1) h) ∧ (¬ x2 < 0 → ((x2 ≤ (nI 127) → (vp_in (hI h 63 3) 12 ∧ Q (((hI h 63 3) + (nI 1)) - (nI 1)) (stI (stA (stA (stA h 65 ((hI h 63 3)).toNatClampNeg x1) 66 ((hI h 63 3)).toNatClampNeg x2) 67 ((hI h 63 3)).toNatClampNeg (-1)) 63 3 ((hI h 63 3) + (nI 1))))) ∧ (¬ x2 ≤ (nI 127) → Q (-1) h))))))))) : CI l E (d + 1) bc bs mX12_person [.inr (some (0, 12, 63)), .inl x1, .inl x2] h Q := by
  refine CI.of (by decide) rfl ?_
  show TI l E mX12_person (d + 1) bc bs 0 [some (.inr (some (0, 12, 63))), some (.inl x1), some (.inl x2)] [] h Q
  refine z_aload_n (pc := 0) dX12_person_0 rfl rfl ?_
  refine z_geti (pc := 1) dX12_person_1 fX12_123 rfl ?_
  refine z_bipush (pc := 4) (v := (nI 12)) dX12_person_4 (by decide) ?_
  refine z_icmp_eq (pc := 6) (tgt := 27) dX12_person_6 (by decide) (fun c1 => ?_) (fun c1 => ?_)
  · replace H := H.1 c1
    refine z_iconst (pc := 27) (v := (-1)) dX12_person_27 (by decide) ?_
    exact z_iret (pc := 28) dX12_person_28 rfl rfl ⟨_, rfl, H⟩
  · replace H := H.2 c1
    refine z_aload_n (pc := 9) dX12_person_9 rfl rfl ?_
    refine z_iload_n (pc := 10) dX12_person_10 rfl rfl ?_
    refine y_VI (pc := 11) (bc := bc) (bs := bs) (mc := 0) (ms := 0) (As := [.inl x1]) (rest := []) dX12_person_11 kX12_isLand lX12_136 ⟨_, _, rfl⟩ rfl rfl (c_isLand S.1 ?_)
    refine z_if_eq (pc := 14) (tgt := 27) dX12_person_14 (by decide) (fun c2 => ?_) (fun c2 => ?_)
    · replace H := H.1 (bI0.mp c2)
      refine z_iconst (pc := 27) (v := (-1)) dX12_person_27 (by decide) ?_
      exact z_iret (pc := 28) dX12_person_28 rfl rfl ⟨_, rfl, H⟩
    · replace H := H.2 (bI1.mp c2)
      refine z_iload_n (pc := 17) dX12_person_17 rfl rfl ?_
      refine z_if_lt (pc := 18) (tgt := 27) dX12_person_18 (by decide) (fun c3 => ?_) (fun c3 => ?_)
      · replace H := H.1 c3
        refine z_iconst (pc := 27) (v := (-1)) dX12_person_27 (by decide) ?_
        exact z_iret (pc := 28) dX12_person_28 rfl rfl ⟨_, rfl, H⟩
      · replace H := H.2 c3
        refine z_iload_n (pc := 21) dX12_person_21 rfl rfl ?_
        refine z_bipush (pc := 22) (v := (nI 127)) dX12_person_22 (by decide) ?_
        refine z_icmp_le (pc := 24) (tgt := 29) dX12_person_24 (by decide) (fun c4 => ?_) (fun c4 => ?_)
        · replace H := H.1 c4
          refine z_aload_n (pc := 29) dX12_person_29 rfl rfl ?_
          refine z_getk (pc := 30) dX12_person_30 fX12_17 rfl (s_63_4 S.1) ?_
          refine z_aload_n (pc := 33) dX12_person_33 rfl rfl ?_
          refine z_geti (pc := 34) dX12_person_34 fX12_123 rfl ?_
          refine z_iload_n (pc := 37) dX12_person_37 rfl rfl ?_
          have c5 := H.1
          replace H := H.2
          refine z_iast (pc := 38) dX12_person_38 c5 ?_
          refine z_aload_n (pc := 39) dX12_person_39 rfl rfl ?_
          refine z_getk (pc := 40) dX12_person_40 fX12_20 rfl (s_63_5 S.1) ?_
          refine z_aload_n (pc := 43) dX12_person_43 rfl rfl ?_
          refine z_geti (pc := 44) dX12_person_44 fX12_123 rfl ?_
          refine z_iload_n (pc := 47) dX12_person_47 rfl rfl ?_
          refine z_iast (pc := 48) dX12_person_48 c5 ?_
          refine z_aload_n (pc := 49) dX12_person_49 rfl rfl ?_
          refine z_getk (pc := 50) dX12_person_50 fX12_23 rfl (s_63_6 S.1) ?_
          refine z_aload_n (pc := 53) dX12_person_53 rfl rfl ?_
          refine z_geti (pc := 54) dX12_person_54 fX12_123 rfl ?_
          refine z_iconst (pc := 57) (v := (-1)) dX12_person_57 (by decide) ?_
          refine z_iast (pc := 58) dX12_person_58 c5 ?_
          refine z_aload_n (pc := 59) dX12_person_59 rfl rfl ?_
          refine z_dup (pc := 60) dX12_person_60 ?_
          refine z_geti (pc := 61) dX12_person_61 fX12_123 rfl ?_
          refine z_iconst (pc := 64) (v := (nI 1)) dX12_person_64 (by decide) ?_
          refine z_iadd (pc := 65) dX12_person_65 ?_
          refine z_puti (pc := 66) dX12_person_66 fX12_123 (uX12_3 _) rfl rfl rfl ?_
          refine z_aload_n (pc := 69) dX12_person_69 rfl rfl ?_
          refine z_geti (pc := 70) dX12_person_70 fX12_123 rfl ?_
          refine z_iconst (pc := 73) (v := (nI 1)) dX12_person_73 (by decide) ?_
          refine z_isub (pc := 74) dX12_person_74 ?_
          exact z_iret (pc := 75) dX12_person_75 rfl rfl ⟨_, rfl, H⟩
        · replace H := H.2 c4
          refine z_iconst (pc := 27) (v := (-1)) dX12_person_27 (by decide) ?_
          exact z_iret (pc := 28) dX12_person_28 rfl rfl ⟨_, rfl, H⟩

abbrev LX12_row_35 (l : Launch) (E : eE) (d bc bs : Nat) (x1 : Int32) (x2 : Int32) (x3 : Int32) (h : aH) (Q : Int32 → aH → Prop) : Prop := TI l E mX12_row d bc bs 35 [some (.inr (some (0, 12, 63))), some (.inl x1), some (.inl x2), some (.inl x3)] [] h Q

set_option maxRecDepth 20000 in
theorem bX12_row_0 {l : Launch} {E : eE} {d bc bs : Nat} {h : aH} {Q : Int32 → aH → Prop} {x1 : Int32} {x2 : Int32} (S : SH h) (H : ((¬ (inI x1 (hI h 63 3)) → Q (nI 0) h) ∧ ((inI x1 (hI h 63 3)) → ((x2 = (-1) → (vp_in x1 12 ∧ LX12_row_35 l E (d + 1) bc bs x1 x2 (nI 0) (stA h 67 (x1).toNatClampNeg x2) Q)) ∧ (¬ x2 = (-1) → ((x2 < (nI 1) → Q (nI 0) h) ∧ (¬ x2 < (nI 1) → ((x2 ≤ (nI 48) → (vp_in x1 12 ∧ LX12_row_35 l E (d + 1) bc bs x1 x2 (nI 0) (stA h 67 (x1).toNatClampNeg x2) Q)) ∧ (¬ x2 ≤ (nI 48) → Q (nI 0) h))))))))) : CI l E (d + 1) bc bs mX12_row [.inr (some (0, 12, 63)), .inl x1, .inl x2] h Q := by
  refine CI.of (by decide) rfl ?_
  show TI l E mX12_row (d + 1) bc bs 0 [some (.inr (some (0, 12, 63))), some (.inl x1), some (.inl x2), none] [] h Q
  refine z_aload_n (pc := 0) dX12_row_0 rfl rfl ?_
  refine z_iload_n (pc := 1) dX12_row_1 rfl rfl ?_
  refine y_VI (pc := 2) (bc := bc) (bs := bs) (mc := 0) (ms := 0) (As := [.inl x1]) (rest := []) dX12_row_2 kX12_isPerson lX12_139 ⟨_, _, rfl⟩ rfl rfl (c_isPerson S ?_)
  refine z_if_eq (pc := 5) (tgt := 24) dX12_row_5 (by decide) (fun c1 => ?_) (fun c1 => ?_)
  · replace H := H.1 (bI0.mp c1)
    refine z_iconst (pc := 24) (v := (nI 0)) dX12_row_24 (by decide) ?_
    exact z_iret (pc := 25) dX12_row_25 rfl rfl ⟨_, rfl, H⟩
  · replace H := H.2 (bI1.mp c1)
    refine z_iload_n (pc := 8) dX12_row_8 rfl rfl ?_
    refine z_iconst (pc := 9) (v := (-1)) dX12_row_9 (by decide) ?_
    refine z_icmp_eq (pc := 10) (tgt := 26) dX12_row_10 (by decide) (fun c2 => ?_) (fun c2 => ?_)
    · replace H := H.1 c2
      refine z_aload_n (pc := 26) dX12_row_26 rfl rfl ?_
      refine z_getk (pc := 27) dX12_row_27 fX12_23 rfl (s_63_6 S) ?_
      refine z_iload_n (pc := 30) dX12_row_30 rfl rfl ?_
      refine z_iload_n (pc := 31) dX12_row_31 rfl rfl ?_
      have c3 := H.1
      replace H := H.2
      refine z_iast (pc := 32) dX12_row_32 c3 ?_
      refine z_iconst (pc := 33) (v := (nI 0)) dX12_row_33 (by decide) ?_
      refine z_istore_n (pc := 34) (ls' := [some (.inr (some (0, 12, 63))), some (.inl x1), some (.inl x2), some (.inl (nI 0))]) dX12_row_34 rfl rfl rfl ?_
      exact H
    · replace H := H.2 c2
      refine z_iload_n (pc := 13) dX12_row_13 rfl rfl ?_
      refine z_iconst (pc := 14) (v := (nI 1)) dX12_row_14 (by decide) ?_
      refine z_icmp_lt (pc := 15) (tgt := 24) dX12_row_15 (by decide) (fun c4 => ?_) (fun c4 => ?_)
      · replace H := H.1 c4
        refine z_iconst (pc := 24) (v := (nI 0)) dX12_row_24 (by decide) ?_
        exact z_iret (pc := 25) dX12_row_25 rfl rfl ⟨_, rfl, H⟩
      · replace H := H.2 c4
        refine z_iload_n (pc := 18) dX12_row_18 rfl rfl ?_
        refine z_bipush (pc := 19) (v := (nI 48)) dX12_row_19 (by decide) ?_
        refine z_icmp_le (pc := 21) (tgt := 26) dX12_row_21 (by decide) (fun c5 => ?_) (fun c5 => ?_)
        · replace H := H.1 c5
          refine z_aload_n (pc := 26) dX12_row_26 rfl rfl ?_
          refine z_getk (pc := 27) dX12_row_27 fX12_23 rfl (s_63_6 S) ?_
          refine z_iload_n (pc := 30) dX12_row_30 rfl rfl ?_
          refine z_iload_n (pc := 31) dX12_row_31 rfl rfl ?_
          have c6 := H.1
          replace H := H.2
          refine z_iast (pc := 32) dX12_row_32 c6 ?_
          refine z_iconst (pc := 33) (v := (nI 0)) dX12_row_33 (by decide) ?_
          refine z_istore_n (pc := 34) (ls' := [some (.inr (some (0, 12, 63))), some (.inl x1), some (.inl x2), some (.inl (nI 0))]) dX12_row_34 rfl rfl rfl ?_
          exact H
        · replace H := H.2 c5
          refine z_iconst (pc := 24) (v := (nI 0)) dX12_row_24 (by decide) ?_
          exact z_iret (pc := 25) dX12_row_25 rfl rfl ⟨_, rfl, H⟩

set_option maxRecDepth 20000 in
theorem bX12_row_35 {l : Launch} {E : eE} {d bc bs : Nat} {h : aH} {Q : Int32 → aH → Prop} {x1 : Int32} {x2 : Int32} {x3 : Int32} (S : SH h) (H : (((nI 48) ≤ x3 → Q (nI 1) h) ∧ (¬ (nI 48) ≤ x3 → (vp_in (((nI 48) * x1) + x3) 576 ∧ LX12_row_35 l E (d + 1) bc bs x1 x2 (x3 + (nI 1)) (stA h 68 ((((nI 48) * x1) + x3)).toNatClampNeg (nI 0)) Q)))) : LX12_row_35 l E (d + 1) bc bs x1 x2 x3 h Q := by
  refine z_iload_n (pc := 35) dX12_row_35 rfl rfl ?_
  refine z_bipush (pc := 36) (v := (nI 48)) dX12_row_36 (by decide) ?_
  refine z_icmp_ge (pc := 38) (tgt := 59) dX12_row_38 (by decide) (fun c1 => ?_) (fun c1 => ?_)
  · replace H := H.1 c1
    refine z_iconst (pc := 59) (v := (nI 1)) dX12_row_59 (by decide) ?_
    exact z_iret (pc := 60) dX12_row_60 rfl rfl ⟨_, rfl, H⟩
  · replace H := H.2 c1
    refine z_aload_n (pc := 41) dX12_row_41 rfl rfl ?_
    refine z_getk (pc := 42) dX12_row_42 fX12_26 rfl (s_63_7 S) ?_
    refine z_bipush (pc := 45) (v := (nI 48)) dX12_row_45 (by decide) ?_
    refine z_iload_n (pc := 47) dX12_row_47 rfl rfl ?_
    refine z_imul (pc := 48) dX12_row_48 ?_
    refine z_iload_n (pc := 49) dX12_row_49 rfl rfl ?_
    refine z_iadd (pc := 50) dX12_row_50 ?_
    refine z_iconst (pc := 51) (v := (nI 0)) dX12_row_51 (by decide) ?_
    have c2 := H.1
    replace H := H.2
    refine z_iast (pc := 52) dX12_row_52 c2 ?_
    refine z_iinc (pc := 53) (v := (x3 + (nI 1))) (ls' := [some (.inr (some (0, 12, 63))), some (.inl x1), some (.inl x2), some (.inl (x3 + (nI 1)))]) dX12_row_53 rfl (by rw [show Int32.ofInt (1) = (nI 1) by decide]) rfl ?_
    refine z_goto (pc := 56) (tgt := 35) dX12_row_56 (by decide) ?_
    exact H

set_option maxRecDepth 20000 in
theorem bX12_cell_0 {l : Launch} {E : eE} {d bc bs : Nat} {h : aH} {Q : Int32 → aH → Prop} {x1 : Int32} {x2 : Int32} {x3 : Int32} (S : SH h) (H : ((¬ (inI x1 (hI h 63 3)) → Q (nI 0) h) ∧ ((inI x1 (hI h 63 3)) → ((x2 < 0 → Q (nI 0) h) ∧ (¬ x2 < 0 → (vp_in x1 12 ∧ (((hA h 67 (x1).toNatClampNeg) ≤ x2 → Q (nI 0) h) ∧ (¬ (hA h 67 (x1).toNatClampNeg) ≤ x2 → ((x3 < (-1) → Q (nI 0) h) ∧ (¬ x3 < (-1) → ((x3 ≤ (nI 100) → (vp_in (((nI 48) * x1) + x2) 576 ∧ Q (nI 1) (stA h 68 ((((nI 48) * x1) + x2)).toNatClampNeg x3))) ∧ (¬ x3 ≤ (nI 100) → Q (nI 0) h)))))))))))) : CI l E (d + 1) bc bs mX12_cell [.inr (some (0, 12, 63)), .inl x1, .inl x2, .inl x3] h Q := by
  refine CI.of (by decide) rfl ?_
  show TI l E mX12_cell (d + 1) bc bs 0 [some (.inr (some (0, 12, 63))), some (.inl x1), some (.inl x2), some (.inl x3)] [] h Q
  refine z_aload_n (pc := 0) dX12_cell_0 rfl rfl ?_
  refine z_iload_n (pc := 1) dX12_cell_1 rfl rfl ?_
  refine y_VI (pc := 2) (bc := bc) (bs := bs) (mc := 0) (ms := 0) (As := [.inl x1]) (rest := []) dX12_cell_2 kX12_isPerson lX12_139 ⟨_, _, rfl⟩ rfl rfl (c_isPerson S ?_)
  refine z_if_eq (pc := 5) (tgt := 33) dX12_cell_5 (by decide) (fun c1 => ?_) (fun c1 => ?_)
  · replace H := H.1 (bI0.mp c1)
    refine z_iconst (pc := 33) (v := (nI 0)) dX12_cell_33 (by decide) ?_
    exact z_iret (pc := 34) dX12_cell_34 rfl rfl ⟨_, rfl, H⟩
  · replace H := H.2 (bI1.mp c1)
    refine z_iload_n (pc := 8) dX12_cell_8 rfl rfl ?_
    refine z_if_lt (pc := 9) (tgt := 33) dX12_cell_9 (by decide) (fun c2 => ?_) (fun c2 => ?_)
    · replace H := H.1 c2
      refine z_iconst (pc := 33) (v := (nI 0)) dX12_cell_33 (by decide) ?_
      exact z_iret (pc := 34) dX12_cell_34 rfl rfl ⟨_, rfl, H⟩
    · replace H := H.2 c2
      refine z_iload_n (pc := 12) dX12_cell_12 rfl rfl ?_
      refine z_aload_n (pc := 13) dX12_cell_13 rfl rfl ?_
      refine z_getk (pc := 14) dX12_cell_14 fX12_23 rfl (s_63_6 S) ?_
      refine z_iload_n (pc := 17) dX12_cell_17 rfl rfl ?_
      have c3 := H.1
      replace H := H.2
      refine z_iald (pc := 18) dX12_cell_18 c3 ?_
      refine z_icmp_ge (pc := 19) (tgt := 33) dX12_cell_19 (by decide) (fun c4 => ?_) (fun c4 => ?_)
      · replace H := H.1 c4
        refine z_iconst (pc := 33) (v := (nI 0)) dX12_cell_33 (by decide) ?_
        exact z_iret (pc := 34) dX12_cell_34 rfl rfl ⟨_, rfl, H⟩
      · replace H := H.2 c4
        refine z_iload_n (pc := 22) dX12_cell_22 rfl rfl ?_
        refine z_iconst (pc := 23) (v := (-1)) dX12_cell_23 (by decide) ?_
        refine z_icmp_lt (pc := 24) (tgt := 33) dX12_cell_24 (by decide) (fun c5 => ?_) (fun c5 => ?_)
        · replace H := H.1 c5
          refine z_iconst (pc := 33) (v := (nI 0)) dX12_cell_33 (by decide) ?_
          exact z_iret (pc := 34) dX12_cell_34 rfl rfl ⟨_, rfl, H⟩
        · replace H := H.2 c5
          refine z_iload_n (pc := 27) dX12_cell_27 rfl rfl ?_
          refine z_bipush (pc := 28) (v := (nI 100)) dX12_cell_28 (by decide) ?_
          refine z_icmp_le (pc := 30) (tgt := 35) dX12_cell_30 (by decide) (fun c6 => ?_) (fun c6 => ?_)
          · replace H := H.1 c6
            refine z_aload_n (pc := 35) dX12_cell_35 rfl rfl ?_
            refine z_getk (pc := 36) dX12_cell_36 fX12_26 rfl (s_63_7 S) ?_
            refine z_bipush (pc := 39) (v := (nI 48)) dX12_cell_39 (by decide) ?_
            refine z_iload_n (pc := 41) dX12_cell_41 rfl rfl ?_
            refine z_imul (pc := 42) dX12_cell_42 ?_
            refine z_iload_n (pc := 43) dX12_cell_43 rfl rfl ?_
            refine z_iadd (pc := 44) dX12_cell_44 ?_
            refine z_iload_n (pc := 45) dX12_cell_45 rfl rfl ?_
            have c7 := H.1
            replace H := H.2
            refine z_iast (pc := 46) dX12_cell_46 c7 ?_
            refine z_iconst (pc := 47) (v := (nI 1)) dX12_cell_47 (by decide) ?_
            exact z_iret (pc := 48) dX12_cell_48 rfl rfl ⟨_, rfl, H⟩
          · replace H := H.2 c6
            refine z_iconst (pc := 33) (v := (nI 0)) dX12_cell_33 (by decide) ?_
            exact z_iret (pc := 34) dX12_cell_34 rfl rfl ⟨_, rfl, H⟩

set_option maxRecDepth 20000 in
theorem bX12_change_0 {l : Launch} {E : eE} {d bc bs : Nat} {h : aH} {Q : Int32 → aH → Prop} {x1 : Int32} {x2 : Int32} {x3 : Int32} (S : SR h) (H : (((hI h 63 8) = (nI 400) → Q (-1) h) ∧ (¬ (hI h 63 8) = (nI 400) → ((¬ (inI x1 (hI h 63 1)) → Q (-1) h) ∧ ((inI x1 (hI h 63 1)) → ((x2 < 0 → Q (-1) h) ∧ (¬ x2 < 0 → (((nI 17472) ≤ x2 → Q (-1) h) ∧ (¬ (nI 17472) ≤ x2 → (((-24 ≤ (x3).toInt ∧ (x3).toInt ≤ 28) → ((vp_in (hI h 63 8) 400) ∧ Q (hI h 63 8) (rFact h (nI 0) x1 x2 x3 (nI 0)))) ∧ (¬ (-24 ≤ (x3).toInt ∧ (x3).toInt ≤ 28) → Q (-1) h))))))))))) : CI l E (d + 1) bc bs mX12_change [.inr (some (0, 12, 63)), .inl x1, .inl x2, .inl x3] h Q := by
  refine CI.of (by decide) rfl ?_
  show TI l E mX12_change (d + 1) bc bs 0 [some (.inr (some (0, 12, 63))), some (.inl x1), some (.inl x2), some (.inl x3)] [] h Q
  refine z_aload_n (pc := 0) dX12_change_0 rfl rfl ?_
  refine z_geti (pc := 1) dX12_change_1 fX12_129 rfl ?_
  refine z_sipush (pc := 4) (v := (nI 400)) dX12_change_4 (by decide) ?_
  refine z_icmp_eq (pc := 7) (tgt := 36) dX12_change_7 (by decide) (fun c1 => ?_) (fun c1 => ?_)
  · replace H := H.1 c1
    refine z_iconst (pc := 36) (v := (-1)) dX12_change_36 (by decide) ?_
    refine z_goto (pc := 37) (tgt := 49) dX12_change_37 (by decide) ?_
    exact z_iret (pc := 49) dX12_change_49 rfl rfl ⟨_, rfl, H⟩
  · replace H := H.2 c1
    refine z_aload_n (pc := 10) dX12_change_10 rfl rfl ?_
    refine z_iload_n (pc := 11) dX12_change_11 rfl rfl ?_
    refine y_VI (pc := 12) (bc := bc) (bs := bs) (mc := 0) (ms := 0) (As := [.inl x1]) (rest := []) dX12_change_12 kX12_isLand lX12_136 ⟨_, _, rfl⟩ rfl rfl (c_isLand S.1 ?_)
    refine z_if_eq (pc := 15) (tgt := 36) dX12_change_15 (by decide) (fun c2 => ?_) (fun c2 => ?_)
    · replace H := H.1 (bI0.mp c2)
      refine z_iconst (pc := 36) (v := (-1)) dX12_change_36 (by decide) ?_
      refine z_goto (pc := 37) (tgt := 49) dX12_change_37 (by decide) ?_
      exact z_iret (pc := 49) dX12_change_49 rfl rfl ⟨_, rfl, H⟩
    · replace H := H.2 (bI1.mp c2)
      refine z_iload_n (pc := 18) dX12_change_18 rfl rfl ?_
      refine z_if_lt (pc := 19) (tgt := 36) dX12_change_19 (by decide) (fun c3 => ?_) (fun c3 => ?_)
      · replace H := H.1 c3
        refine z_iconst (pc := 36) (v := (-1)) dX12_change_36 (by decide) ?_
        refine z_goto (pc := 37) (tgt := 49) dX12_change_37 (by decide) ?_
        exact z_iret (pc := 49) dX12_change_49 rfl rfl ⟨_, rfl, H⟩
      · replace H := H.2 c3
        refine z_iload_n (pc := 22) dX12_change_22 rfl rfl ?_
        refine z_sipush (pc := 23) (v := (nI 17472)) dX12_change_23 (by decide) ?_
        refine z_icmp_ge (pc := 26) (tgt := 36) dX12_change_26 (by decide) (fun c4 => ?_) (fun c4 => ?_)
        · replace H := H.1 c4
          refine z_iconst (pc := 36) (v := (-1)) dX12_change_36 (by decide) ?_
          refine z_goto (pc := 37) (tgt := 49) dX12_change_37 (by decide) ?_
          exact z_iret (pc := 49) dX12_change_49 rfl rfl ⟨_, rfl, H⟩
        · replace H := H.2 c4
          refine z_iload_n (pc := 29) dX12_change_29 rfl rfl ?_
          refine y_SI (pc := 30) (bc := bc) (bs := bs) (mc := 0) (ms := 0) (As := [.inl x3]) (rest := []) dX12_change_30 kX12_isOffset lX12_132 rfl rfl (c_isOffset S.1 ?_)
          refine z_if_ne (pc := 33) (tgt := 40) dX12_change_33 (by decide) (fun c5 => ?_) (fun c5 => ?_)
          · replace H := H.1 (bI1.mp c5)
            refine z_aload_n (pc := 40) dX12_change_40 rfl rfl ?_
            refine z_iconst (pc := 41) (v := (nI 0)) dX12_change_41 (by decide) ?_
            refine z_iload_n (pc := 42) dX12_change_42 rfl rfl ?_
            refine z_iload_n (pc := 43) dX12_change_43 rfl rfl ?_
            refine z_iload_n (pc := 44) dX12_change_44 rfl rfl ?_
            refine z_iconst (pc := 45) (v := (nI 0)) dX12_change_45 (by decide) ?_
            have c6 := H.1
            replace H := H.2
            refine y_VI (pc := 46) (bc := bc) (bs := bs) (mc := 0) (ms := 0) (As := [.inl (nI 0), .inl x1, .inl x2, .inl x3, .inl (nI 0)]) (rest := []) dX12_change_46 kX12_fact lX12_142 ⟨_, _, rfl⟩ rfl rfl (c_fact S.1 c6 ?_)
            exact z_iret (pc := 49) dX12_change_49 rfl rfl ⟨_, rfl, H⟩
          · replace H := H.2 (bI0.mp c5)
            refine z_iconst (pc := 36) (v := (-1)) dX12_change_36 (by decide) ?_
            refine z_goto (pc := 37) (tgt := 49) dX12_change_37 (by decide) ?_
            exact z_iret (pc := 49) dX12_change_49 rfl rfl ⟨_, rfl, H⟩

set_option maxRecDepth 20000 in
theorem bX12_feast_0 {l : Launch} {E : eE} {d bc bs : Nat} {h : aH} {Q : Int32 → aH → Prop} {x1 : Int32} {x2 : Int32} (S : SR h) (H : (((hI h 63 8) = (nI 400) → Q (-1) h) ∧ (¬ (hI h 63 8) = (nI 400) → ((¬ (inI x1 (hI h 63 1)) → Q (-1) h) ∧ ((inI x1 (hI h 63 1)) → ((x2 < 0 → Q (-1) h) ∧ (¬ x2 < 0 → ((x2 ≤ (nI 363) → ((vp_in (hI h 63 8) 400) ∧ Q (hI h 63 8) (rFact h (nI 1) x1 x2 (nI 0) (nI 0)))) ∧ (¬ x2 ≤ (nI 363) → Q (-1) h))))))))) : CI l E (d + 1) bc bs mX12_feast [.inr (some (0, 12, 63)), .inl x1, .inl x2] h Q := by
  refine CI.of (by decide) rfl ?_
  show TI l E mX12_feast (d + 1) bc bs 0 [some (.inr (some (0, 12, 63))), some (.inl x1), some (.inl x2)] [] h Q
  refine z_aload_n (pc := 0) dX12_feast_0 rfl rfl ?_
  refine z_geti (pc := 1) dX12_feast_1 fX12_129 rfl ?_
  refine z_sipush (pc := 4) (v := (nI 400)) dX12_feast_4 (by decide) ?_
  refine z_icmp_eq (pc := 7) (tgt := 29) dX12_feast_7 (by decide) (fun c1 => ?_) (fun c1 => ?_)
  · replace H := H.1 c1
    refine z_iconst (pc := 29) (v := (-1)) dX12_feast_29 (by decide) ?_
    refine z_goto (pc := 30) (tgt := 42) dX12_feast_30 (by decide) ?_
    exact z_iret (pc := 42) dX12_feast_42 rfl rfl ⟨_, rfl, H⟩
  · replace H := H.2 c1
    refine z_aload_n (pc := 10) dX12_feast_10 rfl rfl ?_
    refine z_iload_n (pc := 11) dX12_feast_11 rfl rfl ?_
    refine y_VI (pc := 12) (bc := bc) (bs := bs) (mc := 0) (ms := 0) (As := [.inl x1]) (rest := []) dX12_feast_12 kX12_isLand lX12_136 ⟨_, _, rfl⟩ rfl rfl (c_isLand S.1 ?_)
    refine z_if_eq (pc := 15) (tgt := 29) dX12_feast_15 (by decide) (fun c2 => ?_) (fun c2 => ?_)
    · replace H := H.1 (bI0.mp c2)
      refine z_iconst (pc := 29) (v := (-1)) dX12_feast_29 (by decide) ?_
      refine z_goto (pc := 30) (tgt := 42) dX12_feast_30 (by decide) ?_
      exact z_iret (pc := 42) dX12_feast_42 rfl rfl ⟨_, rfl, H⟩
    · replace H := H.2 (bI1.mp c2)
      refine z_iload_n (pc := 18) dX12_feast_18 rfl rfl ?_
      refine z_if_lt (pc := 19) (tgt := 29) dX12_feast_19 (by decide) (fun c3 => ?_) (fun c3 => ?_)
      · replace H := H.1 c3
        refine z_iconst (pc := 29) (v := (-1)) dX12_feast_29 (by decide) ?_
        refine z_goto (pc := 30) (tgt := 42) dX12_feast_30 (by decide) ?_
        exact z_iret (pc := 42) dX12_feast_42 rfl rfl ⟨_, rfl, H⟩
      · replace H := H.2 c3
        refine z_iload_n (pc := 22) dX12_feast_22 rfl rfl ?_
        refine z_sipush (pc := 23) (v := (nI 363)) dX12_feast_23 (by decide) ?_
        refine z_icmp_le (pc := 26) (tgt := 33) dX12_feast_26 (by decide) (fun c4 => ?_) (fun c4 => ?_)
        · replace H := H.1 c4
          refine z_aload_n (pc := 33) dX12_feast_33 rfl rfl ?_
          refine z_iconst (pc := 34) (v := (nI 1)) dX12_feast_34 (by decide) ?_
          refine z_iload_n (pc := 35) dX12_feast_35 rfl rfl ?_
          refine z_iload_n (pc := 36) dX12_feast_36 rfl rfl ?_
          refine z_iconst (pc := 37) (v := (nI 0)) dX12_feast_37 (by decide) ?_
          refine z_iconst (pc := 38) (v := (nI 0)) dX12_feast_38 (by decide) ?_
          have c5 := H.1
          replace H := H.2
          refine y_VI (pc := 39) (bc := bc) (bs := bs) (mc := 0) (ms := 0) (As := [.inl (nI 1), .inl x1, .inl x2, .inl (nI 0), .inl (nI 0)]) (rest := []) dX12_feast_39 kX12_fact lX12_142 ⟨_, _, rfl⟩ rfl rfl (c_fact S.1 c5 ?_)
          exact z_iret (pc := 42) dX12_feast_42 rfl rfl ⟨_, rfl, H⟩
        · replace H := H.2 c4
          refine z_iconst (pc := 29) (v := (-1)) dX12_feast_29 (by decide) ?_
          refine z_goto (pc := 30) (tgt := 42) dX12_feast_30 (by decide) ?_
          exact z_iret (pc := 42) dX12_feast_42 rfl rfl ⟨_, rfl, H⟩

set_option maxRecDepth 20000 in
theorem bX12_busy_0 {l : Launch} {E : eE} {d bc bs : Nat} {h : aH} {Q : Int32 → aH → Prop} {x1 : Int32} {x2 : Int32} {x3 : Int32} {x4 : Int32} (S : SR h) (H : (((hI h 63 8) = (nI 400) → Q (-1) h) ∧ (¬ (hI h 63 8) = (nI 400) → ((¬ (inI x1 (hI h 63 3)) → Q (-1) h) ∧ ((inI x1 (hI h 63 3)) → ((x2 < 0 → Q (-1) h) ∧ (¬ x2 < 0 → ((x3 ≤ x2 → Q (-1) h) ∧ (¬ x3 ≤ x2 → ((x3 ≤ (nI 17472) → ((vp_in (hI h 63 8) 400) ∧ Q (hI h 63 8) (rFact h (nI 2) x1 x2 x3 x4))) ∧ (¬ x3 ≤ (nI 17472) → Q (-1) h))))))))))) : CI l E (d + 1) bc bs mX12_busy [.inr (some (0, 12, 63)), .inl x1, .inl x2, .inl x3, .inl x4] h Q := by
  refine CI.of (by decide) rfl ?_
  show TI l E mX12_busy (d + 1) bc bs 0 [some (.inr (some (0, 12, 63))), some (.inl x1), some (.inl x2), some (.inl x3), some (.inl x4)] [] h Q
  refine z_aload_n (pc := 0) dX12_busy_0 rfl rfl ?_
  refine z_geti (pc := 1) dX12_busy_1 fX12_129 rfl ?_
  refine z_sipush (pc := 4) (v := (nI 400)) dX12_busy_4 (by decide) ?_
  refine z_icmp_eq (pc := 7) (tgt := 34) dX12_busy_7 (by decide) (fun c1 => ?_) (fun c1 => ?_)
  · replace H := H.1 c1
    refine z_iconst (pc := 34) (v := (-1)) dX12_busy_34 (by decide) ?_
    refine z_goto (pc := 35) (tgt := 48) dX12_busy_35 (by decide) ?_
    exact z_iret (pc := 48) dX12_busy_48 rfl rfl ⟨_, rfl, H⟩
  · replace H := H.2 c1
    refine z_aload_n (pc := 10) dX12_busy_10 rfl rfl ?_
    refine z_iload_n (pc := 11) dX12_busy_11 rfl rfl ?_
    refine y_VI (pc := 12) (bc := bc) (bs := bs) (mc := 0) (ms := 0) (As := [.inl x1]) (rest := []) dX12_busy_12 kX12_isPerson lX12_139 ⟨_, _, rfl⟩ rfl rfl (c_isPerson S.1 ?_)
    refine z_if_eq (pc := 15) (tgt := 34) dX12_busy_15 (by decide) (fun c2 => ?_) (fun c2 => ?_)
    · replace H := H.1 (bI0.mp c2)
      refine z_iconst (pc := 34) (v := (-1)) dX12_busy_34 (by decide) ?_
      refine z_goto (pc := 35) (tgt := 48) dX12_busy_35 (by decide) ?_
      exact z_iret (pc := 48) dX12_busy_48 rfl rfl ⟨_, rfl, H⟩
    · replace H := H.2 (bI1.mp c2)
      refine z_iload_n (pc := 18) dX12_busy_18 rfl rfl ?_
      refine z_if_lt (pc := 19) (tgt := 34) dX12_busy_19 (by decide) (fun c3 => ?_) (fun c3 => ?_)
      · replace H := H.1 c3
        refine z_iconst (pc := 34) (v := (-1)) dX12_busy_34 (by decide) ?_
        refine z_goto (pc := 35) (tgt := 48) dX12_busy_35 (by decide) ?_
        exact z_iret (pc := 48) dX12_busy_48 rfl rfl ⟨_, rfl, H⟩
      · replace H := H.2 c3
        refine z_iload_n (pc := 22) dX12_busy_22 rfl rfl ?_
        refine z_iload_n (pc := 23) dX12_busy_23 rfl rfl ?_
        refine z_icmp_ge (pc := 24) (tgt := 34) dX12_busy_24 (by decide) (fun c4 => ?_) (fun c4 => ?_)
        · replace H := H.1 c4
          refine z_iconst (pc := 34) (v := (-1)) dX12_busy_34 (by decide) ?_
          refine z_goto (pc := 35) (tgt := 48) dX12_busy_35 (by decide) ?_
          exact z_iret (pc := 48) dX12_busy_48 rfl rfl ⟨_, rfl, H⟩
        · replace H := H.2 c4
          refine z_iload_n (pc := 27) dX12_busy_27 rfl rfl ?_
          refine z_sipush (pc := 28) (v := (nI 17472)) dX12_busy_28 (by decide) ?_
          refine z_icmp_le (pc := 31) (tgt := 38) dX12_busy_31 (by decide) (fun c5 => ?_) (fun c5 => ?_)
          · replace H := H.1 c5
            refine z_aload_n (pc := 38) dX12_busy_38 rfl rfl ?_
            refine z_iconst (pc := 39) (v := (nI 2)) dX12_busy_39 (by decide) ?_
            refine z_iload_n (pc := 40) dX12_busy_40 rfl rfl ?_
            refine z_iload_n (pc := 41) dX12_busy_41 rfl rfl ?_
            refine z_iload_n (pc := 42) dX12_busy_42 rfl rfl ?_
            refine z_iload (pc := 43) dX12_busy_43 rfl ?_
            have c6 := H.1
            replace H := H.2
            refine y_VI (pc := 45) (bc := bc) (bs := bs) (mc := 0) (ms := 0) (As := [.inl (nI 2), .inl x1, .inl x2, .inl x3, .inl x4]) (rest := []) dX12_busy_45 kX12_fact lX12_142 ⟨_, _, rfl⟩ rfl rfl (c_fact S.1 c6 ?_)
            exact z_iret (pc := 48) dX12_busy_48 rfl rfl ⟨_, rfl, H⟩
          · replace H := H.2 c5
            refine z_iconst (pc := 34) (v := (-1)) dX12_busy_34 (by decide) ?_
            refine z_goto (pc := 35) (tgt := 48) dX12_busy_35 (by decide) ?_
            exact z_iret (pc := 48) dX12_busy_48 rfl rfl ⟨_, rfl, H⟩

set_option maxRecDepth 20000 in
theorem bX12_cant_0 {l : Launch} {E : eE} {d bc bs : Nat} {h : aH} {Q : Int32 → aH → Prop} {x1 : Int32} {x2 : Int32} {x3 : Int32} (S : SH h) (H : (((hI h 63 8) = (nI 400) → Q (-1) h) ∧ (¬ (hI h 63 8) = (nI 400) → ((¬ (inI x1 (hI h 63 3)) → Q (-1) h) ∧ ((inI x1 (hI h 63 3)) → ((¬ (inI x2 (hI h 63 14)) → Q (-1) h) ∧ ((inI x2 (hI h 63 14)) → (((0 ≤ (x3).toInt ∧ (x3).toInt < 52) → ((vp_in (hI h 63 8) 400) ∧ Q (hI h 63 8) (rFact h (nI 3) x1 x2 x3 (nI 0)))) ∧ (¬ (0 ≤ (x3).toInt ∧ (x3).toInt < 52) → Q (-1) h))))))))) : CI l E (d + 1) bc bs mX12_cant [.inr (some (0, 12, 63)), .inl x1, .inl x2, .inl x3] h Q := by
  refine CI.of (by decide) rfl ?_
  show TI l E mX12_cant (d + 1) bc bs 0 [some (.inr (some (0, 12, 63))), some (.inl x1), some (.inl x2), some (.inl x3)] [] h Q
  refine z_aload_n (pc := 0) dX12_cant_0 rfl rfl ?_
  refine z_geti (pc := 1) dX12_cant_1 fX12_129 rfl ?_
  refine z_sipush (pc := 4) (v := (nI 400)) dX12_cant_4 (by decide) ?_
  refine z_icmp_eq (pc := 7) (tgt := 33) dX12_cant_7 (by decide) (fun c1 => ?_) (fun c1 => ?_)
  · replace H := H.1 c1
    refine z_iconst (pc := 33) (v := (-1)) dX12_cant_33 (by decide) ?_
    refine z_goto (pc := 34) (tgt := 46) dX12_cant_34 (by decide) ?_
    exact z_iret (pc := 46) dX12_cant_46 rfl rfl ⟨_, rfl, H⟩
  · replace H := H.2 c1
    refine z_aload_n (pc := 10) dX12_cant_10 rfl rfl ?_
    refine z_iload_n (pc := 11) dX12_cant_11 rfl rfl ?_
    refine y_VI (pc := 12) (bc := bc) (bs := bs) (mc := 0) (ms := 0) (As := [.inl x1]) (rest := []) dX12_cant_12 kX12_isPerson lX12_139 ⟨_, _, rfl⟩ rfl rfl (c_isPerson S ?_)
    refine z_if_eq (pc := 15) (tgt := 33) dX12_cant_15 (by decide) (fun c2 => ?_) (fun c2 => ?_)
    · replace H := H.1 (bI0.mp c2)
      refine z_iconst (pc := 33) (v := (-1)) dX12_cant_33 (by decide) ?_
      refine z_goto (pc := 34) (tgt := 46) dX12_cant_34 (by decide) ?_
      exact z_iret (pc := 46) dX12_cant_46 rfl rfl ⟨_, rfl, H⟩
    · replace H := H.2 (bI1.mp c2)
      refine z_aload_n (pc := 18) dX12_cant_18 rfl rfl ?_
      refine z_iload_n (pc := 19) dX12_cant_19 rfl rfl ?_
      refine y_VI (pc := 20) (bc := bc) (bs := bs) (mc := 0) (ms := 0) (As := [.inl x2]) (rest := []) dX12_cant_20 kX12_isSeries lX12_146 ⟨_, _, rfl⟩ rfl rfl (c_isSeries S ?_)
      refine z_if_eq (pc := 23) (tgt := 33) dX12_cant_23 (by decide) (fun c3 => ?_) (fun c3 => ?_)
      · replace H := H.1 (bI0.mp c3)
        refine z_iconst (pc := 33) (v := (-1)) dX12_cant_33 (by decide) ?_
        refine z_goto (pc := 34) (tgt := 46) dX12_cant_34 (by decide) ?_
        exact z_iret (pc := 46) dX12_cant_46 rfl rfl ⟨_, rfl, H⟩
      · replace H := H.2 (bI1.mp c3)
        refine z_iload_n (pc := 26) dX12_cant_26 rfl rfl ?_
        refine y_SI (pc := 27) (bc := bc) (bs := bs) (mc := 0) (ms := 0) (As := [.inl x3]) (rest := []) dX12_cant_27 kX12_isWeek lX12_149 rfl rfl (c_isWeek S ?_)
        refine z_if_ne (pc := 30) (tgt := 37) dX12_cant_30 (by decide) (fun c4 => ?_) (fun c4 => ?_)
        · replace H := H.1 (bI1.mp c4)
          refine z_aload_n (pc := 37) dX12_cant_37 rfl rfl ?_
          refine z_iconst (pc := 38) (v := (nI 3)) dX12_cant_38 (by decide) ?_
          refine z_iload_n (pc := 39) dX12_cant_39 rfl rfl ?_
          refine z_iload_n (pc := 40) dX12_cant_40 rfl rfl ?_
          refine z_iload_n (pc := 41) dX12_cant_41 rfl rfl ?_
          refine z_iconst (pc := 42) (v := (nI 0)) dX12_cant_42 (by decide) ?_
          have c5 := H.1
          replace H := H.2
          refine y_VI (pc := 43) (bc := bc) (bs := bs) (mc := 0) (ms := 0) (As := [.inl (nI 3), .inl x1, .inl x2, .inl x3, .inl (nI 0)]) (rest := []) dX12_cant_43 kX12_fact lX12_142 ⟨_, _, rfl⟩ rfl rfl (c_fact S c5 ?_)
          exact z_iret (pc := 46) dX12_cant_46 rfl rfl ⟨_, rfl, H⟩
        · replace H := H.2 (bI0.mp c4)
          refine z_iconst (pc := 33) (v := (-1)) dX12_cant_33 (by decide) ?_
          refine z_goto (pc := 34) (tgt := 46) dX12_cant_34 (by decide) ?_
          exact z_iret (pc := 46) dX12_cant_46 rfl rfl ⟨_, rfl, H⟩

set_option maxRecDepth 20000 in
theorem bX12_local_0 {l : Launch} {E : eE} {d bc bs : Nat} {h : aH} {Q : Int32 → aH → Prop} {x1 : Int32} {x2 : Int32} {x3 : Int32} {x4 : Int32} (S : SR h) (H : ((¬ (inI x1 (hI h 63 1)) → Q (-1000000) h) ∧ ((inI x1 (hI h 63 1)) → ((x2 < 0 → Q (-1000000) h) ∧ (¬ x2 < 0 → (((nI 17472) ≤ x2 → Q (-1000000) h) ∧ (¬ (nI 17472) ≤ x2 → ((¬ (0 ≤ (x3).toInt ∧ (x3).toInt ≤ (hI h 63 8).toInt) → Q (-1000000) h) ∧ ((0 ≤ (x3).toInt ∧ (x3).toInt ≤ (hI h 63 8).toInt) → ((x4 < 0 → Q (-1000000) h) ∧ (¬ x4 < 0 → ((x4 ≤ (nI 3) → ((knI x3) ∧ ((vp_in x1 8) ∧ ((¬ (nI 48) = 0) ∧ ((x4 = nI 0 → Q (rDown (x2 + (rOff h x1 x2 (x3).toNatClampNeg)) (nI 48)) h) ∧ (x4 = nI 1 → Q ((x2 + (rOff h x1 x2 (x3).toNatClampNeg)) - ((nI 48) * (rDown (x2 + (rOff h x1 x2 (x3).toNatClampNeg)) (nI 48)))) h) ∧ (x4 = nI 2 → ((¬ (nI 7) = 0) ∧ Q ((rDown (x2 + (rOff h x1 x2 (x3).toNatClampNeg)) (nI 48)) - ((nI 7) * (rDown (rDown (x2 + (rOff h x1 x2 (x3).toNatClampNeg)) (nI 48)) (nI 7)))) h)) ∧ ((x4).toInt < 0 ∨ 2 < (x4).toInt → Q (rOff h x1 x2 (x3).toNatClampNeg) h)))))) ∧ (¬ x4 ≤ (nI 3) → Q (-1000000) h))))))))))))) : CI l E (d + 1) bc bs mX12_local [.inr (some (0, 12, 63)), .inl x1, .inl x2, .inl x3, .inl x4] h Q := by
  refine CI.of (by decide) rfl ?_
  show TI l E mX12_local (d + 1) bc bs 0 [some (.inr (some (0, 12, 63))), some (.inl x1), some (.inl x2), some (.inl x3), some (.inl x4), none, none] [] h Q
  refine z_aload_n (pc := 0) dX12_local_0 rfl rfl ?_
  refine z_iload_n (pc := 1) dX12_local_1 rfl rfl ?_
  refine y_VI (pc := 2) (bc := bc) (bs := bs) (mc := 0) (ms := 0) (As := [.inl x1]) (rest := []) dX12_local_2 kX12_isLand lX12_136 ⟨_, _, rfl⟩ rfl rfl (c_isLand S.1 ?_)
  refine z_if_eq (pc := 5) (tgt := 38) dX12_local_5 (by decide) (fun c1 => ?_) (fun c1 => ?_)
  · replace H := H.1 (bI0.mp c1)
    refine z_ldc (pc := 38) (v := (-1000000)) dX12_local_38 tX12_155 ?_
    exact z_iret (pc := 40) dX12_local_40 rfl rfl ⟨_, rfl, H⟩
  · replace H := H.2 (bI1.mp c1)
    refine z_iload_n (pc := 8) dX12_local_8 rfl rfl ?_
    refine z_if_lt (pc := 9) (tgt := 38) dX12_local_9 (by decide) (fun c2 => ?_) (fun c2 => ?_)
    · replace H := H.1 c2
      refine z_ldc (pc := 38) (v := (-1000000)) dX12_local_38 tX12_155 ?_
      exact z_iret (pc := 40) dX12_local_40 rfl rfl ⟨_, rfl, H⟩
    · replace H := H.2 c2
      refine z_iload_n (pc := 12) dX12_local_12 rfl rfl ?_
      refine z_sipush (pc := 13) (v := (nI 17472)) dX12_local_13 (by decide) ?_
      refine z_icmp_ge (pc := 16) (tgt := 38) dX12_local_16 (by decide) (fun c3 => ?_) (fun c3 => ?_)
      · replace H := H.1 c3
        refine z_ldc (pc := 38) (v := (-1000000)) dX12_local_38 tX12_155 ?_
        exact z_iret (pc := 40) dX12_local_40 rfl rfl ⟨_, rfl, H⟩
      · replace H := H.2 c3
        refine z_aload_n (pc := 19) dX12_local_19 rfl rfl ?_
        refine z_iload_n (pc := 20) dX12_local_20 rfl rfl ?_
        refine y_VI (pc := 21) (bc := bc) (bs := bs) (mc := 0) (ms := 0) (As := [.inl x3]) (rest := []) dX12_local_21 kX12_isKnown lX12_152 ⟨_, _, rfl⟩ rfl rfl (c_isKnown S.1 ?_)
        refine z_if_eq (pc := 24) (tgt := 38) dX12_local_24 (by decide) (fun c4 => ?_) (fun c4 => ?_)
        · replace H := H.1 (bI0.mp c4)
          refine z_ldc (pc := 38) (v := (-1000000)) dX12_local_38 tX12_155 ?_
          exact z_iret (pc := 40) dX12_local_40 rfl rfl ⟨_, rfl, H⟩
        · replace H := H.2 (bI1.mp c4)
          refine z_iload (pc := 27) dX12_local_27 rfl ?_
          refine z_if_lt (pc := 29) (tgt := 38) dX12_local_29 (by decide) (fun c5 => ?_) (fun c5 => ?_)
          · replace H := H.1 c5
            refine z_ldc (pc := 38) (v := (-1000000)) dX12_local_38 tX12_155 ?_
            exact z_iret (pc := 40) dX12_local_40 rfl rfl ⟨_, rfl, H⟩
          · replace H := H.2 c5
            refine z_iload (pc := 32) dX12_local_32 rfl ?_
            refine z_iconst (pc := 34) (v := (nI 3)) dX12_local_34 (by decide) ?_
            refine z_icmp_le (pc := 35) (tgt := 41) dX12_local_35 (by decide) (fun c6 => ?_) (fun c6 => ?_)
            · replace H := H.1 c6
              refine z_aload_n (pc := 41) dX12_local_41 rfl rfl ?_
              refine z_iload_n (pc := 42) dX12_local_42 rfl rfl ?_
              refine z_iload_n (pc := 43) dX12_local_43 rfl rfl ?_
              refine z_iload_n (pc := 44) dX12_local_44 rfl rfl ?_
              have c7 := H.1
              replace H := H.2
              have c8 := H.1
              replace H := H.2
              refine y_VI (pc := 45) (bc := bc) (bs := bs) (mc := 0) (ms := 0) (As := [.inl x1, .inl x2, .inl x3]) (rest := []) dX12_local_45 kX12_offsetAt lX12_156 ⟨_, _, rfl⟩ rfl rfl (c_off S.1 c7 c8 ?_)
              refine z_istore (pc := 48) (ls' := [some (.inr (some (0, 12, 63))), some (.inl x1), some (.inl x2), some (.inl x3), some (.inl x4), some (.inl (rOff h x1 x2 (x3).toNatClampNeg)), none]) dX12_local_48 rfl rfl ?_
              refine z_iload_n (pc := 50) dX12_local_50 rfl rfl ?_
              refine z_iload (pc := 51) dX12_local_51 rfl ?_
              refine z_iadd (pc := 53) dX12_local_53 ?_
              refine z_bipush (pc := 54) (v := (nI 48)) dX12_local_54 (by decide) ?_
              have c9 := H.1
              replace H := H.2
              refine y_SI (pc := 56) (bc := bc) (bs := bs) (mc := 0) (ms := 0) (As := [.inl (x2 + (rOff h x1 x2 (x3).toNatClampNeg)), .inl (nI 48)]) (rest := []) dX12_local_56 kX12_down lX12_160 rfl rfl (c_down S.1 c9 ?_)
              refine z_istore (pc := 59) (ls' := [some (.inr (some (0, 12, 63))), some (.inl x1), some (.inl x2), some (.inl x3), some (.inl x4), some (.inl (rOff h x1 x2 (x3).toNatClampNeg)), some (.inl (rDown (x2 + (rOff h x1 x2 (x3).toNatClampNeg)) (nI 48)))]) dX12_local_59 rfl rfl ?_
              refine z_iload (pc := 61) dX12_local_61 rfl ?_
              refine z_table (pc := 63) (tgtD := 116) [88, 91, 102] dX12_local_63 (by decide) (by decide) (by decide) ?_ (fun c10 => ?_)
              · refine And.intro (fun c10 => ?_) (And.intro (fun c10 => ?_) (And.intro (fun c10 => ?_) (trivial)))
                · replace H := H.1 c10
                  refine z_iload (pc := 88) dX12_local_88 rfl ?_
                  exact z_iret (pc := 90) dX12_local_90 rfl rfl ⟨_, rfl, H⟩
                · replace H := H.2.1 c10
                  refine z_iload_n (pc := 91) dX12_local_91 rfl rfl ?_
                  refine z_iload (pc := 92) dX12_local_92 rfl ?_
                  refine z_iadd (pc := 94) dX12_local_94 ?_
                  refine z_bipush (pc := 95) (v := (nI 48)) dX12_local_95 (by decide) ?_
                  refine z_iload (pc := 97) dX12_local_97 rfl ?_
                  refine z_imul (pc := 99) dX12_local_99 ?_
                  refine z_isub (pc := 100) dX12_local_100 ?_
                  exact z_iret (pc := 101) dX12_local_101 rfl rfl ⟨_, rfl, H⟩
                · replace H := H.2.2.1 c10
                  refine z_iload (pc := 102) dX12_local_102 rfl ?_
                  refine z_bipush (pc := 104) (v := (nI 7)) dX12_local_104 (by decide) ?_
                  refine z_iload (pc := 106) dX12_local_106 rfl ?_
                  refine z_bipush (pc := 108) (v := (nI 7)) dX12_local_108 (by decide) ?_
                  have c11 := H.1
                  replace H := H.2
                  refine y_SI (pc := 110) (bc := bc) (bs := bs) (mc := 0) (ms := 0) (As := [.inl (rDown (x2 + (rOff h x1 x2 (x3).toNatClampNeg)) (nI 48)), .inl (nI 7)]) (rest := [.inl (nI 7), .inl (rDown (x2 + (rOff h x1 x2 (x3).toNatClampNeg)) (nI 48))]) dX12_local_110 kX12_down lX12_160 rfl rfl (c_down S.1 c11 ?_)
                  refine z_imul (pc := 113) dX12_local_113 ?_
                  refine z_isub (pc := 114) dX12_local_114 ?_
                  exact z_iret (pc := 115) dX12_local_115 rfl rfl ⟨_, rfl, H⟩
              · replace H := H.2.2.2 c10
                refine z_iload (pc := 116) dX12_local_116 rfl ?_
                exact z_iret (pc := 118) dX12_local_118 rfl rfl ⟨_, rfl, H⟩
            · replace H := H.2 c6
              refine z_ldc (pc := 38) (v := (-1000000)) dX12_local_38 tX12_155 ?_
              exact z_iret (pc := 40) dX12_local_40 rfl rfl ⟨_, rfl, H⟩

abbrev LX12_when_76 (l : Launch) (E : eE) (d bc bs : Nat) (x1 : Int32) (x2 : Int32) (x3 : Int32) (x4 : Int32) (x5 : Int32) (x6 : Int32) (x7 : Int32) (x8 : Int32) (x9 : Int32) (x10 : Int32) (h : aH) (Q : Int32 → aH → Prop) : Prop := TI l E mX12_when d bc bs 76 [some (.inr (some (0, 12, 63))), some (.inl x1), some (.inl x2), some (.inl x3), some (.inl x4), some (.inl x5), some (.inl x6), some (.inl x7), some (.inl x8), some (.inl x9), some (.inl x10)] [] h Q

set_option maxRecDepth 20000 in
theorem bX12_when_0 {l : Launch} {E : eE} {d bc bs : Nat} {h : aH} {Q : Int32 → aH → Prop} {x1 : Int32} {x2 : Int32} {x3 : Int32} {x4 : Int32} {x5 : Int32} (S : SR h) (H : ((¬ (inI x1 (hI h 63 1)) → Q (-1) h) ∧ ((inI x1 (hI h 63 1)) → ((x2 < (-1) → Q (-1) h) ∧ (¬ x2 < (-1) → (((nI 364) < x2 → Q (-1) h) ∧ (¬ (nI 364) < x2 → ((x3 < 0 → Q (-1) h) ∧ (¬ x3 < 0 → (((nI 47) < x3 → Q (-1) h) ∧ (¬ (nI 47) < x3 → ((¬ (0 ≤ (x4).toInt ∧ (x4).toInt ≤ (hI h 63 8).toInt) → Q (-1) h) ∧ ((0 ≤ (x4).toInt ∧ (x4).toInt ≤ (hI h 63 8).toInt) → ((x5 < 0 → Q (-1) h) ∧ (¬ x5 < 0 → ((x5 ≤ (nI 2) → LX12_when_76 l E (d + 1) bc bs x1 x2 x3 x4 x5 (((nI 48) * x2) + x3) (nI 0) (-1) (-1) ((((nI 48) * x2) + x3) - (nI 28)) h Q) ∧ (¬ x5 ≤ (nI 2) → Q (-1) h))))))))))))))))) : CI l E (d + 1) bc bs mX12_when [.inr (some (0, 12, 63)), .inl x1, .inl x2, .inl x3, .inl x4, .inl x5] h Q := by
  refine CI.of (by decide) rfl ?_
  show TI l E mX12_when (d + 1) bc bs 0 [some (.inr (some (0, 12, 63))), some (.inl x1), some (.inl x2), some (.inl x3), some (.inl x4), some (.inl x5), none, none, none, none, none] [] h Q
  refine z_aload_n (pc := 0) dX12_when_0 rfl rfl ?_
  refine z_iload_n (pc := 1) dX12_when_1 rfl rfl ?_
  refine y_VI (pc := 2) (bc := bc) (bs := bs) (mc := 0) (ms := 0) (As := [.inl x1]) (rest := []) dX12_when_2 kX12_isLand lX12_136 ⟨_, _, rfl⟩ rfl rfl (c_isLand S.1 ?_)
  refine z_if_eq (pc := 5) (tgt := 50) dX12_when_5 (by decide) (fun c1 => ?_) (fun c1 => ?_)
  · replace H := H.1 (bI0.mp c1)
    refine z_iconst (pc := 50) (v := (-1)) dX12_when_50 (by decide) ?_
    exact z_iret (pc := 51) dX12_when_51 rfl rfl ⟨_, rfl, H⟩
  · replace H := H.2 (bI1.mp c1)
    refine z_iload_n (pc := 8) dX12_when_8 rfl rfl ?_
    refine z_iconst (pc := 9) (v := (-1)) dX12_when_9 (by decide) ?_
    refine z_icmp_lt (pc := 10) (tgt := 50) dX12_when_10 (by decide) (fun c2 => ?_) (fun c2 => ?_)
    · replace H := H.1 c2
      refine z_iconst (pc := 50) (v := (-1)) dX12_when_50 (by decide) ?_
      exact z_iret (pc := 51) dX12_when_51 rfl rfl ⟨_, rfl, H⟩
    · replace H := H.2 c2
      refine z_iload_n (pc := 13) dX12_when_13 rfl rfl ?_
      refine z_sipush (pc := 14) (v := (nI 364)) dX12_when_14 (by decide) ?_
      refine z_icmp_gt (pc := 17) (tgt := 50) dX12_when_17 (by decide) (fun c3 => ?_) (fun c3 => ?_)
      · replace H := H.1 c3
        refine z_iconst (pc := 50) (v := (-1)) dX12_when_50 (by decide) ?_
        exact z_iret (pc := 51) dX12_when_51 rfl rfl ⟨_, rfl, H⟩
      · replace H := H.2 c3
        refine z_iload_n (pc := 20) dX12_when_20 rfl rfl ?_
        refine z_if_lt (pc := 21) (tgt := 50) dX12_when_21 (by decide) (fun c4 => ?_) (fun c4 => ?_)
        · replace H := H.1 c4
          refine z_iconst (pc := 50) (v := (-1)) dX12_when_50 (by decide) ?_
          exact z_iret (pc := 51) dX12_when_51 rfl rfl ⟨_, rfl, H⟩
        · replace H := H.2 c4
          refine z_iload_n (pc := 24) dX12_when_24 rfl rfl ?_
          refine z_bipush (pc := 25) (v := (nI 47)) dX12_when_25 (by decide) ?_
          refine z_icmp_gt (pc := 27) (tgt := 50) dX12_when_27 (by decide) (fun c5 => ?_) (fun c5 => ?_)
          · replace H := H.1 c5
            refine z_iconst (pc := 50) (v := (-1)) dX12_when_50 (by decide) ?_
            exact z_iret (pc := 51) dX12_when_51 rfl rfl ⟨_, rfl, H⟩
          · replace H := H.2 c5
            refine z_aload_n (pc := 30) dX12_when_30 rfl rfl ?_
            refine z_iload (pc := 31) dX12_when_31 rfl ?_
            refine y_VI (pc := 33) (bc := bc) (bs := bs) (mc := 0) (ms := 0) (As := [.inl x4]) (rest := []) dX12_when_33 kX12_isKnown lX12_152 ⟨_, _, rfl⟩ rfl rfl (c_isKnown S.1 ?_)
            refine z_if_eq (pc := 36) (tgt := 50) dX12_when_36 (by decide) (fun c6 => ?_) (fun c6 => ?_)
            · replace H := H.1 (bI0.mp c6)
              refine z_iconst (pc := 50) (v := (-1)) dX12_when_50 (by decide) ?_
              exact z_iret (pc := 51) dX12_when_51 rfl rfl ⟨_, rfl, H⟩
            · replace H := H.2 (bI1.mp c6)
              refine z_iload (pc := 39) dX12_when_39 rfl ?_
              refine z_if_lt (pc := 41) (tgt := 50) dX12_when_41 (by decide) (fun c7 => ?_) (fun c7 => ?_)
              · replace H := H.1 c7
                refine z_iconst (pc := 50) (v := (-1)) dX12_when_50 (by decide) ?_
                exact z_iret (pc := 51) dX12_when_51 rfl rfl ⟨_, rfl, H⟩
              · replace H := H.2 c7
                refine z_iload (pc := 44) dX12_when_44 rfl ?_
                refine z_iconst (pc := 46) (v := (nI 2)) dX12_when_46 (by decide) ?_
                refine z_icmp_le (pc := 47) (tgt := 52) dX12_when_47 (by decide) (fun c8 => ?_) (fun c8 => ?_)
                · replace H := H.1 c8
                  refine z_bipush (pc := 52) (v := (nI 48)) dX12_when_52 (by decide) ?_
                  refine z_iload_n (pc := 54) dX12_when_54 rfl rfl ?_
                  refine z_imul (pc := 55) dX12_when_55 ?_
                  refine z_iload_n (pc := 56) dX12_when_56 rfl rfl ?_
                  refine z_iadd (pc := 57) dX12_when_57 ?_
                  refine z_istore (pc := 58) (ls' := [some (.inr (some (0, 12, 63))), some (.inl x1), some (.inl x2), some (.inl x3), some (.inl x4), some (.inl x5), some (.inl (((nI 48) * x2) + x3)), none, none, none, none]) dX12_when_58 rfl rfl ?_
                  refine z_iconst (pc := 60) (v := (nI 0)) dX12_when_60 (by decide) ?_
                  refine z_istore (pc := 61) (ls' := [some (.inr (some (0, 12, 63))), some (.inl x1), some (.inl x2), some (.inl x3), some (.inl x4), some (.inl x5), some (.inl (((nI 48) * x2) + x3)), some (.inl (nI 0)), none, none, none]) dX12_when_61 rfl rfl ?_
                  refine z_iconst (pc := 63) (v := (-1)) dX12_when_63 (by decide) ?_
                  refine z_istore (pc := 64) (ls' := [some (.inr (some (0, 12, 63))), some (.inl x1), some (.inl x2), some (.inl x3), some (.inl x4), some (.inl x5), some (.inl (((nI 48) * x2) + x3)), some (.inl (nI 0)), some (.inl (-1)), none, none]) dX12_when_64 rfl rfl ?_
                  refine z_iconst (pc := 66) (v := (-1)) dX12_when_66 (by decide) ?_
                  refine z_istore (pc := 67) (ls' := [some (.inr (some (0, 12, 63))), some (.inl x1), some (.inl x2), some (.inl x3), some (.inl x4), some (.inl x5), some (.inl (((nI 48) * x2) + x3)), some (.inl (nI 0)), some (.inl (-1)), some (.inl (-1)), none]) dX12_when_67 rfl rfl ?_
                  refine z_iload (pc := 69) dX12_when_69 rfl ?_
                  refine z_bipush (pc := 71) (v := (nI 28)) dX12_when_71 (by decide) ?_
                  refine z_isub (pc := 73) dX12_when_73 ?_
                  refine z_istore (pc := 74) (ls' := [some (.inr (some (0, 12, 63))), some (.inl x1), some (.inl x2), some (.inl x3), some (.inl x4), some (.inl x5), some (.inl (((nI 48) * x2) + x3)), some (.inl (nI 0)), some (.inl (-1)), some (.inl (-1)), some (.inl ((((nI 48) * x2) + x3) - (nI 28)))]) dX12_when_74 rfl rfl ?_
                  exact H
                · replace H := H.2 c8
                  refine z_iconst (pc := 50) (v := (-1)) dX12_when_50 (by decide) ?_
                  exact z_iret (pc := 51) dX12_when_51 rfl rfl ⟨_, rfl, H⟩

set_option maxRecDepth 20000 in
theorem bX12_when_76 {l : Launch} {E : eE} {d bc bs : Nat} {h : aH} {Q : Int32 → aH → Prop} {x1 : Int32} {x2 : Int32} {x3 : Int32} {x4 : Int32} {x5 : Int32} {x6 : Int32} {x7 : Int32} {x8 : Int32} {x9 : Int32} {x10 : Int32} (S : SR h) (H : (((x6 + (nI 24)) < x10 → ((¬ x5 = 0 → ((¬ x5 = (nI 1) → Q x9 h) ∧ (x5 = (nI 1) → Q x8 h))) ∧ (x5 = 0 → Q x7 h))) ∧ (¬ (x6 + (nI 24)) < x10 → ((x10 < 0 → LX12_when_76 l E (d + 1) bc bs x1 x2 x3 x4 x5 x6 x7 x8 x9 (x10 + (nI 1)) h Q) ∧ (¬ x10 < 0 → (((nI 17472) ≤ x10 → LX12_when_76 l E (d + 1) bc bs x1 x2 x3 x4 x5 x6 x7 x8 x9 (x10 + (nI 1)) h Q) ∧ (¬ (nI 17472) ≤ x10 → ((knI x4) ∧ ((vp_in x1 8) ∧ (((x10 + (rOff h x1 x10 (x4).toNatClampNeg)) = x6 → ((¬ x8 = (-1) → LX12_when_76 l E (d + 1) bc bs x1 x2 x3 x4 x5 x6 (x7 + (nI 1)) x8 x10 (x10 + (nI 1)) h Q) ∧ (x8 = (-1) → LX12_when_76 l E (d + 1) bc bs x1 x2 x3 x4 x5 x6 (x7 + (nI 1)) x10 x10 (x10 + (nI 1)) h Q))) ∧ (¬ (x10 + (rOff h x1 x10 (x4).toNatClampNeg)) = x6 → LX12_when_76 l E (d + 1) bc bs x1 x2 x3 x4 x5 x6 x7 x8 x9 (x10 + (nI 1)) h Q))))))))))) : LX12_when_76 l E (d + 1) bc bs x1 x2 x3 x4 x5 x6 x7 x8 x9 x10 h Q := by
  refine z_iload (pc := 76) dX12_when_76 rfl ?_
  refine z_iload (pc := 78) dX12_when_78 rfl ?_
  refine z_bipush (pc := 80) (v := (nI 24)) dX12_when_80 (by decide) ?_
  refine z_iadd (pc := 82) dX12_when_82 ?_
  refine z_icmp_gt (pc := 83) (tgt := 142) dX12_when_83 (by decide) (fun c1 => ?_) (fun c1 => ?_)
  · replace H := H.1 c1
    refine z_iload (pc := 142) dX12_when_142 rfl ?_
    refine z_if_ne (pc := 144) (tgt := 152) dX12_when_144 (by decide) (fun c2 => ?_) (fun c2 => ?_)
    · replace H := H.1 c2
      refine z_iload (pc := 152) dX12_when_152 rfl ?_
      refine z_iconst (pc := 154) (v := (nI 1)) dX12_when_154 (by decide) ?_
      refine z_icmp_ne (pc := 155) (tgt := 163) dX12_when_155 (by decide) (fun c3 => ?_) (fun c3 => ?_)
      · replace H := H.1 c3
        refine z_iload (pc := 163) dX12_when_163 rfl ?_
        exact z_iret (pc := 165) dX12_when_165 rfl rfl ⟨_, rfl, H⟩
      · replace H := H.2 c3
        refine z_iload (pc := 158) dX12_when_158 rfl ?_
        refine z_goto (pc := 160) (tgt := 165) dX12_when_160 (by decide) ?_
        exact z_iret (pc := 165) dX12_when_165 rfl rfl ⟨_, rfl, H⟩
    · replace H := H.2 c2
      refine z_iload (pc := 147) dX12_when_147 rfl ?_
      refine z_goto (pc := 149) (tgt := 165) dX12_when_149 (by decide) ?_
      exact z_iret (pc := 165) dX12_when_165 rfl rfl ⟨_, rfl, H⟩
  · replace H := H.2 c1
    refine z_iload (pc := 86) dX12_when_86 rfl ?_
    refine z_if_lt (pc := 88) (tgt := 136) dX12_when_88 (by decide) (fun c4 => ?_) (fun c4 => ?_)
    · replace H := H.1 c4
      refine z_iinc (pc := 136) (v := (x10 + (nI 1))) (ls' := [some (.inr (some (0, 12, 63))), some (.inl x1), some (.inl x2), some (.inl x3), some (.inl x4), some (.inl x5), some (.inl x6), some (.inl x7), some (.inl x8), some (.inl x9), some (.inl (x10 + (nI 1)))]) dX12_when_136 rfl (by rw [show Int32.ofInt (1) = (nI 1) by decide]) rfl ?_
      refine z_goto (pc := 139) (tgt := 76) dX12_when_139 (by decide) ?_
      exact H
    · replace H := H.2 c4
      refine z_iload (pc := 91) dX12_when_91 rfl ?_
      refine z_sipush (pc := 93) (v := (nI 17472)) dX12_when_93 (by decide) ?_
      refine z_icmp_ge (pc := 96) (tgt := 136) dX12_when_96 (by decide) (fun c5 => ?_) (fun c5 => ?_)
      · replace H := H.1 c5
        refine z_iinc (pc := 136) (v := (x10 + (nI 1))) (ls' := [some (.inr (some (0, 12, 63))), some (.inl x1), some (.inl x2), some (.inl x3), some (.inl x4), some (.inl x5), some (.inl x6), some (.inl x7), some (.inl x8), some (.inl x9), some (.inl (x10 + (nI 1)))]) dX12_when_136 rfl (by rw [show Int32.ofInt (1) = (nI 1) by decide]) rfl ?_
        refine z_goto (pc := 139) (tgt := 76) dX12_when_139 (by decide) ?_
        exact H
      · replace H := H.2 c5
        refine z_iload (pc := 99) dX12_when_99 rfl ?_
        refine z_aload_n (pc := 101) dX12_when_101 rfl rfl ?_
        refine z_iload_n (pc := 102) dX12_when_102 rfl rfl ?_
        refine z_iload (pc := 103) dX12_when_103 rfl ?_
        refine z_iload (pc := 105) dX12_when_105 rfl ?_
        have c6 := H.1
        replace H := H.2
        have c7 := H.1
        replace H := H.2
        refine y_VI (pc := 107) (bc := bc) (bs := bs) (mc := 0) (ms := 0) (As := [.inl x1, .inl x10, .inl x4]) (rest := [.inl x10]) dX12_when_107 kX12_offsetAt lX12_156 ⟨_, _, rfl⟩ rfl rfl (c_off S.1 c6 c7 ?_)
        refine z_iadd (pc := 110) dX12_when_110 ?_
        refine z_iload (pc := 111) dX12_when_111 rfl ?_
        refine z_icmp_eq (pc := 113) (tgt := 119) dX12_when_113 (by decide) (fun c8 => ?_) (fun c8 => ?_)
        · replace H := H.1 c8
          refine z_iinc (pc := 119) (v := (x7 + (nI 1))) (ls' := [some (.inr (some (0, 12, 63))), some (.inl x1), some (.inl x2), some (.inl x3), some (.inl x4), some (.inl x5), some (.inl x6), some (.inl (x7 + (nI 1))), some (.inl x8), some (.inl x9), some (.inl x10)]) dX12_when_119 rfl (by rw [show Int32.ofInt (1) = (nI 1) by decide]) rfl ?_
          refine z_iload (pc := 122) dX12_when_122 rfl ?_
          refine z_iconst (pc := 124) (v := (-1)) dX12_when_124 (by decide) ?_
          refine z_icmp_ne (pc := 125) (tgt := 132) dX12_when_125 (by decide) (fun c9 => ?_) (fun c9 => ?_)
          · replace H := H.1 c9
            refine z_iload (pc := 132) dX12_when_132 rfl ?_
            refine z_istore (pc := 134) (ls' := [some (.inr (some (0, 12, 63))), some (.inl x1), some (.inl x2), some (.inl x3), some (.inl x4), some (.inl x5), some (.inl x6), some (.inl (x7 + (nI 1))), some (.inl x8), some (.inl x10), some (.inl x10)]) dX12_when_134 rfl rfl ?_
            refine z_iinc (pc := 136) (v := (x10 + (nI 1))) (ls' := [some (.inr (some (0, 12, 63))), some (.inl x1), some (.inl x2), some (.inl x3), some (.inl x4), some (.inl x5), some (.inl x6), some (.inl (x7 + (nI 1))), some (.inl x8), some (.inl x10), some (.inl (x10 + (nI 1)))]) dX12_when_136 rfl (by rw [show Int32.ofInt (1) = (nI 1) by decide]) rfl ?_
            refine z_goto (pc := 139) (tgt := 76) dX12_when_139 (by decide) ?_
            exact H
          · replace H := H.2 c9
            refine z_iload (pc := 128) dX12_when_128 rfl ?_
            refine z_istore (pc := 130) (ls' := [some (.inr (some (0, 12, 63))), some (.inl x1), some (.inl x2), some (.inl x3), some (.inl x4), some (.inl x5), some (.inl x6), some (.inl (x7 + (nI 1))), some (.inl x10), some (.inl x9), some (.inl x10)]) dX12_when_130 rfl rfl ?_
            refine z_iload (pc := 132) dX12_when_132 rfl ?_
            refine z_istore (pc := 134) (ls' := [some (.inr (some (0, 12, 63))), some (.inl x1), some (.inl x2), some (.inl x3), some (.inl x4), some (.inl x5), some (.inl x6), some (.inl (x7 + (nI 1))), some (.inl x10), some (.inl x10), some (.inl x10)]) dX12_when_134 rfl rfl ?_
            refine z_iinc (pc := 136) (v := (x10 + (nI 1))) (ls' := [some (.inr (some (0, 12, 63))), some (.inl x1), some (.inl x2), some (.inl x3), some (.inl x4), some (.inl x5), some (.inl x6), some (.inl (x7 + (nI 1))), some (.inl x10), some (.inl x10), some (.inl (x10 + (nI 1)))]) dX12_when_136 rfl (by rw [show Int32.ofInt (1) = (nI 1) by decide]) rfl ?_
            refine z_goto (pc := 139) (tgt := 76) dX12_when_139 (by decide) ?_
            exact H
        · replace H := H.2 c8
          refine z_goto (pc := 116) (tgt := 136) dX12_when_116 (by decide) ?_
          refine z_iinc (pc := 136) (v := (x10 + (nI 1))) (ls' := [some (.inr (some (0, 12, 63))), some (.inl x1), some (.inl x2), some (.inl x3), some (.inl x4), some (.inl x5), some (.inl x6), some (.inl x7), some (.inl x8), some (.inl x9), some (.inl (x10 + (nI 1)))]) dX12_when_136 rfl (by rw [show Int32.ofInt (1) = (nI 1) by decide]) rfl ?_
          refine z_goto (pc := 139) (tgt := 76) dX12_when_139 (by decide) ?_
          exact H

abbrev LX12_reason_81 (l : Launch) (E : eE) (d bc bs : Nat) (x1 : Int32) (x2 : Int32) (x3 : Int32) (x4 : Int32) (x5 : Int32) (x6 : Int32) (x7 : Int32) (h : aH) (Q : Int32 → aH → Prop) : Prop := TI l E mX12_reason d bc bs 81 [some (.inr (some (0, 12, 63))), some (.inl x1), some (.inl x2), some (.inl x3), some (.inl x4), some (.inl x5), some (.inl x6), some (.inl x7)] [] h Q

abbrev LX12_reason_133 (l : Launch) (E : eE) (d bc bs : Nat) (x1 : Int32) (x2 : Int32) (x3 : Int32) (x4 : Int32) (x5 : Int32) (x6 : Int32) (x7 : Int32) (h : aH) (Q : Int32 → aH → Prop) : Prop := TI l E mX12_reason d bc bs 133 [some (.inr (some (0, 12, 63))), some (.inl x1), some (.inl x2), some (.inl x3), some (.inl x4), some (.inl x5), some (.inl x6), some (.inl x7)] [] h Q

set_option maxRecDepth 20000 in
theorem bX12_reason_0 {l : Launch} {E : eE} {d bc bs : Nat} {h : aH} {Q : Int32 → aH → Prop} {x1 : Int32} {x2 : Int32} {x3 : Int32} (S : SR h) (H : (vp_in x1 12 ∧ ((knI x3) ∧ ((vp_in (hA h 65 (x1).toNatClampNeg) 8) ∧ ((¬ (nI 48) = 0) ∧ ((inI x1 (hI h 63 3)) ∧ ((0 ≤ (((x2 + (rOff h (hA h 65 (x1).toNatClampNeg) x2 (x3).toNatClampNeg)) - ((nI 48) * (rDown (x2 + (rOff h (hA h 65 (x1).toNatClampNeg) x2 (x3).toNatClampNeg)) (nI 48))))).toInt ∧ (((x2 + (rOff h (hA h 65 (x1).toNatClampNeg) x2 (x3).toNatClampNeg)) - ((nI 48) * (rDown (x2 + (rOff h (hA h 65 (x1).toNatClampNeg) x2 (x3).toNatClampNeg)) (nI 48))))).toInt < 48) ∧ ((¬ (rCost h x1 ((x2 + (rOff h (hA h 65 (x1).toNatClampNeg) x2 (x3).toNatClampNeg)) - ((nI 48) * (rDown (x2 + (rOff h (hA h 65 (x1).toNatClampNeg) x2 (x3).toNatClampNeg)) (nI 48))))) = (-1) → ((¬ (nI 7) = 0) ∧ ((¬ (((hA h 66 (x1).toNatClampNeg) >>> (((rDown (x2 + (rOff h (hA h 65 (x1).toNatClampNeg) x2 (x3).toNatClampNeg)) (nI 48)) - ((nI 7) * (rDown (rDown (x2 + (rOff h (hA h 65 (x1).toNatClampNeg) x2 (x3).toNatClampNeg)) (nI 48)) (nI 7)))) &&& 31)) &&& (nI 1)) = (nI 1) → LX12_reason_81 l E (d + 1) bc bs x1 x2 x3 (hA h 65 (x1).toNatClampNeg) (rOff h (hA h 65 (x1).toNatClampNeg) x2 (x3).toNatClampNeg) (rDown (x2 + (rOff h (hA h 65 (x1).toNatClampNeg) x2 (x3).toNatClampNeg)) (nI 48)) (nI 0) h Q) ∧ ((((hA h 66 (x1).toNatClampNeg) >>> (((rDown (x2 + (rOff h (hA h 65 (x1).toNatClampNeg) x2 (x3).toNatClampNeg)) (nI 48)) - ((nI 7) * (rDown (rDown (x2 + (rOff h (hA h 65 (x1).toNatClampNeg) x2 (x3).toNatClampNeg)) (nI 48)) (nI 7)))) &&& 31)) &&& (nI 1)) = (nI 1) → Q (nI 2) h)))) ∧ ((rCost h x1 ((x2 + (rOff h (hA h 65 (x1).toNatClampNeg) x2 (x3).toNatClampNeg)) - ((nI 48) * (rDown (x2 + (rOff h (hA h 65 (x1).toNatClampNeg) x2 (x3).toNatClampNeg)) (nI 48))))) = (-1) → Q (nI 1) h))))))))) : CI l E (d + 1) bc bs mX12_reason [.inr (some (0, 12, 63)), .inl x1, .inl x2, .inl x3] h Q := by
  refine CI.of (by decide) rfl ?_
  show TI l E mX12_reason (d + 1) bc bs 0 [some (.inr (some (0, 12, 63))), some (.inl x1), some (.inl x2), some (.inl x3), none, none, none, none] [] h Q
  refine z_aload_n (pc := 0) dX12_reason_0 rfl rfl ?_
  refine z_getk (pc := 1) dX12_reason_1 fX12_17 rfl (s_63_4 S.1) ?_
  refine z_iload_n (pc := 4) dX12_reason_4 rfl rfl ?_
  have c1 := H.1
  replace H := H.2
  refine z_iald (pc := 5) dX12_reason_5 c1 ?_
  refine z_istore (pc := 6) (ls' := [some (.inr (some (0, 12, 63))), some (.inl x1), some (.inl x2), some (.inl x3), some (.inl (hA h 65 (x1).toNatClampNeg)), none, none, none]) dX12_reason_6 rfl rfl ?_
  refine z_aload_n (pc := 8) dX12_reason_8 rfl rfl ?_
  refine z_iload (pc := 9) dX12_reason_9 rfl ?_
  refine z_iload_n (pc := 11) dX12_reason_11 rfl rfl ?_
  refine z_iload_n (pc := 12) dX12_reason_12 rfl rfl ?_
  have c2 := H.1
  replace H := H.2
  have c3 := H.1
  replace H := H.2
  refine y_VI (pc := 13) (bc := bc) (bs := bs) (mc := 0) (ms := 0) (As := [.inl (hA h 65 (x1).toNatClampNeg), .inl x2, .inl x3]) (rest := []) dX12_reason_13 kX12_offsetAt lX12_156 ⟨_, _, rfl⟩ rfl rfl (c_off S.1 c2 c3 ?_)
  refine z_istore (pc := 16) (ls' := [some (.inr (some (0, 12, 63))), some (.inl x1), some (.inl x2), some (.inl x3), some (.inl (hA h 65 (x1).toNatClampNeg)), some (.inl (rOff h (hA h 65 (x1).toNatClampNeg) x2 (x3).toNatClampNeg)), none, none]) dX12_reason_16 rfl rfl ?_
  refine z_iload_n (pc := 18) dX12_reason_18 rfl rfl ?_
  refine z_iload (pc := 19) dX12_reason_19 rfl ?_
  refine z_iadd (pc := 21) dX12_reason_21 ?_
  refine z_bipush (pc := 22) (v := (nI 48)) dX12_reason_22 (by decide) ?_
  have c4 := H.1
  replace H := H.2
  refine y_SI (pc := 24) (bc := bc) (bs := bs) (mc := 0) (ms := 0) (As := [.inl (x2 + (rOff h (hA h 65 (x1).toNatClampNeg) x2 (x3).toNatClampNeg)), .inl (nI 48)]) (rest := []) dX12_reason_24 kX12_down lX12_160 rfl rfl (c_down S.1 c4 ?_)
  refine z_istore (pc := 27) (ls' := [some (.inr (some (0, 12, 63))), some (.inl x1), some (.inl x2), some (.inl x3), some (.inl (hA h 65 (x1).toNatClampNeg)), some (.inl (rOff h (hA h 65 (x1).toNatClampNeg) x2 (x3).toNatClampNeg)), some (.inl (rDown (x2 + (rOff h (hA h 65 (x1).toNatClampNeg) x2 (x3).toNatClampNeg)) (nI 48))), none]) dX12_reason_27 rfl rfl ?_
  refine z_aload_n (pc := 29) dX12_reason_29 rfl rfl ?_
  refine z_iload_n (pc := 30) dX12_reason_30 rfl rfl ?_
  refine z_iload_n (pc := 31) dX12_reason_31 rfl rfl ?_
  refine z_iload (pc := 32) dX12_reason_32 rfl ?_
  refine z_iadd (pc := 34) dX12_reason_34 ?_
  refine z_bipush (pc := 35) (v := (nI 48)) dX12_reason_35 (by decide) ?_
  refine z_iload (pc := 37) dX12_reason_37 rfl ?_
  refine z_imul (pc := 39) dX12_reason_39 ?_
  refine z_isub (pc := 40) dX12_reason_40 ?_
  have c5 := H.1
  replace H := H.2
  have c6 := H.1
  replace H := H.2
  refine y_VI (pc := 41) (bc := bc) (bs := bs) (mc := 0) (ms := 0) (As := [.inl x1, .inl ((x2 + (rOff h (hA h 65 (x1).toNatClampNeg) x2 (x3).toNatClampNeg)) - ((nI 48) * (rDown (x2 + (rOff h (hA h 65 (x1).toNatClampNeg) x2 (x3).toNatClampNeg)) (nI 48))))]) (rest := []) dX12_reason_41 kX12_costAt lX12_164 ⟨_, _, rfl⟩ rfl rfl (c_costAt S c5 c6 ?_)
  refine z_iconst (pc := 44) (v := (-1)) dX12_reason_44 (by decide) ?_
  refine z_icmp_ne (pc := 45) (tgt := 50) dX12_reason_45 (by decide) (fun c7 => ?_) (fun c7 => ?_)
  · replace H := H.1 c7
    refine z_aload_n (pc := 50) dX12_reason_50 rfl rfl ?_
    refine z_getk (pc := 51) dX12_reason_51 fX12_20 rfl (s_63_5 S.1) ?_
    refine z_iload_n (pc := 54) dX12_reason_54 rfl rfl ?_
    refine z_iald (pc := 55) dX12_reason_55 c1 ?_
    refine z_iload (pc := 56) dX12_reason_56 rfl ?_
    refine z_bipush (pc := 58) (v := (nI 7)) dX12_reason_58 (by decide) ?_
    refine z_iload (pc := 60) dX12_reason_60 rfl ?_
    refine z_bipush (pc := 62) (v := (nI 7)) dX12_reason_62 (by decide) ?_
    have c8 := H.1
    replace H := H.2
    refine y_SI (pc := 64) (bc := bc) (bs := bs) (mc := 0) (ms := 0) (As := [.inl (rDown (x2 + (rOff h (hA h 65 (x1).toNatClampNeg) x2 (x3).toNatClampNeg)) (nI 48)), .inl (nI 7)]) (rest := [.inl (nI 7), .inl (rDown (x2 + (rOff h (hA h 65 (x1).toNatClampNeg) x2 (x3).toNatClampNeg)) (nI 48)), .inl (hA h 66 (x1).toNatClampNeg)]) dX12_reason_64 kX12_down lX12_160 rfl rfl (c_down S.1 c8 ?_)
    refine z_imul (pc := 67) dX12_reason_67 ?_
    refine z_isub (pc := 68) dX12_reason_68 ?_
    refine z_ishr (pc := 69) dX12_reason_69 ?_
    refine z_iconst (pc := 70) (v := (nI 1)) dX12_reason_70 (by decide) ?_
    refine z_iand (pc := 71) dX12_reason_71 ?_
    refine z_iconst (pc := 72) (v := (nI 1)) dX12_reason_72 (by decide) ?_
    refine z_icmp_ne (pc := 73) (tgt := 78) dX12_reason_73 (by decide) (fun c9 => ?_) (fun c9 => ?_)
    · replace H := H.1 c9
      refine z_iconst (pc := 78) (v := (nI 0)) dX12_reason_78 (by decide) ?_
      refine z_istore (pc := 79) (ls' := [some (.inr (some (0, 12, 63))), some (.inl x1), some (.inl x2), some (.inl x3), some (.inl (hA h 65 (x1).toNatClampNeg)), some (.inl (rOff h (hA h 65 (x1).toNatClampNeg) x2 (x3).toNatClampNeg)), some (.inl (rDown (x2 + (rOff h (hA h 65 (x1).toNatClampNeg) x2 (x3).toNatClampNeg)) (nI 48))), some (.inl (nI 0))]) dX12_reason_79 rfl rfl ?_
      exact H
    · replace H := H.2 c9
      refine z_iconst (pc := 76) (v := (nI 2)) dX12_reason_76 (by decide) ?_
      exact z_iret (pc := 77) dX12_reason_77 rfl rfl ⟨_, rfl, H⟩
  · replace H := H.2 c7
    refine z_iconst (pc := 48) (v := (nI 1)) dX12_reason_48 (by decide) ?_
    exact z_iret (pc := 49) dX12_reason_49 rfl rfl ⟨_, rfl, H⟩

set_option maxRecDepth 20000 in
theorem bX12_reason_81 {l : Launch} {E : eE} {d bc bs : Nat} {h : aH} {Q : Int32 → aH → Prop} {x1 : Int32} {x2 : Int32} {x3 : Int32} {x4 : Int32} {x5 : Int32} {x6 : Int32} {x7 : Int32} (S : SR h) (H : ((x3 ≤ x7 → LX12_reason_133 l E (d + 1) bc bs x1 x2 x3 x4 x5 x6 (nI 0) h Q) ∧ (¬ x3 ≤ x7 → (vp_in x7 400 ∧ ((¬ (hA h 69 (x7).toNatClampNeg) = (nI 1) → LX12_reason_81 l E (d + 1) bc bs x1 x2 x3 x4 x5 x6 (x7 + (nI 1)) h Q) ∧ ((hA h 69 (x7).toNatClampNeg) = (nI 1) → ((¬ (hA h 70 (x7).toNatClampNeg) = x4 → LX12_reason_81 l E (d + 1) bc bs x1 x2 x3 x4 x5 x6 (x7 + (nI 1)) h Q) ∧ ((hA h 70 (x7).toNatClampNeg) = x4 → ((¬ (hA h 71 (x7).toNatClampNeg) = x6 → LX12_reason_81 l E (d + 1) bc bs x1 x2 x3 x4 x5 x6 (x7 + (nI 1)) h Q) ∧ ((hA h 71 (x7).toNatClampNeg) = x6 → Q (nI 3) h)))))))))) : LX12_reason_81 l E (d + 1) bc bs x1 x2 x3 x4 x5 x6 x7 h Q := by
  refine z_iload (pc := 81) dX12_reason_81 rfl ?_
  refine z_iload_n (pc := 83) dX12_reason_83 rfl rfl ?_
  refine z_icmp_ge (pc := 84) (tgt := 130) dX12_reason_84 (by decide) (fun c1 => ?_) (fun c1 => ?_)
  · replace H := H.1 c1
    refine z_iconst (pc := 130) (v := (nI 0)) dX12_reason_130 (by decide) ?_
    refine z_istore (pc := 131) (ls' := [some (.inr (some (0, 12, 63))), some (.inl x1), some (.inl x2), some (.inl x3), some (.inl x4), some (.inl x5), some (.inl x6), some (.inl (nI 0))]) dX12_reason_131 rfl rfl ?_
    exact H
  · replace H := H.2 c1
    refine z_aload_n (pc := 87) dX12_reason_87 rfl rfl ?_
    refine z_getk (pc := 88) dX12_reason_88 fX12_29 rfl (s_63_9 S.1) ?_
    refine z_iload (pc := 91) dX12_reason_91 rfl ?_
    have c2 := H.1
    replace H := H.2
    refine z_iald (pc := 93) dX12_reason_93 c2 ?_
    refine z_iconst (pc := 94) (v := (nI 1)) dX12_reason_94 (by decide) ?_
    refine z_icmp_ne (pc := 95) (tgt := 124) dX12_reason_95 (by decide) (fun c3 => ?_) (fun c3 => ?_)
    · replace H := H.1 c3
      refine z_iinc (pc := 124) (v := (x7 + (nI 1))) (ls' := [some (.inr (some (0, 12, 63))), some (.inl x1), some (.inl x2), some (.inl x3), some (.inl x4), some (.inl x5), some (.inl x6), some (.inl (x7 + (nI 1)))]) dX12_reason_124 rfl (by rw [show Int32.ofInt (1) = (nI 1) by decide]) rfl ?_
      refine z_goto (pc := 127) (tgt := 81) dX12_reason_127 (by decide) ?_
      exact H
    · replace H := H.2 c3
      refine z_aload_n (pc := 98) dX12_reason_98 rfl rfl ?_
      refine z_getk (pc := 99) dX12_reason_99 fX12_32 rfl (s_63_10 S.1) ?_
      refine z_iload (pc := 102) dX12_reason_102 rfl ?_
      refine z_iald (pc := 104) dX12_reason_104 c2 ?_
      refine z_iload (pc := 105) dX12_reason_105 rfl ?_
      refine z_icmp_ne (pc := 107) (tgt := 124) dX12_reason_107 (by decide) (fun c4 => ?_) (fun c4 => ?_)
      · replace H := H.1 c4
        refine z_iinc (pc := 124) (v := (x7 + (nI 1))) (ls' := [some (.inr (some (0, 12, 63))), some (.inl x1), some (.inl x2), some (.inl x3), some (.inl x4), some (.inl x5), some (.inl x6), some (.inl (x7 + (nI 1)))]) dX12_reason_124 rfl (by rw [show Int32.ofInt (1) = (nI 1) by decide]) rfl ?_
        refine z_goto (pc := 127) (tgt := 81) dX12_reason_127 (by decide) ?_
        exact H
      · replace H := H.2 c4
        refine z_aload_n (pc := 110) dX12_reason_110 rfl rfl ?_
        refine z_getk (pc := 111) dX12_reason_111 fX12_35 rfl (s_63_11 S.1) ?_
        refine z_iload (pc := 114) dX12_reason_114 rfl ?_
        refine z_iald (pc := 116) dX12_reason_116 c2 ?_
        refine z_iload (pc := 117) dX12_reason_117 rfl ?_
        refine z_icmp_ne (pc := 119) (tgt := 124) dX12_reason_119 (by decide) (fun c5 => ?_) (fun c5 => ?_)
        · replace H := H.1 c5
          refine z_iinc (pc := 124) (v := (x7 + (nI 1))) (ls' := [some (.inr (some (0, 12, 63))), some (.inl x1), some (.inl x2), some (.inl x3), some (.inl x4), some (.inl x5), some (.inl x6), some (.inl (x7 + (nI 1)))]) dX12_reason_124 rfl (by rw [show Int32.ofInt (1) = (nI 1) by decide]) rfl ?_
          refine z_goto (pc := 127) (tgt := 81) dX12_reason_127 (by decide) ?_
          exact H
        · replace H := H.2 c5
          refine z_iconst (pc := 122) (v := (nI 3)) dX12_reason_122 (by decide) ?_
          exact z_iret (pc := 123) dX12_reason_123 rfl rfl ⟨_, rfl, H⟩

set_option maxRecDepth 20000 in
theorem bX12_reason_133 {l : Launch} {E : eE} {d bc bs : Nat} {h : aH} {Q : Int32 → aH → Prop} {x1 : Int32} {x2 : Int32} {x3 : Int32} {x4 : Int32} {x5 : Int32} {x6 : Int32} {x7 : Int32} (S : SR h) (H : ((x3 ≤ x7 → Q (nI 0) h) ∧ (¬ x3 ≤ x7 → (vp_in x7 400 ∧ ((¬ (hA h 69 (x7).toNatClampNeg) = (nI 2) → LX12_reason_133 l E (d + 1) bc bs x1 x2 x3 x4 x5 x6 (x7 + (nI 1)) h Q) ∧ ((hA h 69 (x7).toNatClampNeg) = (nI 2) → ((¬ (hA h 70 (x7).toNatClampNeg) = x1 → LX12_reason_133 l E (d + 1) bc bs x1 x2 x3 x4 x5 x6 (x7 + (nI 1)) h Q) ∧ ((hA h 70 (x7).toNatClampNeg) = x1 → ((x2 < (hA h 71 (x7).toNatClampNeg) → LX12_reason_133 l E (d + 1) bc bs x1 x2 x3 x4 x5 x6 (x7 + (nI 1)) h Q) ∧ (¬ x2 < (hA h 71 (x7).toNatClampNeg) → (((hA h 72 (x7).toNatClampNeg) ≤ x2 → LX12_reason_133 l E (d + 1) bc bs x1 x2 x3 x4 x5 x6 (x7 + (nI 1)) h Q) ∧ (¬ (hA h 72 (x7).toNatClampNeg) ≤ x2 → Q (nI 4) h)))))))))))) : LX12_reason_133 l E (d + 1) bc bs x1 x2 x3 x4 x5 x6 x7 h Q := by
  refine z_iload (pc := 133) dX12_reason_133 rfl ?_
  refine z_iload_n (pc := 135) dX12_reason_135 rfl rfl ?_
  refine z_icmp_ge (pc := 136) (tgt := 191) dX12_reason_136 (by decide) (fun c1 => ?_) (fun c1 => ?_)
  · replace H := H.1 c1
    refine z_iconst (pc := 191) (v := (nI 0)) dX12_reason_191 (by decide) ?_
    exact z_iret (pc := 192) dX12_reason_192 rfl rfl ⟨_, rfl, H⟩
  · replace H := H.2 c1
    refine z_aload_n (pc := 139) dX12_reason_139 rfl rfl ?_
    refine z_getk (pc := 140) dX12_reason_140 fX12_29 rfl (s_63_9 S.1) ?_
    refine z_iload (pc := 143) dX12_reason_143 rfl ?_
    have c2 := H.1
    replace H := H.2
    refine z_iald (pc := 145) dX12_reason_145 c2 ?_
    refine z_iconst (pc := 146) (v := (nI 2)) dX12_reason_146 (by decide) ?_
    refine z_icmp_ne (pc := 147) (tgt := 185) dX12_reason_147 (by decide) (fun c3 => ?_) (fun c3 => ?_)
    · replace H := H.1 c3
      refine z_iinc (pc := 185) (v := (x7 + (nI 1))) (ls' := [some (.inr (some (0, 12, 63))), some (.inl x1), some (.inl x2), some (.inl x3), some (.inl x4), some (.inl x5), some (.inl x6), some (.inl (x7 + (nI 1)))]) dX12_reason_185 rfl (by rw [show Int32.ofInt (1) = (nI 1) by decide]) rfl ?_
      refine z_goto (pc := 188) (tgt := 133) dX12_reason_188 (by decide) ?_
      exact H
    · replace H := H.2 c3
      refine z_aload_n (pc := 150) dX12_reason_150 rfl rfl ?_
      refine z_getk (pc := 151) dX12_reason_151 fX12_32 rfl (s_63_10 S.1) ?_
      refine z_iload (pc := 154) dX12_reason_154 rfl ?_
      refine z_iald (pc := 156) dX12_reason_156 c2 ?_
      refine z_iload_n (pc := 157) dX12_reason_157 rfl rfl ?_
      refine z_icmp_ne (pc := 158) (tgt := 185) dX12_reason_158 (by decide) (fun c4 => ?_) (fun c4 => ?_)
      · replace H := H.1 c4
        refine z_iinc (pc := 185) (v := (x7 + (nI 1))) (ls' := [some (.inr (some (0, 12, 63))), some (.inl x1), some (.inl x2), some (.inl x3), some (.inl x4), some (.inl x5), some (.inl x6), some (.inl (x7 + (nI 1)))]) dX12_reason_185 rfl (by rw [show Int32.ofInt (1) = (nI 1) by decide]) rfl ?_
        refine z_goto (pc := 188) (tgt := 133) dX12_reason_188 (by decide) ?_
        exact H
      · replace H := H.2 c4
        refine z_aload_n (pc := 161) dX12_reason_161 rfl rfl ?_
        refine z_getk (pc := 162) dX12_reason_162 fX12_35 rfl (s_63_11 S.1) ?_
        refine z_iload (pc := 165) dX12_reason_165 rfl ?_
        refine z_iald (pc := 167) dX12_reason_167 c2 ?_
        refine z_iload_n (pc := 168) dX12_reason_168 rfl rfl ?_
        refine z_icmp_gt (pc := 169) (tgt := 185) dX12_reason_169 (by decide) (fun c5 => ?_) (fun c5 => ?_)
        · replace H := H.1 c5
          refine z_iinc (pc := 185) (v := (x7 + (nI 1))) (ls' := [some (.inr (some (0, 12, 63))), some (.inl x1), some (.inl x2), some (.inl x3), some (.inl x4), some (.inl x5), some (.inl x6), some (.inl (x7 + (nI 1)))]) dX12_reason_185 rfl (by rw [show Int32.ofInt (1) = (nI 1) by decide]) rfl ?_
          refine z_goto (pc := 188) (tgt := 133) dX12_reason_188 (by decide) ?_
          exact H
        · replace H := H.2 c5
          refine z_iload_n (pc := 172) dX12_reason_172 rfl rfl ?_
          refine z_aload_n (pc := 173) dX12_reason_173 rfl rfl ?_
          refine z_getk (pc := 174) dX12_reason_174 fX12_38 rfl (s_63_12 S.1) ?_
          refine z_iload (pc := 177) dX12_reason_177 rfl ?_
          refine z_iald (pc := 179) dX12_reason_179 c2 ?_
          refine z_icmp_ge (pc := 180) (tgt := 185) dX12_reason_180 (by decide) (fun c6 => ?_) (fun c6 => ?_)
          · replace H := H.1 c6
            refine z_iinc (pc := 185) (v := (x7 + (nI 1))) (ls' := [some (.inr (some (0, 12, 63))), some (.inl x1), some (.inl x2), some (.inl x3), some (.inl x4), some (.inl x5), some (.inl x6), some (.inl (x7 + (nI 1)))]) dX12_reason_185 rfl (by rw [show Int32.ofInt (1) = (nI 1) by decide]) rfl ?_
            refine z_goto (pc := 188) (tgt := 133) dX12_reason_188 (by decide) ?_
            exact H
          · replace H := H.2 c6
            refine z_iconst (pc := 183) (v := (nI 4)) dX12_reason_183 (by decide) ?_
            exact z_iret (pc := 184) dX12_reason_184 rfl rfl ⟨_, rfl, H⟩

abbrev LX12_span_34 (l : Launch) (E : eE) (d bc bs : Nat) (x1 : Int32) (x2 : Int32) (x3 : Int32) (x4 : Int32) (h : aH) (Q : Int32 → aH → Prop) : Prop := TI l E mX12_span d bc bs 34 [some (.inr (some (0, 12, 63))), some (.inl x1), some (.inl x2), some (.inl x3), some (.inl x4)] [] h Q

set_option maxRecDepth 20000 in
theorem bX12_span_0 {l : Launch} {E : eE} {d bc bs : Nat} {h : aH} {Q : Int32 → aH → Prop} {x1 : Int32} {x2 : Int32} {x3 : Int32} (S : SR h) (H : ((¬ (inI x1 (hI h 63 3)) → Q (-1) h) ∧ ((inI x1 (hI h 63 3)) → ((x2 < 0 → Q (-1) h) ∧ (¬ x2 < 0 → (((nI 17472) ≤ x2 → Q (-1) h) ∧ (¬ (nI 17472) ≤ x2 → (((0 ≤ (x3).toInt ∧ (x3).toInt ≤ (hI h 63 8).toInt) → LX12_span_34 l E (d + 1) bc bs x1 x2 x3 (x3 - (nI 1)) h Q) ∧ (¬ (0 ≤ (x3).toInt ∧ (x3).toInt ≤ (hI h 63 8).toInt) → Q (-1) h))))))))) : CI l E (d + 1) bc bs mX12_span [.inr (some (0, 12, 63)), .inl x1, .inl x2, .inl x3] h Q := by
  refine CI.of (by decide) rfl ?_
  show TI l E mX12_span (d + 1) bc bs 0 [some (.inr (some (0, 12, 63))), some (.inl x1), some (.inl x2), some (.inl x3), none] [] h Q
  refine z_aload_n (pc := 0) dX12_span_0 rfl rfl ?_
  refine z_iload_n (pc := 1) dX12_span_1 rfl rfl ?_
  refine y_VI (pc := 2) (bc := bc) (bs := bs) (mc := 0) (ms := 0) (As := [.inl x1]) (rest := []) dX12_span_2 kX12_isPerson lX12_139 ⟨_, _, rfl⟩ rfl rfl (c_isPerson S.1 ?_)
  refine z_if_eq (pc := 5) (tgt := 27) dX12_span_5 (by decide) (fun c1 => ?_) (fun c1 => ?_)
  · replace H := H.1 (bI0.mp c1)
    refine z_iconst (pc := 27) (v := (-1)) dX12_span_27 (by decide) ?_
    exact z_iret (pc := 28) dX12_span_28 rfl rfl ⟨_, rfl, H⟩
  · replace H := H.2 (bI1.mp c1)
    refine z_iload_n (pc := 8) dX12_span_8 rfl rfl ?_
    refine z_if_lt (pc := 9) (tgt := 27) dX12_span_9 (by decide) (fun c2 => ?_) (fun c2 => ?_)
    · replace H := H.1 c2
      refine z_iconst (pc := 27) (v := (-1)) dX12_span_27 (by decide) ?_
      exact z_iret (pc := 28) dX12_span_28 rfl rfl ⟨_, rfl, H⟩
    · replace H := H.2 c2
      refine z_iload_n (pc := 12) dX12_span_12 rfl rfl ?_
      refine z_sipush (pc := 13) (v := (nI 17472)) dX12_span_13 (by decide) ?_
      refine z_icmp_ge (pc := 16) (tgt := 27) dX12_span_16 (by decide) (fun c3 => ?_) (fun c3 => ?_)
      · replace H := H.1 c3
        refine z_iconst (pc := 27) (v := (-1)) dX12_span_27 (by decide) ?_
        exact z_iret (pc := 28) dX12_span_28 rfl rfl ⟨_, rfl, H⟩
      · replace H := H.2 c3
        refine z_aload_n (pc := 19) dX12_span_19 rfl rfl ?_
        refine z_iload_n (pc := 20) dX12_span_20 rfl rfl ?_
        refine y_VI (pc := 21) (bc := bc) (bs := bs) (mc := 0) (ms := 0) (As := [.inl x3]) (rest := []) dX12_span_21 kX12_isKnown lX12_152 ⟨_, _, rfl⟩ rfl rfl (c_isKnown S.1 ?_)
        refine z_if_ne (pc := 24) (tgt := 29) dX12_span_24 (by decide) (fun c4 => ?_) (fun c4 => ?_)
        · replace H := H.1 (bI1.mp c4)
          refine z_iload_n (pc := 29) dX12_span_29 rfl rfl ?_
          refine z_iconst (pc := 30) (v := (nI 1)) dX12_span_30 (by decide) ?_
          refine z_isub (pc := 31) dX12_span_31 ?_
          refine z_istore (pc := 32) (ls' := [some (.inr (some (0, 12, 63))), some (.inl x1), some (.inl x2), some (.inl x3), some (.inl (x3 - (nI 1)))]) dX12_span_32 rfl rfl ?_
          exact H
        · replace H := H.2 (bI0.mp c4)
          refine z_iconst (pc := 27) (v := (-1)) dX12_span_27 (by decide) ?_
          exact z_iret (pc := 28) dX12_span_28 rfl rfl ⟨_, rfl, H⟩

set_option maxRecDepth 20000 in
theorem bX12_span_34 {l : Launch} {E : eE} {d bc bs : Nat} {h : aH} {Q : Int32 → aH → Prop} {x1 : Int32} {x2 : Int32} {x3 : Int32} {x4 : Int32} (S : SR h) (H : ((x4 < 0 → Q (-1) h) ∧ (¬ x4 < 0 → (vp_in x4 400 ∧ ((¬ (hA h 69 (x4).toNatClampNeg) = (nI 2) → LX12_span_34 l E (d + 1) bc bs x1 x2 x3 (x4 + (-1)) h Q) ∧ ((hA h 69 (x4).toNatClampNeg) = (nI 2) → ((¬ (hA h 70 (x4).toNatClampNeg) = x1 → LX12_span_34 l E (d + 1) bc bs x1 x2 x3 (x4 + (-1)) h Q) ∧ ((hA h 70 (x4).toNatClampNeg) = x1 → ((x2 < (hA h 71 (x4).toNatClampNeg) → LX12_span_34 l E (d + 1) bc bs x1 x2 x3 (x4 + (-1)) h Q) ∧ (¬ x2 < (hA h 71 (x4).toNatClampNeg) → (((hA h 72 (x4).toNatClampNeg) ≤ x2 → LX12_span_34 l E (d + 1) bc bs x1 x2 x3 (x4 + (-1)) h Q) ∧ (¬ (hA h 72 (x4).toNatClampNeg) ≤ x2 → (((hA h 73 (x4).toNatClampNeg) = 0 → Q x4 h) ∧ (¬ (hA h 73 (x4).toNatClampNeg) = 0 → Q (-2) h)))))))))))))) : LX12_span_34 l E (d + 1) bc bs x1 x2 x3 x4 h Q := by
  refine z_iload (pc := 34) dX12_span_34 rfl ?_
  refine z_if_lt (pc := 36) (tgt := 107) dX12_span_36 (by decide) (fun c1 => ?_) (fun c1 => ?_)
  · replace H := H.1 c1
    refine z_iconst (pc := 107) (v := (-1)) dX12_span_107 (by decide) ?_
    exact z_iret (pc := 108) dX12_span_108 rfl rfl ⟨_, rfl, H⟩
  · replace H := H.2 c1
    refine z_aload_n (pc := 39) dX12_span_39 rfl rfl ?_
    refine z_getk (pc := 40) dX12_span_40 fX12_29 rfl (s_63_9 S.1) ?_
    refine z_iload (pc := 43) dX12_span_43 rfl ?_
    have c2 := H.1
    replace H := H.2
    refine z_iald (pc := 45) dX12_span_45 c2 ?_
    refine z_iconst (pc := 46) (v := (nI 2)) dX12_span_46 (by decide) ?_
    refine z_icmp_ne (pc := 47) (tgt := 101) dX12_span_47 (by decide) (fun c3 => ?_) (fun c3 => ?_)
    · replace H := H.1 c3
      refine z_iinc (pc := 101) (v := (x4 + (-1))) (ls' := [some (.inr (some (0, 12, 63))), some (.inl x1), some (.inl x2), some (.inl x3), some (.inl (x4 + (-1)))]) dX12_span_101 rfl (by rw [show Int32.ofInt (-1) = (-1) by decide]) rfl ?_
      refine z_goto (pc := 104) (tgt := 34) dX12_span_104 (by decide) ?_
      exact H
    · replace H := H.2 c3
      refine z_aload_n (pc := 50) dX12_span_50 rfl rfl ?_
      refine z_getk (pc := 51) dX12_span_51 fX12_32 rfl (s_63_10 S.1) ?_
      refine z_iload (pc := 54) dX12_span_54 rfl ?_
      refine z_iald (pc := 56) dX12_span_56 c2 ?_
      refine z_iload_n (pc := 57) dX12_span_57 rfl rfl ?_
      refine z_icmp_ne (pc := 58) (tgt := 101) dX12_span_58 (by decide) (fun c4 => ?_) (fun c4 => ?_)
      · replace H := H.1 c4
        refine z_iinc (pc := 101) (v := (x4 + (-1))) (ls' := [some (.inr (some (0, 12, 63))), some (.inl x1), some (.inl x2), some (.inl x3), some (.inl (x4 + (-1)))]) dX12_span_101 rfl (by rw [show Int32.ofInt (-1) = (-1) by decide]) rfl ?_
        refine z_goto (pc := 104) (tgt := 34) dX12_span_104 (by decide) ?_
        exact H
      · replace H := H.2 c4
        refine z_aload_n (pc := 61) dX12_span_61 rfl rfl ?_
        refine z_getk (pc := 62) dX12_span_62 fX12_35 rfl (s_63_11 S.1) ?_
        refine z_iload (pc := 65) dX12_span_65 rfl ?_
        refine z_iald (pc := 67) dX12_span_67 c2 ?_
        refine z_iload_n (pc := 68) dX12_span_68 rfl rfl ?_
        refine z_icmp_gt (pc := 69) (tgt := 101) dX12_span_69 (by decide) (fun c5 => ?_) (fun c5 => ?_)
        · replace H := H.1 c5
          refine z_iinc (pc := 101) (v := (x4 + (-1))) (ls' := [some (.inr (some (0, 12, 63))), some (.inl x1), some (.inl x2), some (.inl x3), some (.inl (x4 + (-1)))]) dX12_span_101 rfl (by rw [show Int32.ofInt (-1) = (-1) by decide]) rfl ?_
          refine z_goto (pc := 104) (tgt := 34) dX12_span_104 (by decide) ?_
          exact H
        · replace H := H.2 c5
          refine z_iload_n (pc := 72) dX12_span_72 rfl rfl ?_
          refine z_aload_n (pc := 73) dX12_span_73 rfl rfl ?_
          refine z_getk (pc := 74) dX12_span_74 fX12_38 rfl (s_63_12 S.1) ?_
          refine z_iload (pc := 77) dX12_span_77 rfl ?_
          refine z_iald (pc := 79) dX12_span_79 c2 ?_
          refine z_icmp_ge (pc := 80) (tgt := 101) dX12_span_80 (by decide) (fun c6 => ?_) (fun c6 => ?_)
          · replace H := H.1 c6
            refine z_iinc (pc := 101) (v := (x4 + (-1))) (ls' := [some (.inr (some (0, 12, 63))), some (.inl x1), some (.inl x2), some (.inl x3), some (.inl (x4 + (-1)))]) dX12_span_101 rfl (by rw [show Int32.ofInt (-1) = (-1) by decide]) rfl ?_
            refine z_goto (pc := 104) (tgt := 34) dX12_span_104 (by decide) ?_
            exact H
          · replace H := H.2 c6
            refine z_aload_n (pc := 83) dX12_span_83 rfl rfl ?_
            refine z_getk (pc := 84) dX12_span_84 fX12_41 rfl (s_63_13 S.1) ?_
            refine z_iload (pc := 87) dX12_span_87 rfl ?_
            refine z_zald (pc := 89) dX12_span_89 c2 ?_
            refine z_if_eq (pc := 90) (tgt := 98) dX12_span_90 (by decide) (fun c7 => ?_) (fun c7 => ?_)
            · replace H := H.1 c7
              refine z_iload (pc := 98) dX12_span_98 rfl ?_
              exact z_iret (pc := 100) dX12_span_100 rfl rfl ⟨_, rfl, H⟩
            · replace H := H.2 c7
              refine z_bipush (pc := 93) (v := (-2)) dX12_span_93 (by decide) ?_
              refine z_goto (pc := 95) (tgt := 100) dX12_span_95 (by decide) ?_
              exact z_iret (pc := 100) dX12_span_100 rfl rfl ⟨_, rfl, H⟩

abbrev LX12_series_32 (l : Launch) (E : eE) (d bc bs : Nat) (x1 : Int32) (x2 : Int32) (x3 : Int32) (h : aH) (Q : Int32 → aH → Prop) : Prop := TI l E mX12_series d bc bs 32 [some (.inr (some (0, 12, 63))), some (.inl x1), some (.inl x2), some (.inl x3)] [] h Q

abbrev LX12_series_47 (l : Launch) (E : eE) (d bc bs : Nat) (x1 : Int32) (x2 : Int32) (x3 : Int32) (h : aH) (Q : Int32 → aH → Prop) : Prop := TI l E mX12_series d bc bs 47 [some (.inr (some (0, 12, 63))), some (.inl x1), some (.inl x2), some (.inl x3)] [] h Q

set_option maxRecDepth 20000 in
theorem bX12_series_0 {l : Launch} {E : eE} {d bc bs : Nat} {h : aH} {Q : Int32 → aH → Prop} {x1 : Int32} {x2 : Int32} {x3 : Int32} (S : SH h) (H : (((hI h 63 14) = (nI 4) → Q (-1) h) ∧ (¬ (hI h 63 14) = (nI 4) → ((x1 < (nI 1) → Q (-1) h) ∧ (¬ x1 < (nI 1) → (((nI 6) < x1 → Q (-1) h) ∧ (¬ (nI 6) < x1 → ((x2 = (-1) → LX12_series_32 l E (d + 1) bc bs x1 x2 x3 h Q) ∧ (¬ x2 = (-1) → ((¬ (inI x2 (hI h 63 14)) → Q (-1) h) ∧ ((inI x2 (hI h 63 14)) → LX12_series_32 l E (d + 1) bc bs x1 x2 x3 h Q))))))))))) : CI l E (d + 1) bc bs mX12_series [.inr (some (0, 12, 63)), .inl x1, .inl x2, .inl x3] h Q := by
  refine CI.of (by decide) rfl ?_
  show TI l E mX12_series (d + 1) bc bs 0 [some (.inr (some (0, 12, 63))), some (.inl x1), some (.inl x2), some (.inl x3)] [] h Q
  refine z_aload_n (pc := 0) dX12_series_0 rfl rfl ?_
  refine z_geti (pc := 1) dX12_series_1 fX12_126 rfl ?_
  refine z_iconst (pc := 4) (v := (nI 4)) dX12_series_4 (by decide) ?_
  refine z_icmp_eq (pc := 5) (tgt := 45) dX12_series_5 (by decide) (fun c1 => ?_) (fun c1 => ?_)
  · replace H := H.1 c1
    refine z_iconst (pc := 45) (v := (-1)) dX12_series_45 (by decide) ?_
    exact z_iret (pc := 46) dX12_series_46 rfl rfl ⟨_, rfl, H⟩
  · replace H := H.2 c1
    refine z_iload_n (pc := 8) dX12_series_8 rfl rfl ?_
    refine z_iconst (pc := 9) (v := (nI 1)) dX12_series_9 (by decide) ?_
    refine z_icmp_lt (pc := 10) (tgt := 45) dX12_series_10 (by decide) (fun c2 => ?_) (fun c2 => ?_)
    · replace H := H.1 c2
      refine z_iconst (pc := 45) (v := (-1)) dX12_series_45 (by decide) ?_
      exact z_iret (pc := 46) dX12_series_46 rfl rfl ⟨_, rfl, H⟩
    · replace H := H.2 c2
      refine z_iload_n (pc := 13) dX12_series_13 rfl rfl ?_
      refine z_bipush (pc := 14) (v := (nI 6)) dX12_series_14 (by decide) ?_
      refine z_icmp_gt (pc := 16) (tgt := 45) dX12_series_16 (by decide) (fun c3 => ?_) (fun c3 => ?_)
      · replace H := H.1 c3
        refine z_iconst (pc := 45) (v := (-1)) dX12_series_45 (by decide) ?_
        exact z_iret (pc := 46) dX12_series_46 rfl rfl ⟨_, rfl, H⟩
      · replace H := H.2 c3
        refine z_iload_n (pc := 19) dX12_series_19 rfl rfl ?_
        refine z_iconst (pc := 20) (v := (-1)) dX12_series_20 (by decide) ?_
        refine z_icmp_eq (pc := 21) (tgt := 32) dX12_series_21 (by decide) (fun c4 => ?_) (fun c4 => ?_)
        · replace H := H.1 c4
          exact H
        · replace H := H.2 c4
          refine z_aload_n (pc := 24) dX12_series_24 rfl rfl ?_
          refine z_iload_n (pc := 25) dX12_series_25 rfl rfl ?_
          refine y_VI (pc := 26) (bc := bc) (bs := bs) (mc := 0) (ms := 0) (As := [.inl x2]) (rest := []) dX12_series_26 kX12_isSeries lX12_146 ⟨_, _, rfl⟩ rfl rfl (c_isSeries S ?_)
          refine z_if_eq (pc := 29) (tgt := 45) dX12_series_29 (by decide) (fun c5 => ?_) (fun c5 => ?_)
          · replace H := H.1 (bI0.mp c5)
            refine z_iconst (pc := 45) (v := (-1)) dX12_series_45 (by decide) ?_
            exact z_iret (pc := 46) dX12_series_46 rfl rfl ⟨_, rfl, H⟩
          · replace H := H.2 (bI1.mp c5)
            exact H

set_option maxRecDepth 20000 in
theorem bX12_series_32 {l : Launch} {E : eE} {d bc bs : Nat} {h : aH} {Q : Int32 → aH → Prop} {x1 : Int32} {x2 : Int32} {x3 : Int32} (S : SH h) (H : ((x3 = (-1) → LX12_series_47 l E (d + 1) bc bs x1 x2 x3 h Q) ∧ (¬ x3 = (-1) → (((inI x3 (hI h 63 3)) → LX12_series_47 l E (d + 1) bc bs x1 x2 x3 h Q) ∧ (¬ (inI x3 (hI h 63 3)) → Q (-1) h))))) : LX12_series_32 l E (d + 1) bc bs x1 x2 x3 h Q := by
  refine z_iload_n (pc := 32) dX12_series_32 rfl rfl ?_
  refine z_iconst (pc := 33) (v := (-1)) dX12_series_33 (by decide) ?_
  refine z_icmp_eq (pc := 34) (tgt := 47) dX12_series_34 (by decide) (fun c1 => ?_) (fun c1 => ?_)
  · replace H := H.1 c1
    exact H
  · replace H := H.2 c1
    refine z_aload_n (pc := 37) dX12_series_37 rfl rfl ?_
    refine z_iload_n (pc := 38) dX12_series_38 rfl rfl ?_
    refine y_VI (pc := 39) (bc := bc) (bs := bs) (mc := 0) (ms := 0) (As := [.inl x3]) (rest := []) dX12_series_39 kX12_isPerson lX12_139 ⟨_, _, rfl⟩ rfl rfl (c_isPerson S ?_)
    refine z_if_ne (pc := 42) (tgt := 47) dX12_series_42 (by decide) (fun c2 => ?_) (fun c2 => ?_)
    · replace H := H.1 (bI1.mp c2)
      exact H
    · replace H := H.2 (bI0.mp c2)
      refine z_iconst (pc := 45) (v := (-1)) dX12_series_45 (by decide) ?_
      exact z_iret (pc := 46) dX12_series_46 rfl rfl ⟨_, rfl, H⟩

set_option maxRecDepth 20000 in
theorem bX12_series_47 {l : Launch} {E : eE} {d bc bs : Nat} {h : aH} {Q : Int32 → aH → Prop} {x1 : Int32} {x2 : Int32} {x3 : Int32} (S : SH h) (H : (vp_in (hI h 63 14) 4 ∧ Q (((hI h 63 14) + (nI 1)) - (nI 1)) (stI (stA (stA (stA h 74 ((hI h 63 14)).toNatClampNeg x1) 75 ((hI h 63 14)).toNatClampNeg x2) 76 ((hI h 63 14)).toNatClampNeg x3) 63 14 ((hI h 63 14) + (nI 1))))) : LX12_series_47 l E (d + 1) bc bs x1 x2 x3 h Q := by
  refine z_aload_n (pc := 47) dX12_series_47 rfl rfl ?_
  refine z_getk (pc := 48) dX12_series_48 fX12_45 rfl (s_63_15 S) ?_
  refine z_aload_n (pc := 51) dX12_series_51 rfl rfl ?_
  refine z_geti (pc := 52) dX12_series_52 fX12_126 rfl ?_
  refine z_iload_n (pc := 55) dX12_series_55 rfl rfl ?_
  have c1 := H.1
  replace H := H.2
  refine z_iast (pc := 56) dX12_series_56 c1 ?_
  refine z_aload_n (pc := 57) dX12_series_57 rfl rfl ?_
  refine z_getk (pc := 58) dX12_series_58 fX12_48 rfl (s_63_16 S) ?_
  refine z_aload_n (pc := 61) dX12_series_61 rfl rfl ?_
  refine z_geti (pc := 62) dX12_series_62 fX12_126 rfl ?_
  refine z_iload_n (pc := 65) dX12_series_65 rfl rfl ?_
  refine z_iast (pc := 66) dX12_series_66 c1 ?_
  refine z_aload_n (pc := 67) dX12_series_67 rfl rfl ?_
  refine z_getk (pc := 68) dX12_series_68 fX12_51 rfl (s_63_17 S) ?_
  refine z_aload_n (pc := 71) dX12_series_71 rfl rfl ?_
  refine z_geti (pc := 72) dX12_series_72 fX12_126 rfl ?_
  refine z_iload_n (pc := 75) dX12_series_75 rfl rfl ?_
  refine z_iast (pc := 76) dX12_series_76 c1 ?_
  refine z_aload_n (pc := 77) dX12_series_77 rfl rfl ?_
  refine z_dup (pc := 78) dX12_series_78 ?_
  refine z_geti (pc := 79) dX12_series_79 fX12_126 rfl ?_
  refine z_iconst (pc := 82) (v := (nI 1)) dX12_series_82 (by decide) ?_
  refine z_iadd (pc := 83) dX12_series_83 ?_
  refine z_puti (pc := 84) dX12_series_84 fX12_126 (uX12_14 _) rfl rfl rfl ?_
  refine z_aload_n (pc := 87) dX12_series_87 rfl rfl ?_
  refine z_geti (pc := 88) dX12_series_88 fX12_126 rfl ?_
  refine z_iconst (pc := 91) (v := (nI 1)) dX12_series_91 (by decide) ?_
  refine z_isub (pc := 92) dX12_series_92 ?_
  exact z_iret (pc := 93) dX12_series_93 rfl rfl ⟨_, rfl, H⟩

set_option maxRecDepth 20000 in
theorem bX12_option_0 {l : Launch} {E : eE} {d bc bs : Nat} {h : aH} {Q : Int32 → aH → Prop} {x1 : Int32} {x2 : Int32} (S : SH h) (H : ((¬ (inI x1 (hI h 63 14)) → Q (-1) h) ∧ ((inI x1 (hI h 63 14)) → (vp_in x1 4 ∧ (((hA h 77 (x1).toNatClampNeg) = (nI 6) → Q (-1) h) ∧ (¬ (hA h 77 (x1).toNatClampNeg) = (nI 6) → ((x2 < 0 → Q (-1) h) ∧ (¬ x2 < 0 → ((x2 < (nI 336) → (vp_in (((nI 6) * x1) + (hA h 77 (x1).toNatClampNeg)) 24 ∧ Q ((hA (stA (stA h 78 ((((nI 6) * x1) + (hA h 77 (x1).toNatClampNeg))).toNatClampNeg x2) 77 (x1).toNatClampNeg ((hA h 77 (x1).toNatClampNeg) + (nI 1))) 77 (x1).toNatClampNeg) - (nI 1)) (stA (stA h 78 ((((nI 6) * x1) + (hA h 77 (x1).toNatClampNeg))).toNatClampNeg x2) 77 (x1).toNatClampNeg ((hA h 77 (x1).toNatClampNeg) + (nI 1))))) ∧ (¬ x2 < (nI 336) → Q (-1) h)))))))))) : CI l E (d + 1) bc bs mX12_option [.inr (some (0, 12, 63)), .inl x1, .inl x2] h Q := by
  refine CI.of (by decide) rfl ?_
  show TI l E mX12_option (d + 1) bc bs 0 [some (.inr (some (0, 12, 63))), some (.inl x1), some (.inl x2)] [] h Q
  refine z_aload_n (pc := 0) dX12_option_0 rfl rfl ?_
  refine z_iload_n (pc := 1) dX12_option_1 rfl rfl ?_
  refine y_VI (pc := 2) (bc := bc) (bs := bs) (mc := 0) (ms := 0) (As := [.inl x1]) (rest := []) dX12_option_2 kX12_isSeries lX12_146 ⟨_, _, rfl⟩ rfl rfl (c_isSeries S ?_)
  refine z_if_eq (pc := 5) (tgt := 30) dX12_option_5 (by decide) (fun c1 => ?_) (fun c1 => ?_)
  · replace H := H.1 (bI0.mp c1)
    refine z_iconst (pc := 30) (v := (-1)) dX12_option_30 (by decide) ?_
    exact z_iret (pc := 31) dX12_option_31 rfl rfl ⟨_, rfl, H⟩
  · replace H := H.2 (bI1.mp c1)
    refine z_aload_n (pc := 8) dX12_option_8 rfl rfl ?_
    refine z_getk (pc := 9) dX12_option_9 fX12_54 rfl (s_63_18 S) ?_
    refine z_iload_n (pc := 12) dX12_option_12 rfl rfl ?_
    have c2 := H.1
    replace H := H.2
    refine z_iald (pc := 13) dX12_option_13 c2 ?_
    refine z_bipush (pc := 14) (v := (nI 6)) dX12_option_14 (by decide) ?_
    refine z_icmp_eq (pc := 16) (tgt := 30) dX12_option_16 (by decide) (fun c3 => ?_) (fun c3 => ?_)
    · replace H := H.1 c3
      refine z_iconst (pc := 30) (v := (-1)) dX12_option_30 (by decide) ?_
      exact z_iret (pc := 31) dX12_option_31 rfl rfl ⟨_, rfl, H⟩
    · replace H := H.2 c3
      refine z_iload_n (pc := 19) dX12_option_19 rfl rfl ?_
      refine z_if_lt (pc := 20) (tgt := 30) dX12_option_20 (by decide) (fun c4 => ?_) (fun c4 => ?_)
      · replace H := H.1 c4
        refine z_iconst (pc := 30) (v := (-1)) dX12_option_30 (by decide) ?_
        exact z_iret (pc := 31) dX12_option_31 rfl rfl ⟨_, rfl, H⟩
      · replace H := H.2 c4
        refine z_iload_n (pc := 23) dX12_option_23 rfl rfl ?_
        refine z_sipush (pc := 24) (v := (nI 336)) dX12_option_24 (by decide) ?_
        refine z_icmp_lt (pc := 27) (tgt := 32) dX12_option_27 (by decide) (fun c5 => ?_) (fun c5 => ?_)
        · replace H := H.1 c5
          refine z_aload_n (pc := 32) dX12_option_32 rfl rfl ?_
          refine z_getk (pc := 33) dX12_option_33 fX12_57 rfl (s_63_19 S) ?_
          refine z_bipush (pc := 36) (v := (nI 6)) dX12_option_36 (by decide) ?_
          refine z_iload_n (pc := 38) dX12_option_38 rfl rfl ?_
          refine z_imul (pc := 39) dX12_option_39 ?_
          refine z_aload_n (pc := 40) dX12_option_40 rfl rfl ?_
          refine z_getk (pc := 41) dX12_option_41 fX12_54 rfl (s_63_18 S) ?_
          refine z_iload_n (pc := 44) dX12_option_44 rfl rfl ?_
          refine z_iald (pc := 45) dX12_option_45 c2 ?_
          refine z_iadd (pc := 46) dX12_option_46 ?_
          refine z_iload_n (pc := 47) dX12_option_47 rfl rfl ?_
          have c6 := H.1
          replace H := H.2
          refine z_iast (pc := 48) dX12_option_48 c6 ?_
          refine z_aload_n (pc := 49) dX12_option_49 rfl rfl ?_
          refine z_getk (pc := 50) dX12_option_50 fX12_54 rfl (s_63_18 S) ?_
          refine z_iload_n (pc := 53) dX12_option_53 rfl rfl ?_
          refine z_dup2 (pc := 54) dX12_option_54 ?_
          refine z_iald (pc := 55) dX12_option_55 c2 ?_
          refine z_iconst (pc := 56) (v := (nI 1)) dX12_option_56 (by decide) ?_
          refine z_iadd (pc := 57) dX12_option_57 ?_
          refine z_iast (pc := 58) dX12_option_58 c2 ?_
          refine z_aload_n (pc := 59) dX12_option_59 rfl rfl ?_
          refine z_getk (pc := 60) dX12_option_60 fX12_54 rfl (s_63_18 S) ?_
          refine z_iload_n (pc := 63) dX12_option_63 rfl rfl ?_
          refine z_iald (pc := 64) dX12_option_64 c2 ?_
          refine z_iconst (pc := 65) (v := (nI 1)) dX12_option_65 (by decide) ?_
          refine z_isub (pc := 66) dX12_option_66 ?_
          exact z_iret (pc := 67) dX12_option_67 rfl rfl ⟨_, rfl, H⟩
        · replace H := H.2 c5
          refine z_iconst (pc := 30) (v := (-1)) dX12_option_30 (by decide) ?_
          exact z_iret (pc := 31) dX12_option_31 rfl rfl ⟨_, rfl, H⟩

set_option maxRecDepth 20000 in
theorem bX12_role_0 {l : Launch} {E : eE} {d bc bs : Nat} {h : aH} {Q : Int32 → aH → Prop} {x1 : Int32} {x2 : Int32} {x3 : Int32} (S : SH h) (H : ((¬ (inI x1 (hI h 63 14)) → Q (nI 0) h) ∧ ((inI x1 (hI h 63 14)) → ((¬ (inI x2 (hI h 63 3)) → Q (nI 0) h) ∧ ((inI x2 (hI h 63 3)) → ((x3 < 0 → Q (nI 0) h) ∧ (¬ x3 < 0 → ((x3 ≤ (nI 5) → (vp_in (((nI 12) * x1) + x2) 48 ∧ Q (nI 1) (stA h 79 ((((nI 12) * x1) + x2)).toNatClampNeg x3))) ∧ (¬ x3 ≤ (nI 5) → Q (nI 0) h))))))))) : CI l E (d + 1) bc bs mX12_role [.inr (some (0, 12, 63)), .inl x1, .inl x2, .inl x3] h Q := by
  refine CI.of (by decide) rfl ?_
  show TI l E mX12_role (d + 1) bc bs 0 [some (.inr (some (0, 12, 63))), some (.inl x1), some (.inl x2), some (.inl x3)] [] h Q
  refine z_aload_n (pc := 0) dX12_role_0 rfl rfl ?_
  refine z_iload_n (pc := 1) dX12_role_1 rfl rfl ?_
  refine y_VI (pc := 2) (bc := bc) (bs := bs) (mc := 0) (ms := 0) (As := [.inl x1]) (rest := []) dX12_role_2 kX12_isSeries lX12_146 ⟨_, _, rfl⟩ rfl rfl (c_isSeries S ?_)
  refine z_if_eq (pc := 5) (tgt := 25) dX12_role_5 (by decide) (fun c1 => ?_) (fun c1 => ?_)
  · replace H := H.1 (bI0.mp c1)
    refine z_iconst (pc := 25) (v := (nI 0)) dX12_role_25 (by decide) ?_
    exact z_iret (pc := 26) dX12_role_26 rfl rfl ⟨_, rfl, H⟩
  · replace H := H.2 (bI1.mp c1)
    refine z_aload_n (pc := 8) dX12_role_8 rfl rfl ?_
    refine z_iload_n (pc := 9) dX12_role_9 rfl rfl ?_
    refine y_VI (pc := 10) (bc := bc) (bs := bs) (mc := 0) (ms := 0) (As := [.inl x2]) (rest := []) dX12_role_10 kX12_isPerson lX12_139 ⟨_, _, rfl⟩ rfl rfl (c_isPerson S ?_)
    refine z_if_eq (pc := 13) (tgt := 25) dX12_role_13 (by decide) (fun c2 => ?_) (fun c2 => ?_)
    · replace H := H.1 (bI0.mp c2)
      refine z_iconst (pc := 25) (v := (nI 0)) dX12_role_25 (by decide) ?_
      exact z_iret (pc := 26) dX12_role_26 rfl rfl ⟨_, rfl, H⟩
    · replace H := H.2 (bI1.mp c2)
      refine z_iload_n (pc := 16) dX12_role_16 rfl rfl ?_
      refine z_if_lt (pc := 17) (tgt := 25) dX12_role_17 (by decide) (fun c3 => ?_) (fun c3 => ?_)
      · replace H := H.1 c3
        refine z_iconst (pc := 25) (v := (nI 0)) dX12_role_25 (by decide) ?_
        exact z_iret (pc := 26) dX12_role_26 rfl rfl ⟨_, rfl, H⟩
      · replace H := H.2 c3
        refine z_iload_n (pc := 20) dX12_role_20 rfl rfl ?_
        refine z_iconst (pc := 21) (v := (nI 5)) dX12_role_21 (by decide) ?_
        refine z_icmp_le (pc := 22) (tgt := 27) dX12_role_22 (by decide) (fun c4 => ?_) (fun c4 => ?_)
        · replace H := H.1 c4
          refine z_aload_n (pc := 27) dX12_role_27 rfl rfl ?_
          refine z_getk (pc := 28) dX12_role_28 fX12_60 rfl (s_63_20 S) ?_
          refine z_bipush (pc := 31) (v := (nI 12)) dX12_role_31 (by decide) ?_
          refine z_iload_n (pc := 33) dX12_role_33 rfl rfl ?_
          refine z_imul (pc := 34) dX12_role_34 ?_
          refine z_iload_n (pc := 35) dX12_role_35 rfl rfl ?_
          refine z_iadd (pc := 36) dX12_role_36 ?_
          refine z_iload_n (pc := 37) dX12_role_37 rfl rfl ?_
          have c5 := H.1
          replace H := H.2
          refine z_iast (pc := 38) dX12_role_38 c5 ?_
          refine z_iconst (pc := 39) (v := (nI 1)) dX12_role_39 (by decide) ?_
          exact z_iret (pc := 40) dX12_role_40 rfl rfl ⟨_, rfl, H⟩
        · replace H := H.2 c4
          refine z_iconst (pc := 25) (v := (nI 0)) dX12_role_25 (by decide) ?_
          exact z_iret (pc := 26) dX12_role_26 rfl rfl ⟨_, rfl, H⟩

set_option maxRecDepth 20000 in
theorem bX12_isAhead_0 {l : Launch} {E : eE} {d bc bs : Nat} {h : aH} {Q : Int32 → aH → Prop} {x0 : Int32} {x1 : Int32} (S : SH h) (H : (((rBits x0 12) = (rBits x1 12) → (((x0 &&& ((x0 ^^^ x1) &&& (0 - (x0 ^^^ x1)))) = 0 → Q (nI 0) h) ∧ (¬ (x0 &&& ((x0 ^^^ x1) &&& (0 - (x0 ^^^ x1)))) = 0 → Q (nI 1) h))) ∧ (¬ (rBits x0 12) = (rBits x1 12) → (((rBits x1 12) ≤ (rBits x0 12) → Q (nI 0) h) ∧ (¬ (rBits x1 12) ≤ (rBits x0 12) → Q (nI 1) h))))) : CI l E (d + 1) bc bs mX12_isAhead [.inl x0, .inl x1] h Q := by
  refine CI.of (by decide) rfl ?_
  show TI l E mX12_isAhead (d + 1) bc bs 0 [some (.inl x0), some (.inl x1), none] [] h Q
  refine z_iload_n (pc := 0) dX12_isAhead_0 rfl rfl ?_
  refine y_SI (pc := 1) (bc := bc) (bs := bs) (mc := 0) (ms := 0) (As := [.inl x0]) (rest := []) dX12_isAhead_1 kX12_bits lX12_254 rfl rfl (c_bits S ?_)
  refine z_iload_n (pc := 4) dX12_isAhead_4 rfl rfl ?_
  refine y_SI (pc := 5) (bc := bc) (bs := bs) (mc := 0) (ms := 0) (As := [.inl x1]) (rest := [.inl (rBits x0 12)]) dX12_isAhead_5 kX12_bits lX12_254 rfl rfl (c_bits S ?_)
  refine z_icmp_eq (pc := 8) (tgt := 28) dX12_isAhead_8 (by decide) (fun c1 => ?_) (fun c1 => ?_)
  · replace H := H.1 c1
    refine z_iload_n (pc := 28) dX12_isAhead_28 rfl rfl ?_
    refine z_iload_n (pc := 29) dX12_isAhead_29 rfl rfl ?_
    refine z_ixor (pc := 30) dX12_isAhead_30 ?_
    refine z_istore_n (pc := 31) (ls' := [some (.inl x0), some (.inl x1), some (.inl (x0 ^^^ x1))]) dX12_isAhead_31 rfl rfl rfl ?_
    refine z_iload_n (pc := 32) dX12_isAhead_32 rfl rfl ?_
    refine z_iload_n (pc := 33) dX12_isAhead_33 rfl rfl ?_
    refine z_iload_n (pc := 34) dX12_isAhead_34 rfl rfl ?_
    refine z_ineg (pc := 35) dX12_isAhead_35 ?_
    refine z_iand (pc := 36) dX12_isAhead_36 ?_
    refine z_iand (pc := 37) dX12_isAhead_37 ?_
    refine z_if_eq (pc := 38) (tgt := 45) dX12_isAhead_38 (by decide) (fun c2 => ?_) (fun c2 => ?_)
    · replace H := H.1 c2
      refine z_iconst (pc := 45) (v := (nI 0)) dX12_isAhead_45 (by decide) ?_
      exact z_iret (pc := 46) dX12_isAhead_46 rfl rfl ⟨_, rfl, H⟩
    · replace H := H.2 c2
      refine z_iconst (pc := 41) (v := (nI 1)) dX12_isAhead_41 (by decide) ?_
      refine z_goto (pc := 42) (tgt := 46) dX12_isAhead_42 (by decide) ?_
      exact z_iret (pc := 46) dX12_isAhead_46 rfl rfl ⟨_, rfl, H⟩
  · replace H := H.2 c1
    refine z_iload_n (pc := 11) dX12_isAhead_11 rfl rfl ?_
    refine y_SI (pc := 12) (bc := bc) (bs := bs) (mc := 0) (ms := 0) (As := [.inl x0]) (rest := []) dX12_isAhead_12 kX12_bits lX12_254 rfl rfl (c_bits S ?_)
    refine z_iload_n (pc := 15) dX12_isAhead_15 rfl rfl ?_
    refine y_SI (pc := 16) (bc := bc) (bs := bs) (mc := 0) (ms := 0) (As := [.inl x1]) (rest := [.inl (rBits x0 12)]) dX12_isAhead_16 kX12_bits lX12_254 rfl rfl (c_bits S ?_)
    refine z_icmp_ge (pc := 19) (tgt := 26) dX12_isAhead_19 (by decide) (fun c3 => ?_) (fun c3 => ?_)
    · replace H := H.1 c3
      refine z_iconst (pc := 26) (v := (nI 0)) dX12_isAhead_26 (by decide) ?_
      exact z_iret (pc := 27) dX12_isAhead_27 rfl rfl ⟨_, rfl, H⟩
    · replace H := H.2 c3
      refine z_iconst (pc := 22) (v := (nI 1)) dX12_isAhead_22 (by decide) ?_
      refine z_goto (pc := 23) (tgt := 27) dX12_isAhead_23 (by decide) ?_
      exact z_iret (pc := 27) dX12_isAhead_27 rfl rfl ⟨_, rfl, H⟩

set_option maxRecDepth 20000 in
theorem bX12_planned_0 {l : Launch} {E : eE} {d bc bs : Nat} {h : aH} {Q : Int32 → aH → Prop} {x1 : Int32} {x2 : Int32} {x3 : Int32} (S : SH h) (H : ((¬ (inI x1 (hI h 63 14)) → Q (-1) h) ∧ ((inI x1 (hI h 63 14)) → ((¬ (0 ≤ (x2).toInt ∧ (x2).toInt < 52) → Q (-1) h) ∧ ((0 ≤ (x2).toInt ∧ (x2).toInt < 52) → ((x3 < 0 → Q (-1) h) ∧ (¬ x3 < 0 → ((x3 ≤ (nI 3) → (vp_in (((nI 2) * (((nI 52) * x1) + x2)) + (x3 - x3 / (nI 2) * (nI 2))) 416 ∧ (vp_in ((nI 2) * (((nI 52) * x1) + x2)) 416 ∧ (((hA h 80 (((nI 2) * (((nI 52) * x1) + x2))).toNatClampNeg) = (-1) → Q (hA h 80 ((((nI 2) * (((nI 52) * x1) + x2)) + (x3 - x3 / (nI 2) * (nI 2)))).toNatClampNeg) h) ∧ (¬ (hA h 80 (((nI 2) * (((nI 52) * x1) + x2))).toNatClampNeg) = (-1) → (((hA h 80 ((((nI 2) * (((nI 52) * x1) + x2)) + (x3 - x3 / (nI 2) * (nI 2)))).toNatClampNeg) = (-1) → Q (hA h 80 ((((nI 2) * (((nI 52) * x1) + x2)) + (x3 - x3 / (nI 2) * (nI 2)))).toNatClampNeg) h) ∧ (¬ (hA h 80 ((((nI 2) * (((nI 52) * x1) + x2)) + (x3 - x3 / (nI 2) * (nI 2)))).toNatClampNeg) = (-1) → (((nI 2) ≤ x3 → (vp_in (((nI 6) * x1) + (hA h 80 ((((nI 2) * (((nI 52) * x1) + x2)) + (x3 - x3 / (nI 2) * (nI 2)))).toNatClampNeg)) 24 ∧ Q (((nI 336) * x2) + (hA h 78 ((((nI 6) * x1) + (hA h 80 ((((nI 2) * (((nI 52) * x1) + x2)) + (x3 - x3 / (nI 2) * (nI 2)))).toNatClampNeg))).toNatClampNeg)) h)) ∧ (¬ (nI 2) ≤ x3 → Q (hA h 80 ((((nI 2) * (((nI 52) * x1) + x2)) + (x3 - x3 / (nI 2) * (nI 2)))).toNatClampNeg) h))))))))) ∧ (¬ x3 ≤ (nI 3) → Q (-1) h))))))))) : CI l E (d + 1) bc bs mX12_planned [.inr (some (0, 12, 63)), .inl x1, .inl x2, .inl x3] h Q := by
  refine CI.of (by decide) rfl ?_
  show TI l E mX12_planned (d + 1) bc bs 0 [some (.inr (some (0, 12, 63))), some (.inl x1), some (.inl x2), some (.inl x3), none] [] h Q
  refine z_aload_n (pc := 0) dX12_planned_0 rfl rfl ?_
  refine z_iload_n (pc := 1) dX12_planned_1 rfl rfl ?_
  refine y_VI (pc := 2) (bc := bc) (bs := bs) (mc := 0) (ms := 0) (As := [.inl x1]) (rest := []) dX12_planned_2 kX12_isSeries lX12_146 ⟨_, _, rfl⟩ rfl rfl (c_isSeries S ?_)
  refine z_if_eq (pc := 5) (tgt := 24) dX12_planned_5 (by decide) (fun c1 => ?_) (fun c1 => ?_)
  · replace H := H.1 (bI0.mp c1)
    refine z_iconst (pc := 24) (v := (-1)) dX12_planned_24 (by decide) ?_
    exact z_iret (pc := 25) dX12_planned_25 rfl rfl ⟨_, rfl, H⟩
  · replace H := H.2 (bI1.mp c1)
    refine z_iload_n (pc := 8) dX12_planned_8 rfl rfl ?_
    refine y_SI (pc := 9) (bc := bc) (bs := bs) (mc := 0) (ms := 0) (As := [.inl x2]) (rest := []) dX12_planned_9 kX12_isWeek lX12_149 rfl rfl (c_isWeek S ?_)
    refine z_if_eq (pc := 12) (tgt := 24) dX12_planned_12 (by decide) (fun c2 => ?_) (fun c2 => ?_)
    · replace H := H.1 (bI0.mp c2)
      refine z_iconst (pc := 24) (v := (-1)) dX12_planned_24 (by decide) ?_
      exact z_iret (pc := 25) dX12_planned_25 rfl rfl ⟨_, rfl, H⟩
    · replace H := H.2 (bI1.mp c2)
      refine z_iload_n (pc := 15) dX12_planned_15 rfl rfl ?_
      refine z_if_lt (pc := 16) (tgt := 24) dX12_planned_16 (by decide) (fun c3 => ?_) (fun c3 => ?_)
      · replace H := H.1 c3
        refine z_iconst (pc := 24) (v := (-1)) dX12_planned_24 (by decide) ?_
        exact z_iret (pc := 25) dX12_planned_25 rfl rfl ⟨_, rfl, H⟩
      · replace H := H.2 c3
        refine z_iload_n (pc := 19) dX12_planned_19 rfl rfl ?_
        refine z_iconst (pc := 20) (v := (nI 3)) dX12_planned_20 (by decide) ?_
        refine z_icmp_le (pc := 21) (tgt := 26) dX12_planned_21 (by decide) (fun c4 => ?_) (fun c4 => ?_)
        · replace H := H.1 c4
          refine z_aload_n (pc := 26) dX12_planned_26 rfl rfl ?_
          refine z_getk (pc := 27) dX12_planned_27 fX12_63 rfl (s_63_21 S) ?_
          refine z_iconst (pc := 30) (v := (nI 2)) dX12_planned_30 (by decide) ?_
          refine z_bipush (pc := 31) (v := (nI 52)) dX12_planned_31 (by decide) ?_
          refine z_iload_n (pc := 33) dX12_planned_33 rfl rfl ?_
          refine z_imul (pc := 34) dX12_planned_34 ?_
          refine z_iload_n (pc := 35) dX12_planned_35 rfl rfl ?_
          refine z_iadd (pc := 36) dX12_planned_36 ?_
          refine z_imul (pc := 37) dX12_planned_37 ?_
          refine z_iload_n (pc := 38) dX12_planned_38 rfl rfl ?_
          refine z_iconst (pc := 39) (v := (nI 2)) dX12_planned_39 (by decide) ?_
          refine z_irem (pc := 40) dX12_planned_40 (by decide) ?_
          refine z_iadd (pc := 41) dX12_planned_41 ?_
          have c5 := H.1
          replace H := H.2
          refine z_iald (pc := 42) dX12_planned_42 c5 ?_
          refine z_istore (pc := 43) (ls' := [some (.inr (some (0, 12, 63))), some (.inl x1), some (.inl x2), some (.inl x3), some (.inl (hA h 80 ((((nI 2) * (((nI 52) * x1) + x2)) + (x3 - x3 / (nI 2) * (nI 2)))).toNatClampNeg))]) dX12_planned_43 rfl rfl ?_
          refine z_aload_n (pc := 45) dX12_planned_45 rfl rfl ?_
          refine z_getk (pc := 46) dX12_planned_46 fX12_63 rfl (s_63_21 S) ?_
          refine z_iconst (pc := 49) (v := (nI 2)) dX12_planned_49 (by decide) ?_
          refine z_bipush (pc := 50) (v := (nI 52)) dX12_planned_50 (by decide) ?_
          refine z_iload_n (pc := 52) dX12_planned_52 rfl rfl ?_
          refine z_imul (pc := 53) dX12_planned_53 ?_
          refine z_iload_n (pc := 54) dX12_planned_54 rfl rfl ?_
          refine z_iadd (pc := 55) dX12_planned_55 ?_
          refine z_imul (pc := 56) dX12_planned_56 ?_
          have c6 := H.1
          replace H := H.2
          refine z_iald (pc := 57) dX12_planned_57 c6 ?_
          refine z_iconst (pc := 58) (v := (-1)) dX12_planned_58 (by decide) ?_
          refine z_icmp_eq (pc := 59) (tgt := 73) dX12_planned_59 (by decide) (fun c7 => ?_) (fun c7 => ?_)
          · replace H := H.1 c7
            refine z_iload (pc := 73) dX12_planned_73 rfl ?_
            exact z_iret (pc := 75) dX12_planned_75 rfl rfl ⟨_, rfl, H⟩
          · replace H := H.2 c7
            refine z_iload (pc := 62) dX12_planned_62 rfl ?_
            refine z_iconst (pc := 64) (v := (-1)) dX12_planned_64 (by decide) ?_
            refine z_icmp_eq (pc := 65) (tgt := 73) dX12_planned_65 (by decide) (fun c8 => ?_) (fun c8 => ?_)
            · replace H := H.1 c8
              refine z_iload (pc := 73) dX12_planned_73 rfl ?_
              exact z_iret (pc := 75) dX12_planned_75 rfl rfl ⟨_, rfl, H⟩
            · replace H := H.2 c8
              refine z_iload_n (pc := 68) dX12_planned_68 rfl rfl ?_
              refine z_iconst (pc := 69) (v := (nI 2)) dX12_planned_69 (by decide) ?_
              refine z_icmp_ge (pc := 70) (tgt := 76) dX12_planned_70 (by decide) (fun c9 => ?_) (fun c9 => ?_)
              · replace H := H.1 c9
                refine z_sipush (pc := 76) (v := (nI 336)) dX12_planned_76 (by decide) ?_
                refine z_iload_n (pc := 79) dX12_planned_79 rfl rfl ?_
                refine z_imul (pc := 80) dX12_planned_80 ?_
                refine z_aload_n (pc := 81) dX12_planned_81 rfl rfl ?_
                refine z_getk (pc := 82) dX12_planned_82 fX12_57 rfl (s_63_19 S) ?_
                refine z_bipush (pc := 85) (v := (nI 6)) dX12_planned_85 (by decide) ?_
                refine z_iload_n (pc := 87) dX12_planned_87 rfl rfl ?_
                refine z_imul (pc := 88) dX12_planned_88 ?_
                refine z_iload (pc := 89) dX12_planned_89 rfl ?_
                refine z_iadd (pc := 91) dX12_planned_91 ?_
                have c10 := H.1
                replace H := H.2
                refine z_iald (pc := 92) dX12_planned_92 c10 ?_
                refine z_iadd (pc := 93) dX12_planned_93 ?_
                exact z_iret (pc := 94) dX12_planned_94 rfl rfl ⟨_, rfl, H⟩
              · replace H := H.2 c9
                refine z_iload (pc := 73) dX12_planned_73 rfl ?_
                exact z_iret (pc := 75) dX12_planned_75 rfl rfl ⟨_, rfl, H⟩
        · replace H := H.2 c4
          refine z_iconst (pc := 24) (v := (-1)) dX12_planned_24 (by decide) ?_
          exact z_iret (pc := 25) dX12_planned_25 rfl rfl ⟨_, rfl, H⟩

abbrev LX12_isShifted_3 (l : Launch) (E : eE) (d bc bs : Nat) (x1 : Int32) (x2 : Int32) (x3 : Int32) (x4 : Int32) (x5 : Int32) (h : aH) (Q : Int32 → aH → Prop) : Prop := TI l E mX12_isShifted d bc bs 3 [some (.inr (some (0, 12, 63))), some (.inl x1), some (.inl x2), some (.inl x3), some (.inl x4), some (.inl x5)] [] h Q

set_option maxRecDepth 20000 in
theorem bX12_isShifted_0 {l : Launch} {E : eE} {d bc bs : Nat} {h : aH} {Q : Int32 → aH → Prop} {x1 : Int32} {x2 : Int32} {x3 : Int32} {x4 : Int32} (S : SH h) (H : LX12_isShifted_3 l E (d + 1) bc bs x1 x2 x3 x4 (nI 0) h Q) : CI l E (d + 1) bc bs mX12_isShifted [.inr (some (0, 12, 63)), .inl x1, .inl x2, .inl x3, .inl x4] h Q := by
  refine CI.of (by decide) rfl ?_
  show TI l E mX12_isShifted (d + 1) bc bs 0 [some (.inr (some (0, 12, 63))), some (.inl x1), some (.inl x2), some (.inl x3), some (.inl x4), none] [] h Q
  refine z_iconst (pc := 0) (v := (nI 0)) dX12_isShifted_0 (by decide) ?_
  refine z_istore (pc := 1) (ls' := [some (.inr (some (0, 12, 63))), some (.inl x1), some (.inl x2), some (.inl x3), some (.inl x4), some (.inl (nI 0))]) dX12_isShifted_1 rfl rfl ?_
  exact H

set_option maxRecDepth 20000 in
theorem bX12_isShifted_3 {l : Launch} {E : eE} {d bc bs : Nat} {h : aH} {Q : Int32 → aH → Prop} {x1 : Int32} {x2 : Int32} {x3 : Int32} {x4 : Int32} {x5 : Int32} (S : SH h) (H : (((hI h 63 3) ≤ x5 → Q (nI 0) h) ∧ (¬ (hI h 63 3) ≤ x5 → (vp_in (((nI 12) * x1) + x5) 48 ∧ (((hA h 79 ((((nI 12) * x1) + x5)).toNatClampNeg) ≤ 0 → LX12_isShifted_3 l E (d + 1) bc bs x1 x2 x3 x4 (x5 + (nI 1)) h Q) ∧ (¬ (hA h 79 ((((nI 12) * x1) + x5)).toNatClampNeg) ≤ 0 → (vp_in x5 12 ∧ ((knI x3) ∧ ((vp_in (hA h 65 (x5).toNatClampNeg) 8) ∧ ((knI x4) ∧ ((vp_in (hA h 65 (x5).toNatClampNeg) 8) ∧ (((rOff h (hA h 65 (x5).toNatClampNeg) x2 (x3).toNatClampNeg) = (rOff h (hA h 65 (x5).toNatClampNeg) x2 (x4).toNatClampNeg) → LX12_isShifted_3 l E (d + 1) bc bs x1 x2 x3 x4 (x5 + (nI 1)) h Q) ∧ (¬ (rOff h (hA h 65 (x5).toNatClampNeg) x2 (x3).toNatClampNeg) = (rOff h (hA h 65 (x5).toNatClampNeg) x2 (x4).toNatClampNeg) → Q (nI 1) h))))))))))))) : LX12_isShifted_3 l E (d + 1) bc bs x1 x2 x3 x4 x5 h Q := by
  refine z_iload (pc := 3) dX12_isShifted_3 rfl ?_
  refine z_aload_n (pc := 5) dX12_isShifted_5 rfl rfl ?_
  refine z_geti (pc := 6) dX12_isShifted_6 fX12_123 rfl ?_
  refine z_icmp_ge (pc := 9) (tgt := 65) dX12_isShifted_9 (by decide) (fun c1 => ?_) (fun c1 => ?_)
  · replace H := H.1 c1
    refine z_iconst (pc := 65) (v := (nI 0)) dX12_isShifted_65 (by decide) ?_
    exact z_iret (pc := 66) dX12_isShifted_66 rfl rfl ⟨_, rfl, H⟩
  · replace H := H.2 c1
    refine z_aload_n (pc := 12) dX12_isShifted_12 rfl rfl ?_
    refine z_getk (pc := 13) dX12_isShifted_13 fX12_60 rfl (s_63_20 S) ?_
    refine z_bipush (pc := 16) (v := (nI 12)) dX12_isShifted_16 (by decide) ?_
    refine z_iload_n (pc := 18) dX12_isShifted_18 rfl rfl ?_
    refine z_imul (pc := 19) dX12_isShifted_19 ?_
    refine z_iload (pc := 20) dX12_isShifted_20 rfl ?_
    refine z_iadd (pc := 22) dX12_isShifted_22 ?_
    have c2 := H.1
    replace H := H.2
    refine z_iald (pc := 23) dX12_isShifted_23 c2 ?_
    refine z_if_le (pc := 24) (tgt := 59) dX12_isShifted_24 (by decide) (fun c3 => ?_) (fun c3 => ?_)
    · replace H := H.1 c3
      refine z_iinc (pc := 59) (v := (x5 + (nI 1))) (ls' := [some (.inr (some (0, 12, 63))), some (.inl x1), some (.inl x2), some (.inl x3), some (.inl x4), some (.inl (x5 + (nI 1)))]) dX12_isShifted_59 rfl (by rw [show Int32.ofInt (1) = (nI 1) by decide]) rfl ?_
      refine z_goto (pc := 62) (tgt := 3) dX12_isShifted_62 (by decide) ?_
      exact H
    · replace H := H.2 c3
      refine z_aload_n (pc := 27) dX12_isShifted_27 rfl rfl ?_
      refine z_aload_n (pc := 28) dX12_isShifted_28 rfl rfl ?_
      refine z_getk (pc := 29) dX12_isShifted_29 fX12_17 rfl (s_63_4 S) ?_
      refine z_iload (pc := 32) dX12_isShifted_32 rfl ?_
      have c4 := H.1
      replace H := H.2
      refine z_iald (pc := 34) dX12_isShifted_34 c4 ?_
      refine z_iload_n (pc := 35) dX12_isShifted_35 rfl rfl ?_
      refine z_iload_n (pc := 36) dX12_isShifted_36 rfl rfl ?_
      have c5 := H.1
      replace H := H.2
      have c6 := H.1
      replace H := H.2
      refine y_VI (pc := 37) (bc := bc) (bs := bs) (mc := 0) (ms := 0) (As := [.inl (hA h 65 (x5).toNatClampNeg), .inl x2, .inl x3]) (rest := []) dX12_isShifted_37 kX12_offsetAt lX12_156 ⟨_, _, rfl⟩ rfl rfl (c_off S c5 c6 ?_)
      refine z_aload_n (pc := 40) dX12_isShifted_40 rfl rfl ?_
      refine z_aload_n (pc := 41) dX12_isShifted_41 rfl rfl ?_
      refine z_getk (pc := 42) dX12_isShifted_42 fX12_17 rfl (s_63_4 S) ?_
      refine z_iload (pc := 45) dX12_isShifted_45 rfl ?_
      refine z_iald (pc := 47) dX12_isShifted_47 c4 ?_
      refine z_iload_n (pc := 48) dX12_isShifted_48 rfl rfl ?_
      refine z_iload (pc := 49) dX12_isShifted_49 rfl ?_
      have c7 := H.1
      replace H := H.2
      have c8 := H.1
      replace H := H.2
      refine y_VI (pc := 51) (bc := bc) (bs := bs) (mc := 0) (ms := 0) (As := [.inl (hA h 65 (x5).toNatClampNeg), .inl x2, .inl x4]) (rest := [.inl (rOff h (hA h 65 (x5).toNatClampNeg) x2 (x3).toNatClampNeg)]) dX12_isShifted_51 kX12_offsetAt lX12_156 ⟨_, _, rfl⟩ rfl rfl (c_off S c7 c8 ?_)
      refine z_icmp_eq (pc := 54) (tgt := 59) dX12_isShifted_54 (by decide) (fun c9 => ?_) (fun c9 => ?_)
      · replace H := H.1 c9
        refine z_iinc (pc := 59) (v := (x5 + (nI 1))) (ls' := [some (.inr (some (0, 12, 63))), some (.inl x1), some (.inl x2), some (.inl x3), some (.inl x4), some (.inl (x5 + (nI 1)))]) dX12_isShifted_59 rfl (by rw [show Int32.ofInt (1) = (nI 1) by decide]) rfl ?_
        refine z_goto (pc := 62) (tgt := 3) dX12_isShifted_62 (by decide) ?_
        exact H
      · replace H := H.2 c9
        refine z_iconst (pc := 57) (v := (nI 1)) dX12_isShifted_57 (by decide) ?_
        exact z_iret (pc := 58) dX12_isShifted_58 rfl rfl ⟨_, rfl, H⟩

set_option maxRecDepth 20000 in
theorem bX12_isSpan_0 {l : Launch} {E : eE} {d bc bs : Nat} {h : aH} {Q : Int32 → aH → Prop} {x1 : Int32} {x2 : Int32} {x3 : Int32} {x4 : Int32} (S : SR h) (H : ((¬ (inI x1 (hI h 63 3)) → Q (nI 0) h) ∧ ((inI x1 (hI h 63 3)) → ((x3 < (nI 1) → Q (nI 0) h) ∧ (¬ x3 < (nI 1) → (((nI 6) < x3 → Q (nI 0) h) ∧ (¬ (nI 6) < x3 → ((x2 < 0 → Q (nI 0) h) ∧ (¬ x2 < 0 → ((((nI 17472) - x3) < x2 → Q (nI 0) h) ∧ (¬ ((nI 17472) - x3) < x2 → ((¬ (0 ≤ (x4).toInt ∧ (x4).toInt ≤ (hI h 63 8).toInt) → Q (nI 0) h) ∧ ((0 ≤ (x4).toInt ∧ (x4).toInt ≤ (hI h 63 8).toInt) → Q (nI 1) h))))))))))))) : CI l E (d + 1) bc bs mX12_isSpan [.inr (some (0, 12, 63)), .inl x1, .inl x2, .inl x3, .inl x4] h Q := by
  refine CI.of (by decide) rfl ?_
  show TI l E mX12_isSpan (d + 1) bc bs 0 [some (.inr (some (0, 12, 63))), some (.inl x1), some (.inl x2), some (.inl x3), some (.inl x4)] [] h Q
  refine z_aload_n (pc := 0) dX12_isSpan_0 rfl rfl ?_
  refine z_iload_n (pc := 1) dX12_isSpan_1 rfl rfl ?_
  refine y_VI (pc := 2) (bc := bc) (bs := bs) (mc := 0) (ms := 0) (As := [.inl x1]) (rest := []) dX12_isSpan_2 kX12_isPerson lX12_139 ⟨_, _, rfl⟩ rfl rfl (c_isPerson S.1 ?_)
  refine z_if_eq (pc := 5) (tgt := 45) dX12_isSpan_5 (by decide) (fun c1 => ?_) (fun c1 => ?_)
  · replace H := H.1 (bI0.mp c1)
    refine z_iconst (pc := 45) (v := (nI 0)) dX12_isSpan_45 (by decide) ?_
    exact z_iret (pc := 46) dX12_isSpan_46 rfl rfl ⟨_, rfl, H⟩
  · replace H := H.2 (bI1.mp c1)
    refine z_iload_n (pc := 8) dX12_isSpan_8 rfl rfl ?_
    refine z_iconst (pc := 9) (v := (nI 1)) dX12_isSpan_9 (by decide) ?_
    refine z_icmp_lt (pc := 10) (tgt := 45) dX12_isSpan_10 (by decide) (fun c2 => ?_) (fun c2 => ?_)
    · replace H := H.1 c2
      refine z_iconst (pc := 45) (v := (nI 0)) dX12_isSpan_45 (by decide) ?_
      exact z_iret (pc := 46) dX12_isSpan_46 rfl rfl ⟨_, rfl, H⟩
    · replace H := H.2 c2
      refine z_iload_n (pc := 13) dX12_isSpan_13 rfl rfl ?_
      refine z_bipush (pc := 14) (v := (nI 6)) dX12_isSpan_14 (by decide) ?_
      refine z_icmp_gt (pc := 16) (tgt := 45) dX12_isSpan_16 (by decide) (fun c3 => ?_) (fun c3 => ?_)
      · replace H := H.1 c3
        refine z_iconst (pc := 45) (v := (nI 0)) dX12_isSpan_45 (by decide) ?_
        exact z_iret (pc := 46) dX12_isSpan_46 rfl rfl ⟨_, rfl, H⟩
      · replace H := H.2 c3
        refine z_iload_n (pc := 19) dX12_isSpan_19 rfl rfl ?_
        refine z_if_lt (pc := 20) (tgt := 45) dX12_isSpan_20 (by decide) (fun c4 => ?_) (fun c4 => ?_)
        · replace H := H.1 c4
          refine z_iconst (pc := 45) (v := (nI 0)) dX12_isSpan_45 (by decide) ?_
          exact z_iret (pc := 46) dX12_isSpan_46 rfl rfl ⟨_, rfl, H⟩
        · replace H := H.2 c4
          refine z_iload_n (pc := 23) dX12_isSpan_23 rfl rfl ?_
          refine z_sipush (pc := 24) (v := (nI 17472)) dX12_isSpan_24 (by decide) ?_
          refine z_iload_n (pc := 27) dX12_isSpan_27 rfl rfl ?_
          refine z_isub (pc := 28) dX12_isSpan_28 ?_
          refine z_icmp_gt (pc := 29) (tgt := 45) dX12_isSpan_29 (by decide) (fun c5 => ?_) (fun c5 => ?_)
          · replace H := H.1 c5
            refine z_iconst (pc := 45) (v := (nI 0)) dX12_isSpan_45 (by decide) ?_
            exact z_iret (pc := 46) dX12_isSpan_46 rfl rfl ⟨_, rfl, H⟩
          · replace H := H.2 c5
            refine z_aload_n (pc := 32) dX12_isSpan_32 rfl rfl ?_
            refine z_iload (pc := 33) dX12_isSpan_33 rfl ?_
            refine y_VI (pc := 35) (bc := bc) (bs := bs) (mc := 0) (ms := 0) (As := [.inl x4]) (rest := []) dX12_isSpan_35 kX12_isKnown lX12_152 ⟨_, _, rfl⟩ rfl rfl (c_isKnown S.1 ?_)
            refine z_if_eq (pc := 38) (tgt := 45) dX12_isSpan_38 (by decide) (fun c6 => ?_) (fun c6 => ?_)
            · replace H := H.1 (bI0.mp c6)
              refine z_iconst (pc := 45) (v := (nI 0)) dX12_isSpan_45 (by decide) ?_
              exact z_iret (pc := 46) dX12_isSpan_46 rfl rfl ⟨_, rfl, H⟩
            · replace H := H.2 (bI1.mp c6)
              refine z_iconst (pc := 41) (v := (nI 1)) dX12_isSpan_41 (by decide) ?_
              refine z_goto (pc := 42) (tgt := 46) dX12_isSpan_42 (by decide) ?_
              exact z_iret (pc := 46) dX12_isSpan_46 rfl rfl ⟨_, rfl, H⟩

abbrev LX12_costs_6 (l : Launch) (E : eE) (d bc bs : Nat) (x1 : Int32) (x2 : Int32) (x3 : Int32) (x4 : Int32) (x5 : Int32) (x6 : Int32) (h : aH) (Q : Int32 → aH → Prop) : Prop := TI l E mX12_costs d bc bs 6 [some (.inr (some (0, 12, 63))), some (.inl x1), some (.inl x2), some (.inl x3), some (.inl x4), some (.inl x5), some (.inl x6), none, none] [] h Q

set_option maxRecDepth 20000 in
theorem bX12_costs_0 {l : Launch} {E : eE} {d bc bs : Nat} {h : aH} {Q : Int32 → aH → Prop} {x1 : Int32} {x2 : Int32} {x3 : Int32} {x4 : Int32} (S : SR h) (H : LX12_costs_6 l E (d + 1) bc bs x1 x2 x3 x4 (nI 0) (nI 0) h Q) : CI l E (d + 1) bc bs mX12_costs [.inr (some (0, 12, 63)), .inl x1, .inl x2, .inl x3, .inl x4] h Q := by
  refine CI.of (by decide) rfl ?_
  show TI l E mX12_costs (d + 1) bc bs 0 [some (.inr (some (0, 12, 63))), some (.inl x1), some (.inl x2), some (.inl x3), some (.inl x4), none, none, none, none] [] h Q
  refine z_iconst (pc := 0) (v := (nI 0)) dX12_costs_0 (by decide) ?_
  refine z_istore (pc := 1) (ls' := [some (.inr (some (0, 12, 63))), some (.inl x1), some (.inl x2), some (.inl x3), some (.inl x4), some (.inl (nI 0)), none, none, none]) dX12_costs_1 rfl rfl ?_
  refine z_iconst (pc := 3) (v := (nI 0)) dX12_costs_3 (by decide) ?_
  refine z_istore (pc := 4) (ls' := [some (.inr (some (0, 12, 63))), some (.inl x1), some (.inl x2), some (.inl x3), some (.inl x4), some (.inl (nI 0)), some (.inl (nI 0)), none, none]) dX12_costs_4 rfl rfl ?_
  exact H

set_option maxRecDepth 20000 in
theorem bX12_costs_6 {l : Launch} {E : eE} {d bc bs : Nat} {h : aH} {Q : Int32 → aH → Prop} {x1 : Int32} {x2 : Int32} {x3 : Int32} {x4 : Int32} {x5 : Int32} {x6 : Int32} (S : SR h) (H : ((x3 ≤ x6 → Q x5 h) ∧ (¬ x3 ≤ x6 → (vp_in x1 12 ∧ ((knI x4) ∧ ((vp_in (hA h 65 (x1).toNatClampNeg) 8) ∧ ((¬ (nI 48) = 0) ∧ ((inI x1 (hI h 63 3)) ∧ ((0 ≤ ((((x2 + x6) + (rOff h (hA h 65 (x1).toNatClampNeg) (x2 + x6) (x4).toNatClampNeg)) - ((nI 48) * (rDown ((x2 + x6) + (rOff h (hA h 65 (x1).toNatClampNeg) (x2 + x6) (x4).toNatClampNeg)) (nI 48))))).toInt ∧ ((((x2 + x6) + (rOff h (hA h 65 (x1).toNatClampNeg) (x2 + x6) (x4).toNatClampNeg)) - ((nI 48) * (rDown ((x2 + x6) + (rOff h (hA h 65 (x1).toNatClampNeg) (x2 + x6) (x4).toNatClampNeg)) (nI 48))))).toInt < 48) ∧ (((rCost h x1 (((x2 + x6) + (rOff h (hA h 65 (x1).toNatClampNeg) (x2 + x6) (x4).toNatClampNeg)) - ((nI 48) * (rDown ((x2 + x6) + (rOff h (hA h 65 (x1).toNatClampNeg) (x2 + x6) (x4).toNatClampNeg)) (nI 48))))) ≤ 0 → LX12_costs_6 l E (d + 1) bc bs x1 x2 x3 x4 x5 (x6 + (nI 1)) h Q) ∧ (¬ (rCost h x1 (((x2 + x6) + (rOff h (hA h 65 (x1).toNatClampNeg) (x2 + x6) (x4).toNatClampNeg)) - ((nI 48) * (rDown ((x2 + x6) + (rOff h (hA h 65 (x1).toNatClampNeg) (x2 + x6) (x4).toNatClampNeg)) (nI 48))))) ≤ 0 → LX12_costs_6 l E (d + 1) bc bs x1 x2 x3 x4 (x5 + (rCost h x1 (((x2 + x6) + (rOff h (hA h 65 (x1).toNatClampNeg) (x2 + x6) (x4).toNatClampNeg)) - ((nI 48) * (rDown ((x2 + x6) + (rOff h (hA h 65 (x1).toNatClampNeg) (x2 + x6) (x4).toNatClampNeg)) (nI 48)))))) (x6 + (nI 1)) h Q))))))))))) : LX12_costs_6 l E (d + 1) bc bs x1 x2 x3 x4 x5 x6 h Q := by
  refine z_iload (pc := 6) dX12_costs_6 rfl ?_
  refine z_iload_n (pc := 8) dX12_costs_8 rfl rfl ?_
  refine z_icmp_ge (pc := 9) (tgt := 73) dX12_costs_9 (by decide) (fun c1 => ?_) (fun c1 => ?_)
  · replace H := H.1 c1
    refine z_iload (pc := 73) dX12_costs_73 rfl ?_
    exact z_iret (pc := 75) dX12_costs_75 rfl rfl ⟨_, rfl, H⟩
  · replace H := H.2 c1
    refine z_iload_n (pc := 12) dX12_costs_12 rfl rfl ?_
    refine z_iload (pc := 13) dX12_costs_13 rfl ?_
    refine z_iadd (pc := 15) dX12_costs_15 ?_
    refine z_aload_n (pc := 16) dX12_costs_16 rfl rfl ?_
    refine z_aload_n (pc := 17) dX12_costs_17 rfl rfl ?_
    refine z_getk (pc := 18) dX12_costs_18 fX12_17 rfl (s_63_4 S.1) ?_
    refine z_iload_n (pc := 21) dX12_costs_21 rfl rfl ?_
    have c2 := H.1
    replace H := H.2
    refine z_iald (pc := 22) dX12_costs_22 c2 ?_
    refine z_iload_n (pc := 23) dX12_costs_23 rfl rfl ?_
    refine z_iload (pc := 24) dX12_costs_24 rfl ?_
    refine z_iadd (pc := 26) dX12_costs_26 ?_
    refine z_iload (pc := 27) dX12_costs_27 rfl ?_
    have c3 := H.1
    replace H := H.2
    have c4 := H.1
    replace H := H.2
    refine y_VI (pc := 29) (bc := bc) (bs := bs) (mc := 0) (ms := 0) (As := [.inl (hA h 65 (x1).toNatClampNeg), .inl (x2 + x6), .inl x4]) (rest := [.inl (x2 + x6)]) dX12_costs_29 kX12_offsetAt lX12_156 ⟨_, _, rfl⟩ rfl rfl (c_off S.1 c3 c4 ?_)
    refine z_iadd (pc := 32) dX12_costs_32 ?_
    refine z_istore (pc := 33) (ls' := [some (.inr (some (0, 12, 63))), some (.inl x1), some (.inl x2), some (.inl x3), some (.inl x4), some (.inl x5), some (.inl x6), some (.inl ((x2 + x6) + (rOff h (hA h 65 (x1).toNatClampNeg) (x2 + x6) (x4).toNatClampNeg))), none]) dX12_costs_33 rfl rfl ?_
    refine z_aload_n (pc := 35) dX12_costs_35 rfl rfl ?_
    refine z_iload_n (pc := 36) dX12_costs_36 rfl rfl ?_
    refine z_iload (pc := 37) dX12_costs_37 rfl ?_
    refine z_bipush (pc := 39) (v := (nI 48)) dX12_costs_39 (by decide) ?_
    refine z_iload (pc := 41) dX12_costs_41 rfl ?_
    refine z_bipush (pc := 43) (v := (nI 48)) dX12_costs_43 (by decide) ?_
    have c5 := H.1
    replace H := H.2
    refine y_SI (pc := 45) (bc := bc) (bs := bs) (mc := 0) (ms := 0) (As := [.inl ((x2 + x6) + (rOff h (hA h 65 (x1).toNatClampNeg) (x2 + x6) (x4).toNatClampNeg)), .inl (nI 48)]) (rest := [.inl (nI 48), .inl ((x2 + x6) + (rOff h (hA h 65 (x1).toNatClampNeg) (x2 + x6) (x4).toNatClampNeg)), .inl x1, .inr (some (0, 12, 63))]) dX12_costs_45 kX12_down lX12_160 rfl rfl (c_down S.1 c5 ?_)
    refine z_imul (pc := 48) dX12_costs_48 ?_
    refine z_isub (pc := 49) dX12_costs_49 ?_
    have c6 := H.1
    replace H := H.2
    have c7 := H.1
    replace H := H.2
    refine y_VI (pc := 50) (bc := bc) (bs := bs) (mc := 0) (ms := 0) (As := [.inl x1, .inl (((x2 + x6) + (rOff h (hA h 65 (x1).toNatClampNeg) (x2 + x6) (x4).toNatClampNeg)) - ((nI 48) * (rDown ((x2 + x6) + (rOff h (hA h 65 (x1).toNatClampNeg) (x2 + x6) (x4).toNatClampNeg)) (nI 48))))]) (rest := []) dX12_costs_50 kX12_costAt lX12_164 ⟨_, _, rfl⟩ rfl rfl (c_costAt S c6 c7 ?_)
    refine z_istore (pc := 53) (ls' := [some (.inr (some (0, 12, 63))), some (.inl x1), some (.inl x2), some (.inl x3), some (.inl x4), some (.inl x5), some (.inl x6), some (.inl ((x2 + x6) + (rOff h (hA h 65 (x1).toNatClampNeg) (x2 + x6) (x4).toNatClampNeg))), some (.inl (rCost h x1 (((x2 + x6) + (rOff h (hA h 65 (x1).toNatClampNeg) (x2 + x6) (x4).toNatClampNeg)) - ((nI 48) * (rDown ((x2 + x6) + (rOff h (hA h 65 (x1).toNatClampNeg) (x2 + x6) (x4).toNatClampNeg)) (nI 48))))))]) dX12_costs_53 rfl rfl ?_
    refine z_iload (pc := 55) dX12_costs_55 rfl ?_
    refine z_if_le (pc := 57) (tgt := 67) dX12_costs_57 (by decide) (fun c8 => ?_) (fun c8 => ?_)
    · replace H := H.1 c8
      refine z_iinc (pc := 67) (v := (x6 + (nI 1))) (ls' := [some (.inr (some (0, 12, 63))), some (.inl x1), some (.inl x2), some (.inl x3), some (.inl x4), some (.inl x5), some (.inl (x6 + (nI 1))), some (.inl ((x2 + x6) + (rOff h (hA h 65 (x1).toNatClampNeg) (x2 + x6) (x4).toNatClampNeg))), some (.inl (rCost h x1 (((x2 + x6) + (rOff h (hA h 65 (x1).toNatClampNeg) (x2 + x6) (x4).toNatClampNeg)) - ((nI 48) * (rDown ((x2 + x6) + (rOff h (hA h 65 (x1).toNatClampNeg) (x2 + x6) (x4).toNatClampNeg)) (nI 48))))))]) dX12_costs_67 rfl (by rw [show Int32.ofInt (1) = (nI 1) by decide]) rfl ?_
      refine z_goto (pc := 70) (tgt := 6) dX12_costs_70 (by decide) ?_
      exact z_drop (ls' := [some (.inr (some (0, 12, 63))), some (.inl x1), some (.inl x2), some (.inl x3), some (.inl x4), some (.inl x5), some (.inl (x6 + (nI 1))), none, none]) (by simp [dropL]) H
    · replace H := H.2 c8
      refine z_iload (pc := 60) dX12_costs_60 rfl ?_
      refine z_iload (pc := 62) dX12_costs_62 rfl ?_
      refine z_iadd (pc := 64) dX12_costs_64 ?_
      refine z_istore (pc := 65) (ls' := [some (.inr (some (0, 12, 63))), some (.inl x1), some (.inl x2), some (.inl x3), some (.inl x4), some (.inl (x5 + (rCost h x1 (((x2 + x6) + (rOff h (hA h 65 (x1).toNatClampNeg) (x2 + x6) (x4).toNatClampNeg)) - ((nI 48) * (rDown ((x2 + x6) + (rOff h (hA h 65 (x1).toNatClampNeg) (x2 + x6) (x4).toNatClampNeg)) (nI 48))))))), some (.inl x6), some (.inl ((x2 + x6) + (rOff h (hA h 65 (x1).toNatClampNeg) (x2 + x6) (x4).toNatClampNeg))), some (.inl (rCost h x1 (((x2 + x6) + (rOff h (hA h 65 (x1).toNatClampNeg) (x2 + x6) (x4).toNatClampNeg)) - ((nI 48) * (rDown ((x2 + x6) + (rOff h (hA h 65 (x1).toNatClampNeg) (x2 + x6) (x4).toNatClampNeg)) (nI 48))))))]) dX12_costs_65 rfl rfl ?_
      refine z_iinc (pc := 67) (v := (x6 + (nI 1))) (ls' := [some (.inr (some (0, 12, 63))), some (.inl x1), some (.inl x2), some (.inl x3), some (.inl x4), some (.inl (x5 + (rCost h x1 (((x2 + x6) + (rOff h (hA h 65 (x1).toNatClampNeg) (x2 + x6) (x4).toNatClampNeg)) - ((nI 48) * (rDown ((x2 + x6) + (rOff h (hA h 65 (x1).toNatClampNeg) (x2 + x6) (x4).toNatClampNeg)) (nI 48))))))), some (.inl (x6 + (nI 1))), some (.inl ((x2 + x6) + (rOff h (hA h 65 (x1).toNatClampNeg) (x2 + x6) (x4).toNatClampNeg))), some (.inl (rCost h x1 (((x2 + x6) + (rOff h (hA h 65 (x1).toNatClampNeg) (x2 + x6) (x4).toNatClampNeg)) - ((nI 48) * (rDown ((x2 + x6) + (rOff h (hA h 65 (x1).toNatClampNeg) (x2 + x6) (x4).toNatClampNeg)) (nI 48))))))]) dX12_costs_67 rfl (by rw [show Int32.ofInt (1) = (nI 1) by decide]) rfl ?_
      refine z_goto (pc := 70) (tgt := 6) dX12_costs_70 (by decide) ?_
      exact z_drop (ls' := [some (.inr (some (0, 12, 63))), some (.inl x1), some (.inl x2), some (.inl x3), some (.inl x4), some (.inl (x5 + (rCost h x1 (((x2 + x6) + (rOff h (hA h 65 (x1).toNatClampNeg) (x2 + x6) (x4).toNatClampNeg)) - ((nI 48) * (rDown ((x2 + x6) + (rOff h (hA h 65 (x1).toNatClampNeg) (x2 + x6) (x4).toNatClampNeg)) (nI 48))))))), some (.inl (x6 + (nI 1))), none, none]) (by simp [dropL]) H

set_option maxRecDepth 20000 in
theorem bX12_isBehind_0 {l : Launch} {E : eE} {d bc bs : Nat} {h : aH} {Q : Int32 → aH → Prop} {x1 : Int32} {x2 : Int32} (S : SH h) (H : (vp_in x1 4 ∧ (((hA h 75 (x1).toNatClampNeg) = (-1) → Q (nI 1) h) ∧ (¬ (hA h 75 (x1).toNatClampNeg) = (-1) → (vp_in (hA h 75 (x1).toNatClampNeg) 4 ∧ ((¬ (hA h 81 ((hA h 75 (x1).toNatClampNeg)).toNatClampNeg) = (-1) → ((vp_in (hA h 75 (x1).toNatClampNeg) 4 ∧ vp_in (hA h 81 ((hA h 75 (x1).toNatClampNeg)).toNatClampNeg) 6) ∧ ((vp_in x1 4 ∧ vp_in x2 6) ∧ ((((rSlot h (hA h 75 (x1).toNatClampNeg) (hA h 81 ((hA h 75 (x1).toNatClampNeg)).toNatClampNeg)) + (hA h 74 ((hA h 75 (x1).toNatClampNeg)).toNatClampNeg)) ≤ (rSlot h x1 x2) → (((hA h 82 ((hA h 75 (x1).toNatClampNeg)).toNatClampNeg) = (-1) → Q (nI 1) h) ∧ (¬ (hA h 82 ((hA h 75 (x1).toNatClampNeg)).toNatClampNeg) = (-1) → ((vp_in (hA h 75 (x1).toNatClampNeg) 4 ∧ vp_in (hA h 82 ((hA h 75 (x1).toNatClampNeg)).toNatClampNeg) 6) ∧ ((vp_in x1 4 ∧ vp_in x2 6) ∧ (((rSlot h x1 x2) < ((rSlot h (hA h 75 (x1).toNatClampNeg) (hA h 82 ((hA h 75 (x1).toNatClampNeg)).toNatClampNeg)) + (hA h 74 ((hA h 75 (x1).toNatClampNeg)).toNatClampNeg)) → Q (nI 0) h) ∧ (¬ (rSlot h x1 x2) < ((rSlot h (hA h 75 (x1).toNatClampNeg) (hA h 82 ((hA h 75 (x1).toNatClampNeg)).toNatClampNeg)) + (hA h 74 ((hA h 75 (x1).toNatClampNeg)).toNatClampNeg)) → Q (nI 1) h))))))) ∧ (¬ ((rSlot h (hA h 75 (x1).toNatClampNeg) (hA h 81 ((hA h 75 (x1).toNatClampNeg)).toNatClampNeg)) + (hA h 74 ((hA h 75 (x1).toNatClampNeg)).toNatClampNeg)) ≤ (rSlot h x1 x2) → Q (nI 0) h))))) ∧ ((hA h 81 ((hA h 75 (x1).toNatClampNeg)).toNatClampNeg) = (-1) → Q (nI 1) h))))))) : CI l E (d + 1) bc bs mX12_isBehind [.inr (some (0, 12, 63)), .inl x1, .inl x2] h Q := by
  refine CI.of (by decide) rfl ?_
  show TI l E mX12_isBehind (d + 1) bc bs 0 [some (.inr (some (0, 12, 63))), some (.inl x1), some (.inl x2), none] [] h Q
  refine z_aload_n (pc := 0) dX12_isBehind_0 rfl rfl ?_
  refine z_getk (pc := 1) dX12_isBehind_1 fX12_48 rfl (s_63_16 S) ?_
  refine z_iload_n (pc := 4) dX12_isBehind_4 rfl rfl ?_
  have c1 := H.1
  replace H := H.2
  refine z_iald (pc := 5) dX12_isBehind_5 c1 ?_
  refine z_istore_n (pc := 6) (ls' := [some (.inr (some (0, 12, 63))), some (.inl x1), some (.inl x2), some (.inl (hA h 75 (x1).toNatClampNeg))]) dX12_isBehind_6 rfl rfl rfl ?_
  refine z_iload_n (pc := 7) dX12_isBehind_7 rfl rfl ?_
  refine z_iconst (pc := 8) (v := (-1)) dX12_isBehind_8 (by decide) ?_
  refine z_icmp_eq (pc := 9) (tgt := 22) dX12_isBehind_9 (by decide) (fun c2 => ?_) (fun c2 => ?_)
  · replace H := H.1 c2
    refine z_iconst (pc := 22) (v := (nI 1)) dX12_isBehind_22 (by decide) ?_
    exact z_iret (pc := 23) dX12_isBehind_23 rfl rfl ⟨_, rfl, H⟩
  · replace H := H.2 c2
    refine z_aload_n (pc := 12) dX12_isBehind_12 rfl rfl ?_
    refine z_getk (pc := 13) dX12_isBehind_13 fX12_66 rfl (s_63_24 S) ?_
    refine z_iload_n (pc := 16) dX12_isBehind_16 rfl rfl ?_
    have c3 := H.1
    replace H := H.2
    refine z_iald (pc := 17) dX12_isBehind_17 c3 ?_
    refine z_iconst (pc := 18) (v := (-1)) dX12_isBehind_18 (by decide) ?_
    refine z_icmp_ne (pc := 19) (tgt := 24) dX12_isBehind_19 (by decide) (fun c4 => ?_) (fun c4 => ?_)
    · replace H := H.1 c4
      refine z_aload_n (pc := 24) dX12_isBehind_24 rfl rfl ?_
      refine z_iload_n (pc := 25) dX12_isBehind_25 rfl rfl ?_
      refine z_aload_n (pc := 26) dX12_isBehind_26 rfl rfl ?_
      refine z_getk (pc := 27) dX12_isBehind_27 fX12_66 rfl (s_63_24 S) ?_
      refine z_iload_n (pc := 30) dX12_isBehind_30 rfl rfl ?_
      refine z_iald (pc := 31) dX12_isBehind_31 c3 ?_
      have c5 := H.1
      replace H := H.2
      refine y_VI (pc := 32) (bc := bc) (bs := bs) (mc := 0) (ms := 0) (As := [.inl (hA h 75 (x1).toNatClampNeg), .inl (hA h 81 ((hA h 75 (x1).toNatClampNeg)).toNatClampNeg)]) (rest := []) dX12_isBehind_32 kX12_slotOf lX12_184 ⟨_, _, rfl⟩ rfl rfl (c_slotOf S c5 ?_)
      refine z_aload_n (pc := 35) dX12_isBehind_35 rfl rfl ?_
      refine z_getk (pc := 36) dX12_isBehind_36 fX12_45 rfl (s_63_15 S) ?_
      refine z_iload_n (pc := 39) dX12_isBehind_39 rfl rfl ?_
      refine z_iald (pc := 40) dX12_isBehind_40 c3 ?_
      refine z_iadd (pc := 41) dX12_isBehind_41 ?_
      refine z_aload_n (pc := 42) dX12_isBehind_42 rfl rfl ?_
      refine z_iload_n (pc := 43) dX12_isBehind_43 rfl rfl ?_
      refine z_iload_n (pc := 44) dX12_isBehind_44 rfl rfl ?_
      have c6 := H.1
      replace H := H.2
      refine y_VI (pc := 45) (bc := bc) (bs := bs) (mc := 0) (ms := 0) (As := [.inl x1, .inl x2]) (rest := [.inl ((rSlot h (hA h 75 (x1).toNatClampNeg) (hA h 81 ((hA h 75 (x1).toNatClampNeg)).toNatClampNeg)) + (hA h 74 ((hA h 75 (x1).toNatClampNeg)).toNatClampNeg))]) dX12_isBehind_45 kX12_slotOf lX12_184 ⟨_, _, rfl⟩ rfl rfl (c_slotOf S c6 ?_)
      refine z_icmp_le (pc := 48) (tgt := 53) dX12_isBehind_48 (by decide) (fun c7 => ?_) (fun c7 => ?_)
      · replace H := H.1 c7
        refine z_aload_n (pc := 53) dX12_isBehind_53 rfl rfl ?_
        refine z_getk (pc := 54) dX12_isBehind_54 fX12_69 rfl (s_63_25 S) ?_
        refine z_iload_n (pc := 57) dX12_isBehind_57 rfl rfl ?_
        refine z_iald (pc := 58) dX12_isBehind_58 c3 ?_
        refine z_iconst (pc := 59) (v := (-1)) dX12_isBehind_59 (by decide) ?_
        refine z_icmp_eq (pc := 60) (tgt := 90) dX12_isBehind_60 (by decide) (fun c8 => ?_) (fun c8 => ?_)
        · replace H := H.1 c8
          refine z_iconst (pc := 90) (v := (nI 1)) dX12_isBehind_90 (by decide) ?_
          refine z_goto (pc := 91) (tgt := 95) dX12_isBehind_91 (by decide) ?_
          exact z_iret (pc := 95) dX12_isBehind_95 rfl rfl ⟨_, rfl, H⟩
        · replace H := H.2 c8
          refine z_aload_n (pc := 63) dX12_isBehind_63 rfl rfl ?_
          refine z_iload_n (pc := 64) dX12_isBehind_64 rfl rfl ?_
          refine z_aload_n (pc := 65) dX12_isBehind_65 rfl rfl ?_
          refine z_getk (pc := 66) dX12_isBehind_66 fX12_69 rfl (s_63_25 S) ?_
          refine z_iload_n (pc := 69) dX12_isBehind_69 rfl rfl ?_
          refine z_iald (pc := 70) dX12_isBehind_70 c3 ?_
          have c9 := H.1
          replace H := H.2
          refine y_VI (pc := 71) (bc := bc) (bs := bs) (mc := 0) (ms := 0) (As := [.inl (hA h 75 (x1).toNatClampNeg), .inl (hA h 82 ((hA h 75 (x1).toNatClampNeg)).toNatClampNeg)]) (rest := []) dX12_isBehind_71 kX12_slotOf lX12_184 ⟨_, _, rfl⟩ rfl rfl (c_slotOf S c9 ?_)
          refine z_aload_n (pc := 74) dX12_isBehind_74 rfl rfl ?_
          refine z_getk (pc := 75) dX12_isBehind_75 fX12_45 rfl (s_63_15 S) ?_
          refine z_iload_n (pc := 78) dX12_isBehind_78 rfl rfl ?_
          refine z_iald (pc := 79) dX12_isBehind_79 c3 ?_
          refine z_iadd (pc := 80) dX12_isBehind_80 ?_
          refine z_aload_n (pc := 81) dX12_isBehind_81 rfl rfl ?_
          refine z_iload_n (pc := 82) dX12_isBehind_82 rfl rfl ?_
          refine z_iload_n (pc := 83) dX12_isBehind_83 rfl rfl ?_
          have c10 := H.1
          replace H := H.2
          refine y_VI (pc := 84) (bc := bc) (bs := bs) (mc := 0) (ms := 0) (As := [.inl x1, .inl x2]) (rest := [.inl ((rSlot h (hA h 75 (x1).toNatClampNeg) (hA h 82 ((hA h 75 (x1).toNatClampNeg)).toNatClampNeg)) + (hA h 74 ((hA h 75 (x1).toNatClampNeg)).toNatClampNeg))]) dX12_isBehind_84 kX12_slotOf lX12_184 ⟨_, _, rfl⟩ rfl rfl (c_slotOf S c10 ?_)
          refine z_icmp_gt (pc := 87) (tgt := 94) dX12_isBehind_87 (by decide) (fun c11 => ?_) (fun c11 => ?_)
          · replace H := H.1 c11
            refine z_iconst (pc := 94) (v := (nI 0)) dX12_isBehind_94 (by decide) ?_
            exact z_iret (pc := 95) dX12_isBehind_95 rfl rfl ⟨_, rfl, H⟩
          · replace H := H.2 c11
            refine z_iconst (pc := 90) (v := (nI 1)) dX12_isBehind_90 (by decide) ?_
            refine z_goto (pc := 91) (tgt := 95) dX12_isBehind_91 (by decide) ?_
            exact z_iret (pc := 95) dX12_isBehind_95 rfl rfl ⟨_, rfl, H⟩
      · replace H := H.2 c7
        refine z_iconst (pc := 51) (v := (nI 0)) dX12_isBehind_51 (by decide) ?_
        exact z_iret (pc := 52) dX12_isBehind_52 rfl rfl ⟨_, rfl, H⟩
    · replace H := H.2 c4
      refine z_iconst (pc := 22) (v := (nI 1)) dX12_isBehind_22 (by decide) ?_
      exact z_iret (pc := 23) dX12_isBehind_23 rfl rfl ⟨_, rfl, H⟩

abbrev LX12_shifted_23 (l : Launch) (E : eE) (d bc bs : Nat) (x1 : Int32) (x2 : Int32) (x3 : Int32) (x4 : Int32) (h : aH) (Q : Int32 → aH → Prop) : Prop := TI l E mX12_shifted d bc bs 23 [some (.inr (some (0, 12, 63))), some (.inl x1), some (.inl x2), some (.inl x3), some (.inl x4), none, none, none] [] h Q

abbrev LX12_shifted_35 (l : Launch) (E : eE) (d bc bs : Nat) (x1 : Int32) (x2 : Int32) (x3 : Int32) (x4 : Int32) (x5 : Int32) (h : aH) (Q : Int32 → aH → Prop) : Prop := TI l E mX12_shifted d bc bs 35 [some (.inr (some (0, 12, 63))), some (.inl x1), some (.inl x2), some (.inl x3), some (.inl x4), some (.inl x5), none, none] [] h Q

abbrev LX12_shifted_45 (l : Launch) (E : eE) (d bc bs : Nat) (x1 : Int32) (x2 : Int32) (x3 : Int32) (x4 : Int32) (x5 : Int32) (x6 : Int32) (h : aH) (Q : Int32 → aH → Prop) : Prop := TI l E mX12_shifted d bc bs 45 [some (.inr (some (0, 12, 63))), some (.inl x1), some (.inl x2), some (.inl x3), some (.inl x4), some (.inl x5), some (.inl x6), none] [] h Q

set_option maxRecDepth 20000 in
theorem bX12_shifted_0 {l : Launch} {E : eE} {d bc bs : Nat} {h : aH} {Q : Int32 → aH → Prop} {x1 : Int32} {x2 : Int32} (S : SH h) (H : ((¬ (0 ≤ (x1).toInt ∧ (x1).toInt ≤ (hI h 63 8).toInt) → Q (-1) h) ∧ ((0 ≤ (x1).toInt ∧ (x1).toInt ≤ (hI h 63 8).toInt) → (((0 ≤ (x2).toInt ∧ (x2).toInt ≤ (hI h 63 8).toInt) → LX12_shifted_23 l E (d + 1) bc bs x1 x2 (nI 0) (nI 0) h Q) ∧ (¬ (0 ≤ (x2).toInt ∧ (x2).toInt ≤ (hI h 63 8).toInt) → Q (-1) h))))) : CI l E (d + 1) bc bs mX12_shifted [.inr (some (0, 12, 63)), .inl x1, .inl x2] h Q := by
  refine CI.of (by decide) rfl ?_
  show TI l E mX12_shifted (d + 1) bc bs 0 [some (.inr (some (0, 12, 63))), some (.inl x1), some (.inl x2), none, none, none, none, none] [] h Q
  refine z_aload_n (pc := 0) dX12_shifted_0 rfl rfl ?_
  refine z_iload_n (pc := 1) dX12_shifted_1 rfl rfl ?_
  refine y_VI (pc := 2) (bc := bc) (bs := bs) (mc := 0) (ms := 0) (As := [.inl x1]) (rest := []) dX12_shifted_2 kX12_isKnown lX12_152 ⟨_, _, rfl⟩ rfl rfl (c_isKnown S ?_)
  refine z_if_eq (pc := 5) (tgt := 16) dX12_shifted_5 (by decide) (fun c1 => ?_) (fun c1 => ?_)
  · replace H := H.1 (bI0.mp c1)
    refine z_iconst (pc := 16) (v := (-1)) dX12_shifted_16 (by decide) ?_
    exact z_iret (pc := 17) dX12_shifted_17 rfl rfl ⟨_, rfl, H⟩
  · replace H := H.2 (bI1.mp c1)
    refine z_aload_n (pc := 8) dX12_shifted_8 rfl rfl ?_
    refine z_iload_n (pc := 9) dX12_shifted_9 rfl rfl ?_
    refine y_VI (pc := 10) (bc := bc) (bs := bs) (mc := 0) (ms := 0) (As := [.inl x2]) (rest := []) dX12_shifted_10 kX12_isKnown lX12_152 ⟨_, _, rfl⟩ rfl rfl (c_isKnown S ?_)
    refine z_if_ne (pc := 13) (tgt := 18) dX12_shifted_13 (by decide) (fun c2 => ?_) (fun c2 => ?_)
    · replace H := H.1 (bI1.mp c2)
      refine z_iconst (pc := 18) (v := (nI 0)) dX12_shifted_18 (by decide) ?_
      refine z_istore_n (pc := 19) (ls' := [some (.inr (some (0, 12, 63))), some (.inl x1), some (.inl x2), some (.inl (nI 0)), none, none, none, none]) dX12_shifted_19 rfl rfl rfl ?_
      refine z_iconst (pc := 20) (v := (nI 0)) dX12_shifted_20 (by decide) ?_
      refine z_istore (pc := 21) (ls' := [some (.inr (some (0, 12, 63))), some (.inl x1), some (.inl x2), some (.inl (nI 0)), some (.inl (nI 0)), none, none, none]) dX12_shifted_21 rfl rfl ?_
      exact H
    · replace H := H.2 (bI0.mp c2)
      refine z_iconst (pc := 16) (v := (-1)) dX12_shifted_16 (by decide) ?_
      exact z_iret (pc := 17) dX12_shifted_17 rfl rfl ⟨_, rfl, H⟩

set_option maxRecDepth 20000 in
theorem bX12_shifted_23 {l : Launch} {E : eE} {d bc bs : Nat} {h : aH} {Q : Int32 → aH → Prop} {x1 : Int32} {x2 : Int32} {x3 : Int32} {x4 : Int32} (S : SH h) (H : (((hI h 63 14) ≤ x4 → Q x3 h) ∧ (¬ (hI h 63 14) ≤ x4 → LX12_shifted_35 l E (d + 1) bc bs x1 x2 x3 x4 (nI 0) h Q))) : LX12_shifted_23 l E (d + 1) bc bs x1 x2 x3 x4 h Q := by
  refine z_iload (pc := 23) dX12_shifted_23 rfl ?_
  refine z_aload_n (pc := 25) dX12_shifted_25 rfl rfl ?_
  refine z_geti (pc := 26) dX12_shifted_26 fX12_126 rfl ?_
  refine z_icmp_ge (pc := 29) (tgt := 129) dX12_shifted_29 (by decide) (fun c1 => ?_) (fun c1 => ?_)
  · replace H := H.1 c1
    refine z_iload_n (pc := 129) dX12_shifted_129 rfl rfl ?_
    exact z_iret (pc := 130) dX12_shifted_130 rfl rfl ⟨_, rfl, H⟩
  · replace H := H.2 c1
    refine z_iconst (pc := 32) (v := (nI 0)) dX12_shifted_32 (by decide) ?_
    refine z_istore (pc := 33) (ls' := [some (.inr (some (0, 12, 63))), some (.inl x1), some (.inl x2), some (.inl x3), some (.inl x4), some (.inl (nI 0)), none, none]) dX12_shifted_33 rfl rfl ?_
    exact H

set_option maxRecDepth 20000 in
theorem bX12_shifted_35 {l : Launch} {E : eE} {d bc bs : Nat} {h : aH} {Q : Int32 → aH → Prop} {x1 : Int32} {x2 : Int32} {x3 : Int32} {x4 : Int32} {x5 : Int32} (S : SH h) (H : (((nI 52) ≤ x5 → LX12_shifted_23 l E (d + 1) bc bs x1 x2 x3 (x4 + (nI 1)) h Q) ∧ (¬ (nI 52) ≤ x5 → LX12_shifted_45 l E (d + 1) bc bs x1 x2 x3 x4 x5 (nI 0) h Q))) : LX12_shifted_35 l E (d + 1) bc bs x1 x2 x3 x4 x5 h Q := by
  refine z_iload (pc := 35) dX12_shifted_35 rfl ?_
  refine z_bipush (pc := 37) (v := (nI 52)) dX12_shifted_37 (by decide) ?_
  refine z_icmp_ge (pc := 39) (tgt := 123) dX12_shifted_39 (by decide) (fun c1 => ?_) (fun c1 => ?_)
  · replace H := H.1 c1
    refine z_iinc (pc := 123) (v := (x4 + (nI 1))) (ls' := [some (.inr (some (0, 12, 63))), some (.inl x1), some (.inl x2), some (.inl x3), some (.inl (x4 + (nI 1))), some (.inl x5), none, none]) dX12_shifted_123 rfl (by rw [show Int32.ofInt (1) = (nI 1) by decide]) rfl ?_
    refine z_goto (pc := 126) (tgt := 23) dX12_shifted_126 (by decide) ?_
    exact z_drop (ls' := [some (.inr (some (0, 12, 63))), some (.inl x1), some (.inl x2), some (.inl x3), some (.inl (x4 + (nI 1))), none, none, none]) (by simp [dropL]) H
  · replace H := H.2 c1
    refine z_iconst (pc := 42) (v := (nI 0)) dX12_shifted_42 (by decide) ?_
    refine z_istore (pc := 43) (ls' := [some (.inr (some (0, 12, 63))), some (.inl x1), some (.inl x2), some (.inl x3), some (.inl x4), some (.inl x5), some (.inl (nI 0)), none]) dX12_shifted_43 rfl rfl ?_
    exact H

set_option maxRecDepth 20000 in
theorem bX12_shifted_45 {l : Launch} {E : eE} {d bc bs : Nat} {h : aH} {Q : Int32 → aH → Prop} {x1 : Int32} {x2 : Int32} {x3 : Int32} {x4 : Int32} {x5 : Int32} {x6 : Int32} (S : SH h) (H : (((nI 2) ≤ x6 → LX12_shifted_35 l E (d + 1) bc bs x1 x2 x3 x4 (x5 + (nI 1)) h Q) ∧ (¬ (nI 2) ≤ x6 → (vp_in (((nI 2) * (((nI 52) * x4) + x5)) + x6) 416 ∧ (((hA h 80 ((((nI 2) * (((nI 52) * x4) + x5)) + x6)).toNatClampNeg) = (-1) → LX12_shifted_45 l E (d + 1) bc bs x1 x2 x3 x4 x5 (x6 + (nI 1)) h Q) ∧ (¬ (hA h 80 ((((nI 2) * (((nI 52) * x4) + x5)) + x6)).toNatClampNeg) = (-1) → (vp_in (((nI 6) * x4) + (hA h 80 ((((nI 2) * (((nI 52) * x4) + x5)) + x6)).toNatClampNeg)) 24 ∧ (CI l E d 0 0 mX12_isShifted [.inr (some (0, 12, 63)), .inl x4, .inl (((nI 336) * x5) + (hA h 78 ((((nI 6) * x4) + (hA h 80 ((((nI 2) * (((nI 52) * x4) + x5)) + x6)).toNatClampNeg))).toNatClampNeg)), .inl x1, .inl x2] h (fun v5 h5 => SH h5 ∧ ((v5 = 0 → LX12_shifted_45 l E (d + 1) bc bs x1 x2 x3 x4 x5 (x6 + (nI 1)) h5 Q) ∧ (¬ v5 = 0 → LX12_shifted_45 l E (d + 1) bc bs x1 x2 (x3 + (nI 1)) x4 x5 (x6 + (nI 1)) h5 Q))))))))))) : LX12_shifted_45 l E (d + 1) bc bs x1 x2 x3 x4 x5 x6 h Q := by
  refine z_iload (pc := 45) dX12_shifted_45 rfl ?_
  refine z_iconst (pc := 47) (v := (nI 2)) dX12_shifted_47 (by decide) ?_
  refine z_icmp_ge (pc := 48) (tgt := 117) dX12_shifted_48 (by decide) (fun c1 => ?_) (fun c1 => ?_)
  · replace H := H.1 c1
    refine z_iinc (pc := 117) (v := (x5 + (nI 1))) (ls' := [some (.inr (some (0, 12, 63))), some (.inl x1), some (.inl x2), some (.inl x3), some (.inl x4), some (.inl (x5 + (nI 1))), some (.inl x6), none]) dX12_shifted_117 rfl (by rw [show Int32.ofInt (1) = (nI 1) by decide]) rfl ?_
    refine z_goto (pc := 120) (tgt := 35) dX12_shifted_120 (by decide) ?_
    exact z_drop (ls' := [some (.inr (some (0, 12, 63))), some (.inl x1), some (.inl x2), some (.inl x3), some (.inl x4), some (.inl (x5 + (nI 1))), none, none]) (by simp [dropL]) H
  · replace H := H.2 c1
    refine z_aload_n (pc := 51) dX12_shifted_51 rfl rfl ?_
    refine z_getk (pc := 52) dX12_shifted_52 fX12_63 rfl (s_63_21 S) ?_
    refine z_iconst (pc := 55) (v := (nI 2)) dX12_shifted_55 (by decide) ?_
    refine z_bipush (pc := 56) (v := (nI 52)) dX12_shifted_56 (by decide) ?_
    refine z_iload (pc := 58) dX12_shifted_58 rfl ?_
    refine z_imul (pc := 60) dX12_shifted_60 ?_
    refine z_iload (pc := 61) dX12_shifted_61 rfl ?_
    refine z_iadd (pc := 63) dX12_shifted_63 ?_
    refine z_imul (pc := 64) dX12_shifted_64 ?_
    refine z_iload (pc := 65) dX12_shifted_65 rfl ?_
    refine z_iadd (pc := 67) dX12_shifted_67 ?_
    have c2 := H.1
    replace H := H.2
    refine z_iald (pc := 68) dX12_shifted_68 c2 ?_
    refine z_istore (pc := 69) (ls' := [some (.inr (some (0, 12, 63))), some (.inl x1), some (.inl x2), some (.inl x3), some (.inl x4), some (.inl x5), some (.inl x6), some (.inl (hA h 80 ((((nI 2) * (((nI 52) * x4) + x5)) + x6)).toNatClampNeg))]) dX12_shifted_69 rfl rfl ?_
    refine z_iload (pc := 71) dX12_shifted_71 rfl ?_
    refine z_iconst (pc := 73) (v := (-1)) dX12_shifted_73 (by decide) ?_
    refine z_icmp_eq (pc := 74) (tgt := 111) dX12_shifted_74 (by decide) (fun c3 => ?_) (fun c3 => ?_)
    · replace H := H.1 c3
      refine z_iinc (pc := 111) (v := (x6 + (nI 1))) (ls' := [some (.inr (some (0, 12, 63))), some (.inl x1), some (.inl x2), some (.inl x3), some (.inl x4), some (.inl x5), some (.inl (x6 + (nI 1))), some (.inl (hA h 80 ((((nI 2) * (((nI 52) * x4) + x5)) + x6)).toNatClampNeg))]) dX12_shifted_111 rfl (by rw [show Int32.ofInt (1) = (nI 1) by decide]) rfl ?_
      refine z_goto (pc := 114) (tgt := 45) dX12_shifted_114 (by decide) ?_
      exact z_drop (ls' := [some (.inr (some (0, 12, 63))), some (.inl x1), some (.inl x2), some (.inl x3), some (.inl x4), some (.inl x5), some (.inl (x6 + (nI 1))), none]) (by simp [dropL]) H
    · replace H := H.2 c3
      refine z_aload_n (pc := 77) dX12_shifted_77 rfl rfl ?_
      refine z_iload (pc := 78) dX12_shifted_78 rfl ?_
      refine z_sipush (pc := 80) (v := (nI 336)) dX12_shifted_80 (by decide) ?_
      refine z_iload (pc := 83) dX12_shifted_83 rfl ?_
      refine z_imul (pc := 85) dX12_shifted_85 ?_
      refine z_aload_n (pc := 86) dX12_shifted_86 rfl rfl ?_
      refine z_getk (pc := 87) dX12_shifted_87 fX12_57 rfl (s_63_19 S) ?_
      refine z_bipush (pc := 90) (v := (nI 6)) dX12_shifted_90 (by decide) ?_
      refine z_iload (pc := 92) dX12_shifted_92 rfl ?_
      refine z_imul (pc := 94) dX12_shifted_94 ?_
      refine z_iload (pc := 95) dX12_shifted_95 rfl ?_
      refine z_iadd (pc := 97) dX12_shifted_97 ?_
      have c4 := H.1
      replace H := H.2
      refine z_iald (pc := 98) dX12_shifted_98 c4 ?_
      refine z_iadd (pc := 99) dX12_shifted_99 ?_
      refine z_iload_n (pc := 100) dX12_shifted_100 rfl rfl ?_
      refine z_iload_n (pc := 101) dX12_shifted_101 rfl rfl ?_
      refine y_VI (pc := 102) (bc := bc) (bs := bs) (mc := 0) (ms := 0) (As := [.inl x4, .inl (((nI 336) * x5) + (hA h 78 ((((nI 6) * x4) + (hA h 80 ((((nI 2) * (((nI 52) * x4) + x5)) + x6)).toNatClampNeg))).toNatClampNeg)), .inl x1, .inl x2]) (rest := []) dX12_shifted_102 kX12_isShifted lX12_263 ⟨_, _, rfl⟩ rfl rfl (H.use (fun v5 h5 H => ?_))
      have S5 := H.1
      replace H := H.2
      refine z_if_eq (pc := 105) (tgt := 111) dX12_shifted_105 (by decide) (fun c6 => ?_) (fun c6 => ?_)
      · replace H := H.1 c6
        refine z_iinc (pc := 111) (v := (x6 + (nI 1))) (ls' := [some (.inr (some (0, 12, 63))), some (.inl x1), some (.inl x2), some (.inl x3), some (.inl x4), some (.inl x5), some (.inl (x6 + (nI 1))), some (.inl (hA h 80 ((((nI 2) * (((nI 52) * x4) + x5)) + x6)).toNatClampNeg))]) dX12_shifted_111 rfl (by rw [show Int32.ofInt (1) = (nI 1) by decide]) rfl ?_
        refine z_goto (pc := 114) (tgt := 45) dX12_shifted_114 (by decide) ?_
        exact z_drop (ls' := [some (.inr (some (0, 12, 63))), some (.inl x1), some (.inl x2), some (.inl x3), some (.inl x4), some (.inl x5), some (.inl (x6 + (nI 1))), none]) (by simp [dropL]) H
      · replace H := H.2 c6
        refine z_iinc (pc := 108) (v := (x3 + (nI 1))) (ls' := [some (.inr (some (0, 12, 63))), some (.inl x1), some (.inl x2), some (.inl (x3 + (nI 1))), some (.inl x4), some (.inl x5), some (.inl x6), some (.inl (hA h 80 ((((nI 2) * (((nI 52) * x4) + x5)) + x6)).toNatClampNeg))]) dX12_shifted_108 rfl (by rw [show Int32.ofInt (1) = (nI 1) by decide]) rfl ?_
        refine z_iinc (pc := 111) (v := (x6 + (nI 1))) (ls' := [some (.inr (some (0, 12, 63))), some (.inl x1), some (.inl x2), some (.inl (x3 + (nI 1))), some (.inl x4), some (.inl x5), some (.inl (x6 + (nI 1))), some (.inl (hA h 80 ((((nI 2) * (((nI 52) * x4) + x5)) + x6)).toNatClampNeg))]) dX12_shifted_111 rfl (by rw [show Int32.ofInt (1) = (nI 1) by decide]) rfl ?_
        refine z_goto (pc := 114) (tgt := 45) dX12_shifted_114 (by decide) ?_
        exact z_drop (ls' := [some (.inr (some (0, 12, 63))), some (.inl x1), some (.inl x2), some (.inl (x3 + (nI 1))), some (.inl x4), some (.inl x5), some (.inl (x6 + (nI 1))), none]) (by simp [dropL]) H
