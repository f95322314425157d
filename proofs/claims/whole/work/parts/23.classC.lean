set_option maxRecDepth 20000 in
theorem bX11_isIn_0 {l : Launch} {E : eE} {d bc bs : Nat} {h : aH} {Q : Int32 → aH → Prop} {x0 : Int32} {x1 : Int32} (S : SH h) (H : ((((x0 >>> (x1 &&& 31)) &&& (nI 1)) = 0 → Q (nI 0) h) ∧ (¬ ((x0 >>> (x1 &&& 31)) &&& (nI 1)) = 0 → Q (nI 1) h))) : CI l E d bc bs mX11_isIn [.inl x0, .inl x1] h Q := by
  refine CI.of (by decide) rfl ?_
  show TI l E mX11_isIn d bc bs 0 [some (.inl x0), some (.inl x1)] [] h Q
  refine z_iload_n (pc := 0) dX11_isIn_0 rfl rfl ?_
  refine z_iload_n (pc := 1) dX11_isIn_1 rfl rfl ?_
  refine z_ishr (pc := 2) dX11_isIn_2 ?_
  refine z_iconst (pc := 3) (v := (nI 1)) dX11_isIn_3 (by decide) ?_
  refine z_iand (pc := 4) dX11_isIn_4 ?_
  refine z_if_eq (pc := 5) (tgt := 12) dX11_isIn_5 (by decide) (fun c1 => ?_) (fun c1 => ?_)
  · replace H := H.1 c1
    refine z_iconst (pc := 12) (v := (nI 0)) dX11_isIn_12 (by decide) ?_
    exact z_iret (pc := 13) dX11_isIn_13 rfl rfl ⟨_, rfl, H⟩
  · replace H := H.2 c1
    refine z_iconst (pc := 8) (v := (nI 1)) dX11_isIn_8 (by decide) ?_
    refine z_goto (pc := 9) (tgt := 13) dX11_isIn_9 (by decide) ?_
    exact z_iret (pc := 13) dX11_isIn_13 rfl rfl ⟨_, rfl, H⟩

set_option maxRecDepth 20000 in
theorem bX11_isOffset_0 {l : Launch} {E : eE} {d bc bs : Nat} {h : aH} {Q : Int32 → aH → Prop} {x0 : Int32} (S : SH h) (H : ((x0 < (-24) → Q (nI 0) h) ∧ (¬ x0 < (-24) → (((nI 28) < x0 → Q (nI 0) h) ∧ (¬ (nI 28) < x0 → Q (nI 1) h))))) : CI l E d bc bs mX11_isOffset [.inl x0] h Q := by
  refine CI.of (by decide) rfl ?_
  show TI l E mX11_isOffset d bc bs 0 [some (.inl x0)] [] h Q
  refine z_iload_n (pc := 0) dX11_isOffset_0 rfl rfl ?_
  refine z_bipush (pc := 1) (v := (-24)) dX11_isOffset_1 (by decide) ?_
  refine z_icmp_lt (pc := 3) (tgt := 16) dX11_isOffset_3 (by decide) (fun c1 => ?_) (fun c1 => ?_)
  · replace H := H.1 c1
    refine z_iconst (pc := 16) (v := (nI 0)) dX11_isOffset_16 (by decide) ?_
    exact z_iret (pc := 17) dX11_isOffset_17 rfl rfl ⟨_, rfl, H⟩
  · replace H := H.2 c1
    refine z_iload_n (pc := 6) dX11_isOffset_6 rfl rfl ?_
    refine z_bipush (pc := 7) (v := (nI 28)) dX11_isOffset_7 (by decide) ?_
    refine z_icmp_gt (pc := 9) (tgt := 16) dX11_isOffset_9 (by decide) (fun c2 => ?_) (fun c2 => ?_)
    · replace H := H.1 c2
      refine z_iconst (pc := 16) (v := (nI 0)) dX11_isOffset_16 (by decide) ?_
      exact z_iret (pc := 17) dX11_isOffset_17 rfl rfl ⟨_, rfl, H⟩
    · replace H := H.2 c2
      refine z_iconst (pc := 12) (v := (nI 1)) dX11_isOffset_12 (by decide) ?_
      refine z_goto (pc := 13) (tgt := 17) dX11_isOffset_13 (by decide) ?_
      exact z_iret (pc := 17) dX11_isOffset_17 rfl rfl ⟨_, rfl, H⟩

set_option maxRecDepth 20000 in
theorem bX11_landAt_0 {l : Launch} {E : eE} {d bc bs : Nat} {h : aH} {Q : aR → aH → Prop} {x1 : Int32} (S : SH h) (H : ((x1 < 0 → Q none h) ∧ (¬ x1 < 0 → (((hI h 0 9) ≤ x1 → Q none h) ∧ (¬ (hI h 0 9) ≤ x1 → (vp_in x1 8 ∧ Q (hQ h 1 (x1).toNatClampNeg) h)))))) : CR l E d bc bs mX11_landAt [.inr (some (0, 11, 0)), .inl x1] h Q := by
  refine CR.of (by decide) rfl ?_
  show TR l E mX11_landAt d bc bs 0 [some (.inr (some (0, 11, 0))), some (.inl x1)] [] h Q
  refine z_iload_n (pc := 0) dX11_landAt_0 rfl rfl ?_
  refine z_if_lt (pc := 1) (tgt := 21) dX11_landAt_1 (by decide) (fun c1 => ?_) (fun c1 => ?_)
  · replace H := H.1 c1
    refine z_null (pc := 21) dX11_landAt_21 ?_
    exact z_aret (pc := 22) dX11_landAt_22 rfl ⟨_, rfl, H⟩
  · replace H := H.2 c1
    refine z_iload_n (pc := 4) dX11_landAt_4 rfl rfl ?_
    refine z_aload_n (pc := 5) dX11_landAt_5 rfl rfl ?_
    refine z_geti (pc := 6) dX11_landAt_6 fX11_69 rfl ?_
    refine z_icmp_ge (pc := 9) (tgt := 21) dX11_landAt_9 (by decide) (fun c2 => ?_) (fun c2 => ?_)
    · replace H := H.1 c2
      refine z_null (pc := 21) dX11_landAt_21 ?_
      exact z_aret (pc := 22) dX11_landAt_22 rfl ⟨_, rfl, H⟩
    · replace H := H.2 c2
      refine z_aload_n (pc := 12) dX11_landAt_12 rfl rfl ?_
      refine z_getk (pc := 13) dX11_landAt_13 fX11_11 rfl (s_0_0 S) ?_
      refine z_iload_n (pc := 16) dX11_landAt_16 rfl rfl ?_
      have c3 := H.1
      replace H := H.2
      refine z_aald (pc := 17) dX11_landAt_17 rfl rfl rfl c3 ?_
      refine z_goto (pc := 18) (tgt := 22) dX11_landAt_18 (by decide) ?_
      exact z_aret (pc := 22) dX11_landAt_22 rfl ⟨_, rfl, H⟩

set_option maxRecDepth 20000 in
theorem bX11_personAt_0 {l : Launch} {E : eE} {d bc bs : Nat} {h : aH} {Q : aR → aH → Prop} {x1 : Int32} (S : SH h) (H : ((x1 < 0 → Q none h) ∧ (¬ x1 < 0 → (((hI h 0 10) ≤ x1 → Q none h) ∧ (¬ (hI h 0 10) ≤ x1 → (vp_in x1 12 ∧ Q (hQ h 2 (x1).toNatClampNeg) h)))))) : CR l E d bc bs mX11_personAt [.inr (some (0, 11, 0)), .inl x1] h Q := by
  refine CR.of (by decide) rfl ?_
  show TR l E mX11_personAt d bc bs 0 [some (.inr (some (0, 11, 0))), some (.inl x1)] [] h Q
  refine z_iload_n (pc := 0) dX11_personAt_0 rfl rfl ?_
  refine z_if_lt (pc := 1) (tgt := 21) dX11_personAt_1 (by decide) (fun c1 => ?_) (fun c1 => ?_)
  · replace H := H.1 c1
    refine z_null (pc := 21) dX11_personAt_21 ?_
    exact z_aret (pc := 22) dX11_personAt_22 rfl ⟨_, rfl, H⟩
  · replace H := H.2 c1
    refine z_iload_n (pc := 4) dX11_personAt_4 rfl rfl ?_
    refine z_aload_n (pc := 5) dX11_personAt_5 rfl rfl ?_
    refine z_geti (pc := 6) dX11_personAt_6 fX11_84 rfl ?_
    refine z_icmp_ge (pc := 9) (tgt := 21) dX11_personAt_9 (by decide) (fun c2 => ?_) (fun c2 => ?_)
    · replace H := H.1 c2
      refine z_null (pc := 21) dX11_personAt_21 ?_
      exact z_aret (pc := 22) dX11_personAt_22 rfl ⟨_, rfl, H⟩
    · replace H := H.2 c2
      refine z_aload_n (pc := 12) dX11_personAt_12 rfl rfl ?_
      refine z_getk (pc := 13) dX11_personAt_13 fX11_17 rfl (s_0_1 S) ?_
      refine z_iload_n (pc := 16) dX11_personAt_16 rfl rfl ?_
      have c3 := H.1
      replace H := H.2
      refine z_aald (pc := 17) dX11_personAt_17 rfl rfl rfl c3 ?_
      refine z_goto (pc := 18) (tgt := 22) dX11_personAt_18 (by decide) ?_
      exact z_aret (pc := 22) dX11_personAt_22 rfl ⟨_, rfl, H⟩

set_option maxRecDepth 20000 in
theorem bX11_row_0 {l : Launch} {E : eE} {d bc bs : Nat} {h : aH} {Q : Int32 → aH → Prop} {x1 : Int32} {x2 : Int32} (S : SH h) (H : (CR l E d 0 0 mX11_personAt [.inr (some (0, 11, 0)), .inl x1] h (fun v1 h1 => SH h1 ∧ ((v1 = none → Q (nI 0) h1) ∧ (∀ q2, v1 = some q2 → ((x2 = 0 → Q (nI 0) h1) ∧ (¬ x2 = 0 → ((x2 < (-1) → Q (nI 0) h1) ∧ (¬ x2 < (-1) → ((x2 ≤ (nI 48) → (∃ p6, v1 = some (0, 6, p6) ∧ (CI l E d 0 0 mJ9_max_7cf53 [.inl x2, .inl (nI 0)] h1 (fun v7 h7 => SH h7 ∧ (CV l E d 0 0 mX6_clearCells [.inr (some (0, 6, p6)), .inl v7] h7 (fun h8 => SH h8 ∧ Q (nI 1) h8)))))) ∧ (¬ x2 ≤ (nI 48) → Q (nI 0) h1))))))))))) : CI l E (d + 1) bc bs mX11_row [.inr (some (0, 11, 0)), .inl x1, .inl x2] h Q := by
  refine CI.of (by decide) rfl ?_
  show TI l E mX11_row (d + 1) bc bs 0 [some (.inr (some (0, 11, 0))), some (.inl x1), some (.inl x2), none] [] h Q
  refine z_aload_n (pc := 0) dX11_row_0 rfl rfl ?_
  refine z_iload_n (pc := 1) dX11_row_1 rfl rfl ?_
  refine y_VR (pc := 2) (bc := bc) (bs := bs) (mc := 0) (ms := 0) (As := [.inl x1]) (rest := []) dX11_row_2 kX11_personAt lX11_90 ⟨_, _, rfl⟩ rfl rfl (H.use (fun v1 h1 H => ?_))
  have S1 := H.1
  replace H := H.2
  refine z_astore_n (pc := 5) (ls' := [some (.inr (some (0, 11, 0))), some (.inl x1), some (.inl x2), some (.inr v1)]) dX11_row_5 rfl rfl rfl ?_
  refine z_aload_n (pc := 6) dX11_row_6 rfl rfl ?_
  refine z_ifnull (pc := 7) (tgt := 25) dX11_row_7 (by decide) (fun c2 => ?_) (fun q2 c2 => ?_)
  · replace H := H.1 c2
    refine z_iconst (pc := 25) (v := (nI 0)) dX11_row_25 (by decide) ?_
    exact z_iret (pc := 26) dX11_row_26 rfl rfl ⟨_, rfl, H⟩
  · replace H := H.2 q2 c2
    refine z_iload_n (pc := 10) dX11_row_10 rfl rfl ?_
    refine z_if_eq (pc := 11) (tgt := 25) dX11_row_11 (by decide) (fun c3 => ?_) (fun c3 => ?_)
    · replace H := H.1 c3
      refine z_iconst (pc := 25) (v := (nI 0)) dX11_row_25 (by decide) ?_
      exact z_iret (pc := 26) dX11_row_26 rfl rfl ⟨_, rfl, H⟩
    · replace H := H.2 c3
      refine z_iload_n (pc := 14) dX11_row_14 rfl rfl ?_
      refine z_iconst (pc := 15) (v := (-1)) dX11_row_15 (by decide) ?_
      refine z_icmp_lt (pc := 16) (tgt := 25) dX11_row_16 (by decide) (fun c4 => ?_) (fun c4 => ?_)
      · replace H := H.1 c4
        refine z_iconst (pc := 25) (v := (nI 0)) dX11_row_25 (by decide) ?_
        exact z_iret (pc := 26) dX11_row_26 rfl rfl ⟨_, rfl, H⟩
      · replace H := H.2 c4
        refine z_iload_n (pc := 19) dX11_row_19 rfl rfl ?_
        refine z_bipush (pc := 20) (v := (nI 48)) dX11_row_20 (by decide) ?_
        refine z_icmp_le (pc := 22) (tgt := 27) dX11_row_22 (by decide) (fun c5 => ?_) (fun c5 => ?_)
        · replace H := H.1 c5
          refine z_aload_n (pc := 27) dX11_row_27 rfl rfl ?_
          obtain ⟨p6, e6, H⟩ := H
          refine z_cast e6 ?_
          refine z_iload_n (pc := 28) dX11_row_28 rfl rfl ?_
          refine z_iconst (pc := 29) (v := (nI 0)) dX11_row_29 (by decide) ?_
          refine y_SI (pc := 30) (bc := bc) (bs := bs) (mc := 0) (ms := 0) (As := [.inl x2, .inl (nI 0)]) (rest := [.inr (some (0, 6, p6))]) dX11_row_30 kJ9_max_7cf53 lX11_94 rfl rfl (H.use (fun v7 h7 H => ?_))
          have S7 := H.1
          replace H := H.2
          refine y_VV (pc := 33) (bc := bc) (bs := bs) (mc := 0) (ms := 0) (As := [.inl v7]) (rest := []) dX11_row_33 kX6_clearCells lX11_100 ⟨_, _, rfl⟩ rfl rfl (H.use (fun h8 H => ?_))
          have S8 := H.1
          replace H := H.2
          refine z_iconst (pc := 36) (v := (nI 1)) dX11_row_36 (by decide) ?_
          exact z_iret (pc := 37) dX11_row_37 rfl rfl ⟨_, rfl, H⟩
        · replace H := H.2 c5
          refine z_iconst (pc := 25) (v := (nI 0)) dX11_row_25 (by decide) ?_
          exact z_iret (pc := 26) dX11_row_26 rfl rfl ⟨_, rfl, H⟩

set_option maxRecDepth 20000 in
theorem bX11_cell_0 {l : Launch} {E : eE} {d bc bs : Nat} {h : aH} {Q : Int32 → aH → Prop} {x1 : Int32} {x2 : Int32} {x3 : Int32} (S : SH h) (H : (CR l E d 0 0 mX11_personAt [.inr (some (0, 11, 0)), .inl x1] h (fun v1 h1 => SH h1 ∧ ((v1 = none → Q (nI 0) h1) ∧ (∀ q2, v1 = some q2 → ((x2 < 0 → Q (nI 0) h1) ∧ (¬ x2 < 0 → (∃ p4, v1 = some (0, 6, p4) ∧ (((hI h1 p4 3) ≤ x2 → Q (nI 0) h1) ∧ (¬ (hI h1 p4 3) ≤ x2 → ((x3 < (-1) → Q (nI 0) h1) ∧ (¬ x3 < (-1) → ((x3 ≤ (nI 100) → (∃ p8, (hR h1 p4 2) = some (3, 48, p8) ∧ (vp_in x2 48 ∧ Q (nI 1) (stA h1 p8 (x2).toNatClampNeg (vp_nar .byte (x3).toInt8.toInt32))))) ∧ (¬ x3 ≤ (nI 100) → Q (nI 0) h1)))))))))))))) : CI l E (d + 1) bc bs mX11_cell [.inr (some (0, 11, 0)), .inl x1, .inl x2, .inl x3] h Q := by
  refine CI.of (by decide) rfl ?_
  show TI l E mX11_cell (d + 1) bc bs 0 [some (.inr (some (0, 11, 0))), some (.inl x1), some (.inl x2), some (.inl x3), none] [] h Q
  refine z_aload_n (pc := 0) dX11_cell_0 rfl rfl ?_
  refine z_iload_n (pc := 1) dX11_cell_1 rfl rfl ?_
  refine y_VR (pc := 2) (bc := bc) (bs := bs) (mc := 0) (ms := 0) (As := [.inl x1]) (rest := []) dX11_cell_2 kX11_personAt lX11_90 ⟨_, _, rfl⟩ rfl rfl (H.use (fun v1 h1 H => ?_))
  have S1 := H.1
  replace H := H.2
  refine z_astore (pc := 5) (ls' := [some (.inr (some (0, 11, 0))), some (.inl x1), some (.inl x2), some (.inl x3), some (.inr v1)]) dX11_cell_5 rfl rfl ?_
  refine z_aload (pc := 7) dX11_cell_7 rfl ?_
  refine z_ifnull (pc := 9) (tgt := 36) dX11_cell_9 (by decide) (fun c2 => ?_) (fun q2 c2 => ?_)
  · replace H := H.1 c2
    refine z_iconst (pc := 36) (v := (nI 0)) dX11_cell_36 (by decide) ?_
    exact z_iret (pc := 37) dX11_cell_37 rfl rfl ⟨_, rfl, H⟩
  · replace H := H.2 q2 c2
    refine z_iload_n (pc := 12) dX11_cell_12 rfl rfl ?_
    refine z_if_lt (pc := 13) (tgt := 36) dX11_cell_13 (by decide) (fun c3 => ?_) (fun c3 => ?_)
    · replace H := H.1 c3
      refine z_iconst (pc := 36) (v := (nI 0)) dX11_cell_36 (by decide) ?_
      exact z_iret (pc := 37) dX11_cell_37 rfl rfl ⟨_, rfl, H⟩
    · replace H := H.2 c3
      refine z_iload_n (pc := 16) dX11_cell_16 rfl rfl ?_
      refine z_aload (pc := 17) dX11_cell_17 rfl ?_
      obtain ⟨p4, e4, H⟩ := H
      refine z_cast e4 ?_
      refine z_geti (pc := 19) dX11_cell_19 fX11_103 rfl ?_
      refine z_icmp_ge (pc := 22) (tgt := 36) dX11_cell_22 (by decide) (fun c5 => ?_) (fun c5 => ?_)
      · replace H := H.1 c5
        refine z_iconst (pc := 36) (v := (nI 0)) dX11_cell_36 (by decide) ?_
        exact z_iret (pc := 37) dX11_cell_37 rfl rfl ⟨_, rfl, H⟩
      · replace H := H.2 c5
        refine z_iload_n (pc := 25) dX11_cell_25 rfl rfl ?_
        refine z_iconst (pc := 26) (v := (-1)) dX11_cell_26 (by decide) ?_
        refine z_icmp_lt (pc := 27) (tgt := 36) dX11_cell_27 (by decide) (fun c6 => ?_) (fun c6 => ?_)
        · replace H := H.1 c6
          refine z_iconst (pc := 36) (v := (nI 0)) dX11_cell_36 (by decide) ?_
          exact z_iret (pc := 37) dX11_cell_37 rfl rfl ⟨_, rfl, H⟩
        · replace H := H.2 c6
          refine z_iload_n (pc := 30) dX11_cell_30 rfl rfl ?_
          refine z_bipush (pc := 31) (v := (nI 100)) dX11_cell_31 (by decide) ?_
          refine z_icmp_le (pc := 33) (tgt := 38) dX11_cell_33 (by decide) (fun c7 => ?_) (fun c7 => ?_)
          · replace H := H.1 c7
            refine z_aload (pc := 38) dX11_cell_38 rfl ?_
            refine z_cast e4 ?_
            refine z_getr (pc := 40) dX11_cell_40 fX11_106 rfl ?_
            obtain ⟨p8, e8, H⟩ := H
            refine z_cast e8 ?_
            refine z_iload_n (pc := 43) dX11_cell_43 rfl rfl ?_
            refine z_iload_n (pc := 44) dX11_cell_44 rfl rfl ?_
            refine z_i2b (pc := 45) dX11_cell_45 ?_
            have c9 := H.1
            replace H := H.2
            refine z_bast (pc := 46) dX11_cell_46 c9 ?_
            refine z_iconst (pc := 47) (v := (nI 1)) dX11_cell_47 (by decide) ?_
            exact z_iret (pc := 48) dX11_cell_48 rfl rfl ⟨_, rfl, H⟩
          · replace H := H.2 c7
            refine z_iconst (pc := 36) (v := (nI 0)) dX11_cell_36 (by decide) ?_
            exact z_iret (pc := 37) dX11_cell_37 rfl rfl ⟨_, rfl, H⟩

set_option maxRecDepth 20000 in
theorem bX11_seriesAt_0 {l : Launch} {E : eE} {d bc bs : Nat} {h : aH} {Q : aR → aH → Prop} {x1 : Int32} (S : SH h) (H : ((x1 < 0 → Q none h) ∧ (¬ x1 < 0 → (((hI h 0 12) ≤ x1 → Q none h) ∧ (¬ (hI h 0 12) ≤ x1 → (vp_in x1 4 ∧ Q (hQ h 3 (x1).toNatClampNeg) h)))))) : CR l E d bc bs mX11_seriesAt [.inr (some (0, 11, 0)), .inl x1] h Q := by
  refine CR.of (by decide) rfl ?_
  show TR l E mX11_seriesAt d bc bs 0 [some (.inr (some (0, 11, 0))), some (.inl x1)] [] h Q
  refine z_iload_n (pc := 0) dX11_seriesAt_0 rfl rfl ?_
  refine z_if_lt (pc := 1) (tgt := 21) dX11_seriesAt_1 (by decide) (fun c1 => ?_) (fun c1 => ?_)
  · replace H := H.1 c1
    refine z_null (pc := 21) dX11_seriesAt_21 ?_
    exact z_aret (pc := 22) dX11_seriesAt_22 rfl ⟨_, rfl, H⟩
  · replace H := H.2 c1
    refine z_iload_n (pc := 4) dX11_seriesAt_4 rfl rfl ?_
    refine z_aload_n (pc := 5) dX11_seriesAt_5 rfl rfl ?_
    refine z_geti (pc := 6) dX11_seriesAt_6 fX11_114 rfl ?_
    refine z_icmp_ge (pc := 9) (tgt := 21) dX11_seriesAt_9 (by decide) (fun c2 => ?_) (fun c2 => ?_)
    · replace H := H.1 c2
      refine z_null (pc := 21) dX11_seriesAt_21 ?_
      exact z_aret (pc := 22) dX11_seriesAt_22 rfl ⟨_, rfl, H⟩
    · replace H := H.2 c2
      refine z_aload_n (pc := 12) dX11_seriesAt_12 rfl rfl ?_
      refine z_getk (pc := 13) dX11_seriesAt_13 fX11_23 rfl (s_0_2 S) ?_
      refine z_iload_n (pc := 16) dX11_seriesAt_16 rfl rfl ?_
      have c3 := H.1
      replace H := H.2
      refine z_aald (pc := 17) dX11_seriesAt_17 rfl rfl rfl c3 ?_
      refine z_goto (pc := 18) (tgt := 22) dX11_seriesAt_18 (by decide) ?_
      exact z_aret (pc := 22) dX11_seriesAt_22 rfl ⟨_, rfl, H⟩

set_option maxRecDepth 20000 in
theorem bX11_option_0 {l : Launch} {E : eE} {d bc bs : Nat} {h : aH} {Q : Int32 → aH → Prop} {x1 : Int32} {x2 : Int32} (S : SH h) (H : (CR l E d 0 0 mX11_seriesAt [.inr (some (0, 11, 0)), .inl x1] h (fun v1 h1 => SH h1 ∧ ((v1 = none → Q (-1) h1) ∧ (∀ q2, v1 = some q2 → (∃ p3, v1 = some (0, 9, p3) ∧ (((nI 6) ≤ (hI h1 p3 7) → Q (-1) h1) ∧ (¬ (nI 6) ≤ (hI h1 p3 7) → ((x2 < 0 → Q (-1) h1) ∧ (¬ x2 < 0 → ((x2 < (nI 336) → (∃ p7, (hR h1 p3 4) = some (1, 6, p7) ∧ (vp_in (hI h1 p3 7) 6 ∧ Q (hI h1 p3 7) (stI (stA h1 p7 ((hI h1 p3 7)).toNatClampNeg x2) p3 7 ((hI h1 p3 7) + (nI 1)))))) ∧ (¬ x2 < (nI 336) → Q (-1) h1)))))))))))) : CI l E (d + 1) bc bs mX11_option [.inr (some (0, 11, 0)), .inl x1, .inl x2] h Q := by
  refine CI.of (by decide) rfl ?_
  show TI l E mX11_option (d + 1) bc bs 0 [some (.inr (some (0, 11, 0))), some (.inl x1), some (.inl x2), none] [] h Q
  refine z_aload_n (pc := 0) dX11_option_0 rfl rfl ?_
  refine z_iload_n (pc := 1) dX11_option_1 rfl rfl ?_
  refine y_VR (pc := 2) (bc := bc) (bs := bs) (mc := 0) (ms := 0) (As := [.inl x1]) (rest := []) dX11_option_2 kX11_seriesAt lX11_110 ⟨_, _, rfl⟩ rfl rfl (H.use (fun v1 h1 H => ?_))
  have S1 := H.1
  replace H := H.2
  refine z_astore_n (pc := 5) (ls' := [some (.inr (some (0, 11, 0))), some (.inl x1), some (.inl x2), some (.inr v1)]) dX11_option_5 rfl rfl rfl ?_
  refine z_aload_n (pc := 6) dX11_option_6 rfl rfl ?_
  refine z_ifnull (pc := 7) (tgt := 30) dX11_option_7 (by decide) (fun c2 => ?_) (fun q2 c2 => ?_)
  · replace H := H.1 c2
    refine z_iconst (pc := 30) (v := (-1)) dX11_option_30 (by decide) ?_
    exact z_iret (pc := 31) dX11_option_31 rfl rfl ⟨_, rfl, H⟩
  · replace H := H.2 q2 c2
    refine z_aload_n (pc := 10) dX11_option_10 rfl rfl ?_
    obtain ⟨p3, e3, H⟩ := H
    refine z_cast e3 ?_
    refine z_geti (pc := 11) dX11_option_11 fX11_120 rfl ?_
    refine z_bipush (pc := 14) (v := (nI 6)) dX11_option_14 (by decide) ?_
    refine z_icmp_ge (pc := 16) (tgt := 30) dX11_option_16 (by decide) (fun c4 => ?_) (fun c4 => ?_)
    · replace H := H.1 c4
      refine z_iconst (pc := 30) (v := (-1)) dX11_option_30 (by decide) ?_
      exact z_iret (pc := 31) dX11_option_31 rfl rfl ⟨_, rfl, H⟩
    · replace H := H.2 c4
      refine z_iload_n (pc := 19) dX11_option_19 rfl rfl ?_
      refine z_if_lt (pc := 20) (tgt := 30) dX11_option_20 (by decide) (fun c5 => ?_) (fun c5 => ?_)
      · replace H := H.1 c5
        refine z_iconst (pc := 30) (v := (-1)) dX11_option_30 (by decide) ?_
        exact z_iret (pc := 31) dX11_option_31 rfl rfl ⟨_, rfl, H⟩
      · replace H := H.2 c5
        refine z_iload_n (pc := 23) dX11_option_23 rfl rfl ?_
        refine z_sipush (pc := 24) (v := (nI 336)) dX11_option_24 (by decide) ?_
        refine z_icmp_lt (pc := 27) (tgt := 32) dX11_option_27 (by decide) (fun c6 => ?_) (fun c6 => ?_)
        · replace H := H.1 c6
          refine z_aload_n (pc := 32) dX11_option_32 rfl rfl ?_
          refine z_cast e3 ?_
          refine z_getr (pc := 33) dX11_option_33 fX11_123 rfl ?_
          obtain ⟨p7, e7, H⟩ := H
          refine z_cast e7 ?_
          refine z_aload_n (pc := 36) dX11_option_36 rfl rfl ?_
          refine z_cast e3 ?_
          refine z_geti (pc := 37) dX11_option_37 fX11_120 rfl ?_
          refine z_iload_n (pc := 40) dX11_option_40 rfl rfl ?_
          have c8 := H.1
          replace H := H.2
          refine z_iast (pc := 41) dX11_option_41 c8 ?_
          refine z_aload_n (pc := 42) dX11_option_42 rfl rfl ?_
          refine z_cast e3 ?_
          refine z_dup (pc := 43) dX11_option_43 ?_
          refine z_geti (pc := 44) dX11_option_44 fX11_120 rfl ?_
          refine z_dup_x1 (pc := 47) dX11_option_47 ?_
          refine z_iconst (pc := 48) (v := (nI 1)) dX11_option_48 (by decide) ?_
          refine z_iadd (pc := 49) dX11_option_49 ?_
          refine z_puti (pc := 50) dX11_option_50 fX11_120 (uX9_7 _) rfl rfl rfl ?_
          exact z_iret (pc := 53) dX11_option_53 rfl rfl ⟨_, rfl, H⟩
        · replace H := H.2 c6
          refine z_iconst (pc := 30) (v := (-1)) dX11_option_30 (by decide) ?_
          exact z_iret (pc := 31) dX11_option_31 rfl rfl ⟨_, rfl, H⟩

set_option maxRecDepth 20000 in
theorem bX11_role_0 {l : Launch} {E : eE} {d bc bs : Nat} {h : aH} {Q : Int32 → aH → Prop} {x1 : Int32} {x2 : Int32} {x3 : Int32} (S : SH h) (H : (CR l E d 0 0 mX11_seriesAt [.inr (some (0, 11, 0)), .inl x1] h (fun v1 h1 => SH h1 ∧ ((v1 = none → Q (nI 0) h1) ∧ (∀ q2, v1 = some q2 → (CR l E d 0 0 mX11_personAt [.inr (some (0, 11, 0)), .inl x2] h1 (fun v3 h3 => SH h3 ∧ ((v3 = none → Q (nI 0) h3) ∧ (∀ q4, v3 = some q4 → ((x3 < 0 → Q (nI 0) h3) ∧ (¬ x3 < 0 → ((x3 < (nI 6) → (∃ p7, v1 = some (0, 9, p7) ∧ (CV l E d 0 0 mX9_giveRole [.inr (some (0, 9, p7)), .inl x2, .inl x3] h3 (fun h8 => SH h8 ∧ Q (nI 1) h8)))) ∧ (¬ x3 < (nI 6) → Q (nI 0) h3))))))))))))) : CI l E (d + 1) bc bs mX11_role [.inr (some (0, 11, 0)), .inl x1, .inl x2, .inl x3] h Q := by
  refine CI.of (by decide) rfl ?_
  show TI l E mX11_role (d + 1) bc bs 0 [some (.inr (some (0, 11, 0))), some (.inl x1), some (.inl x2), some (.inl x3), none] [] h Q
  refine z_aload_n (pc := 0) dX11_role_0 rfl rfl ?_
  refine z_iload_n (pc := 1) dX11_role_1 rfl rfl ?_
  refine y_VR (pc := 2) (bc := bc) (bs := bs) (mc := 0) (ms := 0) (As := [.inl x1]) (rest := []) dX11_role_2 kX11_seriesAt lX11_110 ⟨_, _, rfl⟩ rfl rfl (H.use (fun v1 h1 H => ?_))
  have S1 := H.1
  replace H := H.2
  refine z_astore (pc := 5) (ls' := [some (.inr (some (0, 11, 0))), some (.inl x1), some (.inl x2), some (.inl x3), some (.inr v1)]) dX11_role_5 rfl rfl ?_
  refine z_aload (pc := 7) dX11_role_7 rfl ?_
  refine z_ifnull (pc := 9) (tgt := 30) dX11_role_9 (by decide) (fun c2 => ?_) (fun q2 c2 => ?_)
  · replace H := H.1 c2
    refine z_iconst (pc := 30) (v := (nI 0)) dX11_role_30 (by decide) ?_
    exact z_iret (pc := 31) dX11_role_31 rfl rfl ⟨_, rfl, H⟩
  · replace H := H.2 q2 c2
    refine z_aload_n (pc := 12) dX11_role_12 rfl rfl ?_
    refine z_iload_n (pc := 13) dX11_role_13 rfl rfl ?_
    refine y_VR (pc := 14) (bc := bc) (bs := bs) (mc := 0) (ms := 0) (As := [.inl x2]) (rest := []) dX11_role_14 kX11_personAt lX11_90 ⟨_, _, rfl⟩ rfl rfl (H.use (fun v3 h3 H => ?_))
    have S3 := H.1
    replace H := H.2
    refine z_ifnull (pc := 17) (tgt := 30) dX11_role_17 (by decide) (fun c4 => ?_) (fun q4 c4 => ?_)
    · replace H := H.1 c4
      refine z_iconst (pc := 30) (v := (nI 0)) dX11_role_30 (by decide) ?_
      exact z_iret (pc := 31) dX11_role_31 rfl rfl ⟨_, rfl, H⟩
    · replace H := H.2 q4 c4
      refine z_iload_n (pc := 20) dX11_role_20 rfl rfl ?_
      refine z_if_lt (pc := 21) (tgt := 30) dX11_role_21 (by decide) (fun c5 => ?_) (fun c5 => ?_)
      · replace H := H.1 c5
        refine z_iconst (pc := 30) (v := (nI 0)) dX11_role_30 (by decide) ?_
        exact z_iret (pc := 31) dX11_role_31 rfl rfl ⟨_, rfl, H⟩
      · replace H := H.2 c5
        refine z_iload_n (pc := 24) dX11_role_24 rfl rfl ?_
        refine z_bipush (pc := 25) (v := (nI 6)) dX11_role_25 (by decide) ?_
        refine z_icmp_lt (pc := 27) (tgt := 32) dX11_role_27 (by decide) (fun c6 => ?_) (fun c6 => ?_)
        · replace H := H.1 c6
          refine z_aload (pc := 32) dX11_role_32 rfl ?_
          obtain ⟨p7, e7, H⟩ := H
          refine z_cast e7 ?_
          refine z_iload_n (pc := 34) dX11_role_34 rfl rfl ?_
          refine z_iload_n (pc := 35) dX11_role_35 rfl rfl ?_
          refine y_VV (pc := 36) (bc := bc) (bs := bs) (mc := 0) (ms := 0) (As := [.inl x2, .inl x3]) (rest := []) dX11_role_36 kX9_giveRole lX11_127 ⟨_, _, rfl⟩ rfl rfl (H.use (fun h8 H => ?_))
          have S8 := H.1
          replace H := H.2
          refine z_iconst (pc := 39) (v := (nI 1)) dX11_role_39 (by decide) ?_
          exact z_iret (pc := 40) dX11_role_40 rfl rfl ⟨_, rfl, H⟩
        · replace H := H.2 c6
          refine z_iconst (pc := 30) (v := (nI 0)) dX11_role_30 (by decide) ?_
          exact z_iret (pc := 31) dX11_role_31 rfl rfl ⟨_, rfl, H⟩

abbrev LX11_meetingCount_4 (l : Launch) (E : eE) (d bc bs : Nat) (x1 : Int32) (x2 : Int32) (h : aH) (Q : Int32 → aH → Prop) : Prop := TI l E mX11_meetingCount d bc bs 4 [some (.inr (some (0, 11, 0))), some (.inl x1), some (.inl x2), none] [] h Q

abbrev LX11_meetingCount_14 (l : Launch) (E : eE) (d bc bs : Nat) (x1 : Int32) (x2 : Int32) (x3 : Int32) (h : aH) (Q : Int32 → aH → Prop) : Prop := TI l E mX11_meetingCount d bc bs 14 [some (.inr (some (0, 11, 0))), some (.inl x1), some (.inl x2), some (.inl x3)] [] h Q

set_option maxRecDepth 20000 in
theorem bX11_meetingCount_0 {l : Launch} {E : eE} {d bc bs : Nat} {h : aH} {Q : Int32 → aH → Prop}  (S : SH h) (H : LX11_meetingCount_4 l E d bc bs (nI 0) (nI 0) h Q) : CI l E d bc bs mX11_meetingCount [.inr (some (0, 11, 0))] h Q := by
  refine CI.of (by decide) rfl ?_
  show TI l E mX11_meetingCount d bc bs 0 [some (.inr (some (0, 11, 0))), none, none, none] [] h Q
  refine z_iconst (pc := 0) (v := (nI 0)) dX11_meetingCount_0 (by decide) ?_
  refine z_istore_n (pc := 1) (ls' := [some (.inr (some (0, 11, 0))), some (.inl (nI 0)), none, none]) dX11_meetingCount_1 rfl rfl rfl ?_
  refine z_iconst (pc := 2) (v := (nI 0)) dX11_meetingCount_2 (by decide) ?_
  refine z_istore_n (pc := 3) (ls' := [some (.inr (some (0, 11, 0))), some (.inl (nI 0)), some (.inl (nI 0)), none]) dX11_meetingCount_3 rfl rfl rfl ?_
  exact H

set_option maxRecDepth 20000 in
theorem bX11_meetingCount_4 {l : Launch} {E : eE} {d bc bs : Nat} {h : aH} {Q : Int32 → aH → Prop} {x1 : Int32} {x2 : Int32} (S : SH h) (H : (((hI h 0 12) ≤ x2 → Q x1 h) ∧ (¬ (hI h 0 12) ≤ x2 → LX11_meetingCount_14 l E d bc bs x1 x2 (nI 0) h Q))) : LX11_meetingCount_4 l E d bc bs x1 x2 h Q := by
  refine z_iload_n (pc := 4) dX11_meetingCount_4 rfl rfl ?_
  refine z_aload_n (pc := 5) dX11_meetingCount_5 rfl rfl ?_
  refine z_geti (pc := 6) dX11_meetingCount_6 fX11_114 rfl ?_
  refine z_icmp_ge (pc := 9) (tgt := 55) dX11_meetingCount_9 (by decide) (fun c1 => ?_) (fun c1 => ?_)
  · replace H := H.1 c1
    refine z_iload_n (pc := 55) dX11_meetingCount_55 rfl rfl ?_
    exact z_iret (pc := 56) dX11_meetingCount_56 rfl rfl ⟨_, rfl, H⟩
  · replace H := H.2 c1
    refine z_iconst (pc := 12) (v := (nI 0)) dX11_meetingCount_12 (by decide) ?_
    refine z_istore_n (pc := 13) (ls' := [some (.inr (some (0, 11, 0))), some (.inl x1), some (.inl x2), some (.inl (nI 0))]) dX11_meetingCount_13 rfl rfl rfl ?_
    exact H

set_option maxRecDepth 20000 in
theorem bX11_meetingCount_14 {l : Launch} {E : eE} {d bc bs : Nat} {h : aH} {Q : Int32 → aH → Prop} {x1 : Int32} {x2 : Int32} {x3 : Int32} (S : SH h) (H : (((nI 52) ≤ x3 → LX11_meetingCount_4 l E d bc bs x1 (x2 + (nI 1)) h Q) ∧ (¬ (nI 52) ≤ x3 → (vp_in x2 4 ∧ (∃ p3, (hQ h 3 (x2).toNatClampNeg) = some (0, 9, p3) ∧ (∃ p4, (hR h p3 6) = some (1, 52, p4) ∧ (vp_in x3 52 ∧ ((¬ (hA h p4 (x3).toNatClampNeg) = (-1) → LX11_meetingCount_14 l E d bc bs (x1 + (nI 1)) x2 (x3 + (nI 1)) h Q) ∧ ((hA h p4 (x3).toNatClampNeg) = (-1) → LX11_meetingCount_14 l E d bc bs (x1 + (nI 0)) x2 (x3 + (nI 1)) h Q))))))))) : LX11_meetingCount_14 l E d bc bs x1 x2 x3 h Q := by
  refine z_iload_n (pc := 14) dX11_meetingCount_14 rfl rfl ?_
  refine z_bipush (pc := 15) (v := (nI 52)) dX11_meetingCount_15 (by decide) ?_
  refine z_icmp_ge (pc := 17) (tgt := 49) dX11_meetingCount_17 (by decide) (fun c1 => ?_) (fun c1 => ?_)
  · replace H := H.1 c1
    refine z_iinc (pc := 49) (v := (x2 + (nI 1))) (ls' := [some (.inr (some (0, 11, 0))), some (.inl x1), some (.inl (x2 + (nI 1))), some (.inl x3)]) dX11_meetingCount_49 rfl (by rw [show Int32.ofInt (1) = (nI 1) by decide]) rfl ?_
    refine z_goto (pc := 52) (tgt := 4) dX11_meetingCount_52 (by decide) ?_
    exact z_drop (ls' := [some (.inr (some (0, 11, 0))), some (.inl x1), some (.inl (x2 + (nI 1))), none]) (by simp [dropL]) H
  · replace H := H.2 c1
    refine z_iload_n (pc := 20) dX11_meetingCount_20 rfl rfl ?_
    refine z_aload_n (pc := 21) dX11_meetingCount_21 rfl rfl ?_
    refine z_getk (pc := 22) dX11_meetingCount_22 fX11_23 rfl (s_0_2 S) ?_
    refine z_iload_n (pc := 25) dX11_meetingCount_25 rfl rfl ?_
    have c2 := H.1
    replace H := H.2
    refine z_aald (pc := 26) dX11_meetingCount_26 rfl rfl rfl c2 ?_
    obtain ⟨p3, e3, H⟩ := H
    refine z_cast e3 ?_
    refine z_getr (pc := 27) dX11_meetingCount_27 fX11_246 rfl ?_
    obtain ⟨p4, e4, H⟩ := H
    refine z_cast e4 ?_
    refine z_iload_n (pc := 30) dX11_meetingCount_30 rfl rfl ?_
    have c5 := H.1
    replace H := H.2
    refine z_iald (pc := 31) dX11_meetingCount_31 c5 ?_
    refine z_iconst (pc := 32) (v := (-1)) dX11_meetingCount_32 (by decide) ?_
    refine z_icmp_ne (pc := 33) (tgt := 40) dX11_meetingCount_33 (by decide) (fun c6 => ?_) (fun c6 => ?_)
    · replace H := H.1 c6
      refine z_iconst (pc := 40) (v := (nI 1)) dX11_meetingCount_40 (by decide) ?_
      refine z_iadd (pc := 41) dX11_meetingCount_41 ?_
      refine z_istore_n (pc := 42) (ls' := [some (.inr (some (0, 11, 0))), some (.inl (x1 + (nI 1))), some (.inl x2), some (.inl x3)]) dX11_meetingCount_42 rfl rfl rfl ?_
      refine z_iinc (pc := 43) (v := (x3 + (nI 1))) (ls' := [some (.inr (some (0, 11, 0))), some (.inl (x1 + (nI 1))), some (.inl x2), some (.inl (x3 + (nI 1)))]) dX11_meetingCount_43 rfl (by rw [show Int32.ofInt (1) = (nI 1) by decide]) rfl ?_
      refine z_goto (pc := 46) (tgt := 14) dX11_meetingCount_46 (by decide) ?_
      exact H
    · replace H := H.2 c6
      refine z_iconst (pc := 36) (v := (nI 0)) dX11_meetingCount_36 (by decide) ?_
      refine z_goto (pc := 37) (tgt := 41) dX11_meetingCount_37 (by decide) ?_
      refine z_iadd (pc := 41) dX11_meetingCount_41 ?_
      refine z_istore_n (pc := 42) (ls' := [some (.inr (some (0, 11, 0))), some (.inl (x1 + (nI 0))), some (.inl x2), some (.inl x3)]) dX11_meetingCount_42 rfl rfl rfl ?_
      refine z_iinc (pc := 43) (v := (x3 + (nI 1))) (ls' := [some (.inr (some (0, 11, 0))), some (.inl (x1 + (nI 0))), some (.inl x2), some (.inl (x3 + (nI 1)))]) dX11_meetingCount_43 rfl (by rw [show Int32.ofInt (1) = (nI 1) by decide]) rfl ?_
      refine z_goto (pc := 46) (tgt := 14) dX11_meetingCount_46 (by decide) ?_
      exact H

set_option maxRecDepth 20000 in
theorem bX11_count_0 {l : Launch} {E : eE} {d bc bs : Nat} {h : aH} {Q : Int32 → aH → Prop} {x1 : Int32} (S : SH h) (H : ((x1 = nI 0 → Q (hI h 0 9) h) ∧ (x1 = nI 1 → Q (hI h 0 10) h) ∧ (x1 = nI 2 → Q (hI h 0 11) h) ∧ (x1 = nI 3 → Q (hI h 0 12) h) ∧ (x1 = nI 4 → (CI l E d 0 0 mX11_meetingCount [.inr (some (0, 11, 0))] h (fun v2 h2 => SH h2 ∧ Q v2 h2))) ∧ ((x1).toInt < 0 ∨ 4 < (x1).toInt → Q (-1) h))) : CI l E (d + 1) bc bs mX11_count [.inr (some (0, 11, 0)), .inl x1] h Q := by
  refine CI.of (by decide) rfl ?_
  show TI l E mX11_count (d + 1) bc bs 0 [some (.inr (some (0, 11, 0))), some (.inl x1)] [] h Q
  refine z_iload_n (pc := 0) dX11_count_0 rfl rfl ?_
  refine z_table (pc := 1) (tgtD := 61) [36, 41, 46, 51, 56] dX11_count_1 (by decide) (by decide) (by decide) ?_ (fun c1 => ?_)
  · refine And.intro (fun c1 => ?_) (And.intro (fun c1 => ?_) (And.intro (fun c1 => ?_) (And.intro (fun c1 => ?_) (And.intro (fun c1 => ?_) (trivial)))))
    · replace H := H.1 c1
      refine z_aload_n (pc := 36) dX11_count_36 rfl rfl ?_
      refine z_geti (pc := 37) dX11_count_37 fX11_69 rfl ?_
      exact z_iret (pc := 40) dX11_count_40 rfl rfl ⟨_, rfl, H⟩
    · replace H := H.2.1 c1
      refine z_aload_n (pc := 41) dX11_count_41 rfl rfl ?_
      refine z_geti (pc := 42) dX11_count_42 fX11_84 rfl ?_
      exact z_iret (pc := 45) dX11_count_45 rfl rfl ⟨_, rfl, H⟩
    · replace H := H.2.2.1 c1
      refine z_aload_n (pc := 46) dX11_count_46 rfl rfl ?_
      refine z_geti (pc := 47) dX11_count_47 fX11_131 rfl ?_
      exact z_iret (pc := 50) dX11_count_50 rfl rfl ⟨_, rfl, H⟩
    · replace H := H.2.2.2.1 c1
      refine z_aload_n (pc := 51) dX11_count_51 rfl rfl ?_
      refine z_geti (pc := 52) dX11_count_52 fX11_114 rfl ?_
      exact z_iret (pc := 55) dX11_count_55 rfl rfl ⟨_, rfl, H⟩
    · replace H := H.2.2.2.2.1 c1
      refine z_aload_n (pc := 56) dX11_count_56 rfl rfl ?_
      refine y_VI (pc := 57) (bc := bc) (bs := bs) (mc := 0) (ms := 0) (As := []) (rest := []) dX11_count_57 kX11_meetingCount lX11_134 ⟨_, _, rfl⟩ rfl rfl (H.use (fun v2 h2 H => ?_))
      have S2 := H.1
      replace H := H.2
      exact z_iret (pc := 60) dX11_count_60 rfl rfl ⟨_, rfl, H⟩
  · replace H := H.2.2.2.2.2 c1
    refine z_iconst (pc := 61) (v := (-1)) dX11_count_61 (by decide) ?_
    exact z_iret (pc := 62) dX11_count_62 rfl rfl ⟨_, rfl, H⟩

set_option maxRecDepth 20000 in
theorem bX11_isSlot_0 {l : Launch} {E : eE} {d bc bs : Nat} {h : aH} {Q : Int32 → aH → Prop} {x0 : Int32} (S : SH h) (H : ((x0 < 0 → Q (nI 0) h) ∧ (¬ x0 < 0 → (((nI 17472) ≤ x0 → Q (nI 0) h) ∧ (¬ (nI 17472) ≤ x0 → Q (nI 1) h))))) : CI l E d bc bs mX11_isSlot [.inl x0] h Q := by
  refine CI.of (by decide) rfl ?_
  show TI l E mX11_isSlot d bc bs 0 [some (.inl x0)] [] h Q
  refine z_iload_n (pc := 0) dX11_isSlot_0 rfl rfl ?_
  refine z_if_lt (pc := 1) (tgt := 15) dX11_isSlot_1 (by decide) (fun c1 => ?_) (fun c1 => ?_)
  · replace H := H.1 c1
    refine z_iconst (pc := 15) (v := (nI 0)) dX11_isSlot_15 (by decide) ?_
    exact z_iret (pc := 16) dX11_isSlot_16 rfl rfl ⟨_, rfl, H⟩
  · replace H := H.2 c1
    refine z_iload_n (pc := 4) dX11_isSlot_4 rfl rfl ?_
    refine z_sipush (pc := 5) (v := (nI 17472)) dX11_isSlot_5 (by decide) ?_
    refine z_icmp_ge (pc := 8) (tgt := 15) dX11_isSlot_8 (by decide) (fun c2 => ?_) (fun c2 => ?_)
    · replace H := H.1 c2
      refine z_iconst (pc := 15) (v := (nI 0)) dX11_isSlot_15 (by decide) ?_
      exact z_iret (pc := 16) dX11_isSlot_16 rfl rfl ⟨_, rfl, H⟩
    · replace H := H.2 c2
      refine z_iconst (pc := 11) (v := (nI 1)) dX11_isSlot_11 (by decide) ?_
      refine z_goto (pc := 12) (tgt := 16) dX11_isSlot_12 (by decide) ?_
      exact z_iret (pc := 16) dX11_isSlot_16 rfl rfl ⟨_, rfl, H⟩

set_option maxRecDepth 20000 in
theorem bX11_isWeek_0 {l : Launch} {E : eE} {d bc bs : Nat} {h : aH} {Q : Int32 → aH → Prop} {x0 : Int32} (S : SH h) (H : ((x0 < 0 → Q (nI 0) h) ∧ (¬ x0 < 0 → (((nI 52) ≤ x0 → Q (nI 0) h) ∧ (¬ (nI 52) ≤ x0 → Q (nI 1) h))))) : CI l E d bc bs mX11_isWeek [.inl x0] h Q := by
  refine CI.of (by decide) rfl ?_
  show TI l E mX11_isWeek d bc bs 0 [some (.inl x0)] [] h Q
  refine z_iload_n (pc := 0) dX11_isWeek_0 rfl rfl ?_
  refine z_if_lt (pc := 1) (tgt := 14) dX11_isWeek_1 (by decide) (fun c1 => ?_) (fun c1 => ?_)
  · replace H := H.1 c1
    refine z_iconst (pc := 14) (v := (nI 0)) dX11_isWeek_14 (by decide) ?_
    exact z_iret (pc := 15) dX11_isWeek_15 rfl rfl ⟨_, rfl, H⟩
  · replace H := H.2 c1
    refine z_iload_n (pc := 4) dX11_isWeek_4 rfl rfl ?_
    refine z_bipush (pc := 5) (v := (nI 52)) dX11_isWeek_5 (by decide) ?_
    refine z_icmp_ge (pc := 7) (tgt := 14) dX11_isWeek_7 (by decide) (fun c2 => ?_) (fun c2 => ?_)
    · replace H := H.1 c2
      refine z_iconst (pc := 14) (v := (nI 0)) dX11_isWeek_14 (by decide) ?_
      exact z_iret (pc := 15) dX11_isWeek_15 rfl rfl ⟨_, rfl, H⟩
    · replace H := H.2 c2
      refine z_iconst (pc := 10) (v := (nI 1)) dX11_isWeek_10 (by decide) ?_
      refine z_goto (pc := 11) (tgt := 15) dX11_isWeek_11 (by decide) ?_
      exact z_iret (pc := 15) dX11_isWeek_15 rfl rfl ⟨_, rfl, H⟩

set_option maxRecDepth 20000 in
theorem bX11_isKnown_0 {l : Launch} {E : eE} {d bc bs : Nat} {h : aH} {Q : Int32 → aH → Prop} {x1 : Int32} (S : SH h) (H : ((x1 < 0 → Q (nI 0) h) ∧ (¬ x1 < 0 → (((hI h 0 11) < x1 → Q (nI 0) h) ∧ (¬ (hI h 0 11) < x1 → Q (nI 1) h))))) : CI l E d bc bs mX11_isKnown [.inr (some (0, 11, 0)), .inl x1] h Q := by
  refine CI.of (by decide) rfl ?_
  show TI l E mX11_isKnown d bc bs 0 [some (.inr (some (0, 11, 0))), some (.inl x1)] [] h Q
  refine z_iload_n (pc := 0) dX11_isKnown_0 rfl rfl ?_
  refine z_if_lt (pc := 1) (tgt := 16) dX11_isKnown_1 (by decide) (fun c1 => ?_) (fun c1 => ?_)
  · replace H := H.1 c1
    refine z_iconst (pc := 16) (v := (nI 0)) dX11_isKnown_16 (by decide) ?_
    exact z_iret (pc := 17) dX11_isKnown_17 rfl rfl ⟨_, rfl, H⟩
  · replace H := H.2 c1
    refine z_iload_n (pc := 4) dX11_isKnown_4 rfl rfl ?_
    refine z_aload_n (pc := 5) dX11_isKnown_5 rfl rfl ?_
    refine z_geti (pc := 6) dX11_isKnown_6 fX11_131 rfl ?_
    refine z_icmp_gt (pc := 9) (tgt := 16) dX11_isKnown_9 (by decide) (fun c2 => ?_) (fun c2 => ?_)
    · replace H := H.1 c2
      refine z_iconst (pc := 16) (v := (nI 0)) dX11_isKnown_16 (by decide) ?_
      exact z_iret (pc := 17) dX11_isKnown_17 rfl rfl ⟨_, rfl, H⟩
    · replace H := H.2 c2
      refine z_iconst (pc := 12) (v := (nI 1)) dX11_isKnown_12 (by decide) ?_
      refine z_goto (pc := 13) (tgt := 17) dX11_isKnown_13 (by decide) ?_
      exact z_iret (pc := 17) dX11_isKnown_17 rfl rfl ⟨_, rfl, H⟩

set_option maxRecDepth 20000 in
theorem bX11_isStretch_0 {l : Launch} {E : eE} {d bc bs : Nat} {h : aH} {Q : Int32 → aH → Prop} {x0 : Int32} {x1 : Int32} (S : SH h) (H : (CI l E d 0 0 mX11_isSlot [.inl x0] h (fun v1 h1 => SH h1 ∧ ((v1 = 0 → Q (nI 0) h1) ∧ (¬ v1 = 0 → ((x1 < (nI 1) → Q (nI 0) h1) ∧ (¬ x1 < (nI 1) → (((nI 6) < x1 → Q (nI 0) h1) ∧ (¬ (nI 6) < x1 → (((nI 17472) < (x0 + x1) → Q (nI 0) h1) ∧ (¬ (nI 17472) < (x0 + x1) → Q (nI 1) h1))))))))))) : CI l E (d + 1) bc bs mX11_isStretch [.inl x0, .inl x1] h Q := by
  refine CI.of (by decide) rfl ?_
  show TI l E mX11_isStretch (d + 1) bc bs 0 [some (.inl x0), some (.inl x1)] [] h Q
  refine z_iload_n (pc := 0) dX11_isStretch_0 rfl rfl ?_
  refine y_SI (pc := 1) (bc := bc) (bs := bs) (mc := 0) (ms := 0) (As := [.inl x0]) (rest := []) dX11_isStretch_1 kX11_isSlot lX11_138 rfl rfl (H.use (fun v1 h1 H => ?_))
  have S1 := H.1
  replace H := H.2
  refine z_if_eq (pc := 4) (tgt := 31) dX11_isStretch_4 (by decide) (fun c2 => ?_) (fun c2 => ?_)
  · replace H := H.1 c2
    refine z_iconst (pc := 31) (v := (nI 0)) dX11_isStretch_31 (by decide) ?_
    exact z_iret (pc := 32) dX11_isStretch_32 rfl rfl ⟨_, rfl, H⟩
  · replace H := H.2 c2
    refine z_iload_n (pc := 7) dX11_isStretch_7 rfl rfl ?_
    refine z_iconst (pc := 8) (v := (nI 1)) dX11_isStretch_8 (by decide) ?_
    refine z_icmp_lt (pc := 9) (tgt := 31) dX11_isStretch_9 (by decide) (fun c3 => ?_) (fun c3 => ?_)
    · replace H := H.1 c3
      refine z_iconst (pc := 31) (v := (nI 0)) dX11_isStretch_31 (by decide) ?_
      exact z_iret (pc := 32) dX11_isStretch_32 rfl rfl ⟨_, rfl, H⟩
    · replace H := H.2 c3
      refine z_iload_n (pc := 12) dX11_isStretch_12 rfl rfl ?_
      refine z_bipush (pc := 13) (v := (nI 6)) dX11_isStretch_13 (by decide) ?_
      refine z_icmp_gt (pc := 15) (tgt := 31) dX11_isStretch_15 (by decide) (fun c4 => ?_) (fun c4 => ?_)
      · replace H := H.1 c4
        refine z_iconst (pc := 31) (v := (nI 0)) dX11_isStretch_31 (by decide) ?_
        exact z_iret (pc := 32) dX11_isStretch_32 rfl rfl ⟨_, rfl, H⟩
      · replace H := H.2 c4
        refine z_iload_n (pc := 18) dX11_isStretch_18 rfl rfl ?_
        refine z_iload_n (pc := 19) dX11_isStretch_19 rfl rfl ?_
        refine z_iadd (pc := 20) dX11_isStretch_20 ?_
        refine z_sipush (pc := 21) (v := (nI 17472)) dX11_isStretch_21 (by decide) ?_
        refine z_icmp_gt (pc := 24) (tgt := 31) dX11_isStretch_24 (by decide) (fun c5 => ?_) (fun c5 => ?_)
        · replace H := H.1 c5
          refine z_iconst (pc := 31) (v := (nI 0)) dX11_isStretch_31 (by decide) ?_
          exact z_iret (pc := 32) dX11_isStretch_32 rfl rfl ⟨_, rfl, H⟩
        · replace H := H.2 c5
          refine z_iconst (pc := 27) (v := (nI 1)) dX11_isStretch_27 (by decide) ?_
          refine z_goto (pc := 28) (tgt := 32) dX11_isStretch_28 (by decide) ?_
          exact z_iret (pc := 32) dX11_isStretch_32 rfl rfl ⟨_, rfl, H⟩

set_option maxRecDepth 20000 in
theorem bX11_can_0 {l : Launch} {E : eE} {d bc bs : Nat} {h : aH} {Q : Int32 → aH → Prop} {x1 : Int32} {x2 : Int32} {x3 : Int32} {x4 : Int32} (S : SH h) (H : (CR l E d 0 0 mX11_personAt [.inr (some (0, 11, 0)), .inl x1] h (fun v1 h1 => SH h1 ∧ ((v1 = none → Q (-1) h1) ∧ (∀ q2, v1 = some q2 → (CI l E d 0 0 mX11_isStretch [.inl x2, .inl x3] h1 (fun v3 h3 => SH h3 ∧ ((v3 = 0 → Q (-1) h3) ∧ (¬ v3 = 0 → (CI l E d 0 0 mX11_isKnown [.inr (some (0, 11, 0)), .inl x4] h3 (fun v5 h5 => SH h5 ∧ ((¬ v5 = 0 → (∃ p7, v1 = some (0, 6, p7) ∧ (CI l E d 0 0 mX6_hindrance [.inr (some (0, 6, p7)), .inl x2, .inl x3, .inl x4] h5 (fun v8 h8 => SH h8 ∧ Q v8 h8)))) ∧ (v5 = 0 → Q (-1) h5))))))))))))) : CI l E (d + 1) bc bs mX11_can [.inr (some (0, 11, 0)), .inl x1, .inl x2, .inl x3, .inl x4] h Q := by
  refine CI.of (by decide) rfl ?_
  show TI l E mX11_can (d + 1) bc bs 0 [some (.inr (some (0, 11, 0))), some (.inl x1), some (.inl x2), some (.inl x3), some (.inl x4), none] [] h Q
  refine z_aload_n (pc := 0) dX11_can_0 rfl rfl ?_
  refine z_iload_n (pc := 1) dX11_can_1 rfl rfl ?_
  refine y_VR (pc := 2) (bc := bc) (bs := bs) (mc := 0) (ms := 0) (As := [.inl x1]) (rest := []) dX11_can_2 kX11_personAt lX11_90 ⟨_, _, rfl⟩ rfl rfl (H.use (fun v1 h1 H => ?_))
  have S1 := H.1
  replace H := H.2
  refine z_astore (pc := 5) (ls' := [some (.inr (some (0, 11, 0))), some (.inl x1), some (.inl x2), some (.inl x3), some (.inl x4), some (.inr v1)]) dX11_can_5 rfl rfl ?_
  refine z_aload (pc := 7) dX11_can_7 rfl ?_
  refine z_ifnull (pc := 9) (tgt := 29) dX11_can_9 (by decide) (fun c2 => ?_) (fun q2 c2 => ?_)
  · replace H := H.1 c2
    refine z_iconst (pc := 29) (v := (-1)) dX11_can_29 (by decide) ?_
    exact z_iret (pc := 30) dX11_can_30 rfl rfl ⟨_, rfl, H⟩
  · replace H := H.2 q2 c2
    refine z_iload_n (pc := 12) dX11_can_12 rfl rfl ?_
    refine z_iload_n (pc := 13) dX11_can_13 rfl rfl ?_
    refine y_SI (pc := 14) (bc := bc) (bs := bs) (mc := 0) (ms := 0) (As := [.inl x2, .inl x3]) (rest := []) dX11_can_14 kX11_isStretch lX11_178 rfl rfl (H.use (fun v3 h3 H => ?_))
    have S3 := H.1
    replace H := H.2
    refine z_if_eq (pc := 17) (tgt := 29) dX11_can_17 (by decide) (fun c4 => ?_) (fun c4 => ?_)
    · replace H := H.1 c4
      refine z_iconst (pc := 29) (v := (-1)) dX11_can_29 (by decide) ?_
      exact z_iret (pc := 30) dX11_can_30 rfl rfl ⟨_, rfl, H⟩
    · replace H := H.2 c4
      refine z_aload_n (pc := 20) dX11_can_20 rfl rfl ?_
      refine z_iload (pc := 21) dX11_can_21 rfl ?_
      refine y_VI (pc := 23) (bc := bc) (bs := bs) (mc := 0) (ms := 0) (As := [.inl x4]) (rest := []) dX11_can_23 kX11_isKnown lX11_162 ⟨_, _, rfl⟩ rfl rfl (H.use (fun v5 h5 H => ?_))
      have S5 := H.1
      replace H := H.2
      refine z_if_ne (pc := 26) (tgt := 31) dX11_can_26 (by decide) (fun c6 => ?_) (fun c6 => ?_)
      · replace H := H.1 c6
        refine z_aload (pc := 31) dX11_can_31 rfl ?_
        obtain ⟨p7, e7, H⟩ := H
        refine z_cast e7 ?_
        refine z_iload_n (pc := 33) dX11_can_33 rfl rfl ?_
        refine z_iload_n (pc := 34) dX11_can_34 rfl rfl ?_
        refine z_iload (pc := 35) dX11_can_35 rfl ?_
        refine y_VI (pc := 37) (bc := bc) (bs := bs) (mc := 0) (ms := 0) (As := [.inl x2, .inl x3, .inl x4]) (rest := []) dX11_can_37 kX6_hindrance lX11_182 ⟨_, _, rfl⟩ rfl rfl (H.use (fun v8 h8 H => ?_))
        have S8 := H.1
        replace H := H.2
        exact z_iret (pc := 40) dX11_can_40 rfl rfl ⟨_, rfl, H⟩
      · replace H := H.2 c6
        refine z_iconst (pc := 29) (v := (-1)) dX11_can_29 (by decide) ?_
        exact z_iret (pc := 30) dX11_can_30 rfl rfl ⟨_, rfl, H⟩

set_option maxRecDepth 20000 in
theorem bX11_cost_0 {l : Launch} {E : eE} {d bc bs : Nat} {h : aH} {Q : Int32 → aH → Prop} {x1 : Int32} {x2 : Int32} {x3 : Int32} {x4 : Int32} (S : SH h) (H : (CR l E d 0 0 mX11_personAt [.inr (some (0, 11, 0)), .inl x1] h (fun v1 h1 => SH h1 ∧ ((v1 = none → Q (-1) h1) ∧ (∀ q2, v1 = some q2 → (CI l E d 0 0 mX11_isStretch [.inl x2, .inl x3] h1 (fun v3 h3 => SH h3 ∧ ((v3 = 0 → Q (-1) h3) ∧ (¬ v3 = 0 → (CI l E d 0 0 mX11_isKnown [.inr (some (0, 11, 0)), .inl x4] h3 (fun v5 h5 => SH h5 ∧ ((¬ v5 = 0 → (∃ p7, v1 = some (0, 6, p7) ∧ (CI l E d 0 0 mX6_price [.inr (some (0, 6, p7)), .inl x2, .inl x3, .inl x4] h5 (fun v8 h8 => SH h8 ∧ Q v8 h8)))) ∧ (v5 = 0 → Q (-1) h5))))))))))))) : CI l E (d + 1) bc bs mX11_cost [.inr (some (0, 11, 0)), .inl x1, .inl x2, .inl x3, .inl x4] h Q := by
  refine CI.of (by decide) rfl ?_
  show TI l E mX11_cost (d + 1) bc bs 0 [some (.inr (some (0, 11, 0))), some (.inl x1), some (.inl x2), some (.inl x3), some (.inl x4), none] [] h Q
  refine z_aload_n (pc := 0) dX11_cost_0 rfl rfl ?_
  refine z_iload_n (pc := 1) dX11_cost_1 rfl rfl ?_
  refine y_VR (pc := 2) (bc := bc) (bs := bs) (mc := 0) (ms := 0) (As := [.inl x1]) (rest := []) dX11_cost_2 kX11_personAt lX11_90 ⟨_, _, rfl⟩ rfl rfl (H.use (fun v1 h1 H => ?_))
  have S1 := H.1
  replace H := H.2
  refine z_astore (pc := 5) (ls' := [some (.inr (some (0, 11, 0))), some (.inl x1), some (.inl x2), some (.inl x3), some (.inl x4), some (.inr v1)]) dX11_cost_5 rfl rfl ?_
  refine z_aload (pc := 7) dX11_cost_7 rfl ?_
  refine z_ifnull (pc := 9) (tgt := 29) dX11_cost_9 (by decide) (fun c2 => ?_) (fun q2 c2 => ?_)
  · replace H := H.1 c2
    refine z_iconst (pc := 29) (v := (-1)) dX11_cost_29 (by decide) ?_
    exact z_iret (pc := 30) dX11_cost_30 rfl rfl ⟨_, rfl, H⟩
  · replace H := H.2 q2 c2
    refine z_iload_n (pc := 12) dX11_cost_12 rfl rfl ?_
    refine z_iload_n (pc := 13) dX11_cost_13 rfl rfl ?_
    refine y_SI (pc := 14) (bc := bc) (bs := bs) (mc := 0) (ms := 0) (As := [.inl x2, .inl x3]) (rest := []) dX11_cost_14 kX11_isStretch lX11_178 rfl rfl (H.use (fun v3 h3 H => ?_))
    have S3 := H.1
    replace H := H.2
    refine z_if_eq (pc := 17) (tgt := 29) dX11_cost_17 (by decide) (fun c4 => ?_) (fun c4 => ?_)
    · replace H := H.1 c4
      refine z_iconst (pc := 29) (v := (-1)) dX11_cost_29 (by decide) ?_
      exact z_iret (pc := 30) dX11_cost_30 rfl rfl ⟨_, rfl, H⟩
    · replace H := H.2 c4
      refine z_aload_n (pc := 20) dX11_cost_20 rfl rfl ?_
      refine z_iload (pc := 21) dX11_cost_21 rfl ?_
      refine y_VI (pc := 23) (bc := bc) (bs := bs) (mc := 0) (ms := 0) (As := [.inl x4]) (rest := []) dX11_cost_23 kX11_isKnown lX11_162 ⟨_, _, rfl⟩ rfl rfl (H.use (fun v5 h5 H => ?_))
      have S5 := H.1
      replace H := H.2
      refine z_if_ne (pc := 26) (tgt := 31) dX11_cost_26 (by decide) (fun c6 => ?_) (fun c6 => ?_)
      · replace H := H.1 c6
        refine z_aload (pc := 31) dX11_cost_31 rfl ?_
        obtain ⟨p7, e7, H⟩ := H
        refine z_cast e7 ?_
        refine z_iload_n (pc := 33) dX11_cost_33 rfl rfl ?_
        refine z_iload_n (pc := 34) dX11_cost_34 rfl rfl ?_
        refine z_iload (pc := 35) dX11_cost_35 rfl ?_
        refine y_VI (pc := 37) (bc := bc) (bs := bs) (mc := 0) (ms := 0) (As := [.inl x2, .inl x3, .inl x4]) (rest := []) dX11_cost_37 kX6_price lX11_186 ⟨_, _, rfl⟩ rfl rfl (H.use (fun v8 h8 H => ?_))
        have S8 := H.1
        replace H := H.2
        exact z_iret (pc := 40) dX11_cost_40 rfl rfl ⟨_, rfl, H⟩
      · replace H := H.2 c6
        refine z_iconst (pc := 29) (v := (-1)) dX11_cost_29 (by decide) ?_
        exact z_iret (pc := 30) dX11_cost_30 rfl rfl ⟨_, rfl, H⟩

set_option maxRecDepth 20000 in
theorem bX11_span_0 {l : Launch} {E : eE} {d bc bs : Nat} {h : aH} {Q : Int32 → aH → Prop} {x1 : Int32} {x2 : Int32} {x3 : Int32} (S : SH h) (H : (CR l E d 0 0 mX11_personAt [.inr (some (0, 11, 0)), .inl x1] h (fun v1 h1 => SH h1 ∧ ((v1 = none → Q (-1) h1) ∧ (∀ q2, v1 = some q2 → (CI l E d 0 0 mX11_isSlot [.inl x2] h1 (fun v3 h3 => SH h3 ∧ ((v3 = 0 → Q (-1) h3) ∧ (¬ v3 = 0 → (CI l E d 0 0 mX11_isKnown [.inr (some (0, 11, 0)), .inl x3] h3 (fun v5 h5 => SH h5 ∧ ((¬ v5 = 0 → (∃ p7, v1 = some (0, 6, p7) ∧ (CR l E d 0 0 mX6_spanAt [.inr (some (0, 6, p7)), .inl x2, .inl x3] h5 (fun v8 h8 => SH h8 ∧ ((∀ q9, v8 = some q9 → (∃ p10, v8 = some (0, 3, p10) ∧ (((hI h8 p10 3) = 0 → Q (hI h8 p10 0) h8) ∧ (¬ (hI h8 p10 3) = 0 → Q (-2) h8)))) ∧ (v8 = none → Q (-1) h8)))))) ∧ (v5 = 0 → Q (-1) h5))))))))))))) : CI l E (d + 1) bc bs mX11_span [.inr (some (0, 11, 0)), .inl x1, .inl x2, .inl x3] h Q := by
  refine CI.of (by decide) rfl ?_
  show TI l E mX11_span (d + 1) bc bs 0 [some (.inr (some (0, 11, 0))), some (.inl x1), some (.inl x2), some (.inl x3), none, none] [] h Q
  refine z_aload_n (pc := 0) dX11_span_0 rfl rfl ?_
  refine z_iload_n (pc := 1) dX11_span_1 rfl rfl ?_
  refine y_VR (pc := 2) (bc := bc) (bs := bs) (mc := 0) (ms := 0) (As := [.inl x1]) (rest := []) dX11_span_2 kX11_personAt lX11_90 ⟨_, _, rfl⟩ rfl rfl (H.use (fun v1 h1 H => ?_))
  have S1 := H.1
  replace H := H.2
  refine z_astore (pc := 5) (ls' := [some (.inr (some (0, 11, 0))), some (.inl x1), some (.inl x2), some (.inl x3), some (.inr v1), none]) dX11_span_5 rfl rfl ?_
  refine z_aload (pc := 7) dX11_span_7 rfl ?_
  refine z_ifnull (pc := 9) (tgt := 27) dX11_span_9 (by decide) (fun c2 => ?_) (fun q2 c2 => ?_)
  · replace H := H.1 c2
    refine z_iconst (pc := 27) (v := (-1)) dX11_span_27 (by decide) ?_
    exact z_iret (pc := 28) dX11_span_28 rfl rfl ⟨_, rfl, H⟩
  · replace H := H.2 q2 c2
    refine z_iload_n (pc := 12) dX11_span_12 rfl rfl ?_
    refine y_SI (pc := 13) (bc := bc) (bs := bs) (mc := 0) (ms := 0) (As := [.inl x2]) (rest := []) dX11_span_13 kX11_isSlot lX11_138 rfl rfl (H.use (fun v3 h3 H => ?_))
    have S3 := H.1
    replace H := H.2
    refine z_if_eq (pc := 16) (tgt := 27) dX11_span_16 (by decide) (fun c4 => ?_) (fun c4 => ?_)
    · replace H := H.1 c4
      refine z_iconst (pc := 27) (v := (-1)) dX11_span_27 (by decide) ?_
      exact z_iret (pc := 28) dX11_span_28 rfl rfl ⟨_, rfl, H⟩
    · replace H := H.2 c4
      refine z_aload_n (pc := 19) dX11_span_19 rfl rfl ?_
      refine z_iload_n (pc := 20) dX11_span_20 rfl rfl ?_
      refine y_VI (pc := 21) (bc := bc) (bs := bs) (mc := 0) (ms := 0) (As := [.inl x3]) (rest := []) dX11_span_21 kX11_isKnown lX11_162 ⟨_, _, rfl⟩ rfl rfl (H.use (fun v5 h5 H => ?_))
      have S5 := H.1
      replace H := H.2
      refine z_if_ne (pc := 24) (tgt := 29) dX11_span_24 (by decide) (fun c6 => ?_) (fun c6 => ?_)
      · replace H := H.1 c6
        refine z_aload (pc := 29) dX11_span_29 rfl ?_
        obtain ⟨p7, e7, H⟩ := H
        refine z_cast e7 ?_
        refine z_iload_n (pc := 31) dX11_span_31 rfl rfl ?_
        refine z_iload_n (pc := 32) dX11_span_32 rfl rfl ?_
        refine y_VR (pc := 33) (bc := bc) (bs := bs) (mc := 0) (ms := 0) (As := [.inl x2, .inl x3]) (rest := []) dX11_span_33 kX6_spanAt lX11_189 ⟨_, _, rfl⟩ rfl rfl (H.use (fun v8 h8 H => ?_))
        have S8 := H.1
        replace H := H.2
        refine z_astore (pc := 36) (ls' := [some (.inr (some (0, 11, 0))), some (.inl x1), some (.inl x2), some (.inl x3), some (.inr v1), some (.inr v8)]) dX11_span_36 rfl rfl ?_
        refine z_aload (pc := 38) dX11_span_38 rfl ?_
        refine z_ifnonnull (pc := 40) (tgt := 45) dX11_span_40 (by decide) (fun q9 c9 => ?_) (fun c9 => ?_)
        · replace H := H.1 q9 c9
          refine z_aload (pc := 45) dX11_span_45 rfl ?_
          obtain ⟨p10, e10, H⟩ := H
          refine z_cast e10 ?_
          refine z_geti (pc := 47) dX11_span_47 fX11_193 rfl ?_
          refine z_if_eq (pc := 50) (tgt := 58) dX11_span_50 (by decide) (fun c11 => ?_) (fun c11 => ?_)
          · replace H := H.1 c11
            refine z_aload (pc := 58) dX11_span_58 rfl ?_
            refine z_cast e10 ?_
            refine z_geti (pc := 60) dX11_span_60 fX11_197 rfl ?_
            exact z_iret (pc := 63) dX11_span_63 rfl rfl ⟨_, rfl, H⟩
          · replace H := H.2 c11
            refine z_bipush (pc := 53) (v := (-2)) dX11_span_53 (by decide) ?_
            refine z_goto (pc := 55) (tgt := 63) dX11_span_55 (by decide) ?_
            exact z_iret (pc := 63) dX11_span_63 rfl rfl ⟨_, rfl, H⟩
        · replace H := H.2 c9
          refine z_iconst (pc := 43) (v := (-1)) dX11_span_43 (by decide) ?_
          exact z_iret (pc := 44) dX11_span_44 rfl rfl ⟨_, rfl, H⟩
      · replace H := H.2 c6
        refine z_iconst (pc := 27) (v := (-1)) dX11_span_27 (by decide) ?_
        exact z_iret (pc := 28) dX11_span_28 rfl rfl ⟨_, rfl, H⟩

set_option maxRecDepth 20000 in
theorem bX11_seat_0 {l : Launch} {E : eE} {d bc bs : Nat} {h : aH} {Q : Int32 → aH → Prop} {x1 : Int32} {x2 : Int32} {x3 : Int32} {x4 : Int32} (S : SH h) (H : (vp_in x1 4 ∧ (∃ p2, (hQ h 3 (x1).toNatClampNeg) = some (0, 9, p2) ∧ (∃ p3, (hR h p2 6) = some (1, 52, p3) ∧ (vp_in x2 52 ∧ ((¬ (hA h p3 (x2).toNatClampNeg) = (-1) → (∃ p7, (hQ h 4 (x1).toNatClampNeg) = some (0, 10, p7) ∧ isSh p7 ∧ (CI l E d 0 0 mX9_optionsOf [.inr (some (0, 9, p2)), .inl (hA h p3 (x2).toNatClampNeg)] h (fun v8 h8 => SH h8 ∧ (CI l E d 0 0 mX9_everyone [.inr (some (0, 9, p2))] h8 (fun v9 h9 => SH h9 ∧ (CV l E d 0 0 mX10_fill [.inr (some (0, 10, p7)), .inr (some (0, 9, p2)), .inl v8, .inl x2, .inl x3, .inl (x4 &&& v9), .inr (some (14, 12, 2))] h9 (fun h10 => SH h10 ∧ (∃ p12, (hQ h10 4 (x1).toNatClampNeg) = some (0, 10, p12) ∧ isSh p12 ∧ (CV l E d 0 0 mX8_seat [.inr (some (0, 8, 26)), .inr (some (0, 9, p2)), .inr (some (0, 10, p12)), .inr (some (0, 1, 21)), .inl (hA h p3 (x2).toNatClampNeg)] h10 (fun h13 => SH h13 ∧ (∃ p15, (hQ h13 4 (x1).toNatClampNeg) = some (0, 10, p15) ∧ isSh p15 ∧ (CV l E d 0 0 mX1_put [.inr (some (0, 1, 21)), .inr (some (0, 9, p2)), .inr (some (0, 10, p15)), .inr (some (0, 8, 26))] h13 (fun h16 => SH h16 ∧ Q (nI 1) h16)))))))))))))) ∧ ((hA h p3 (x2).toNatClampNeg) = (-1) → Q (nI 0) h))))))) : CI l E (d + 1) bc bs mX11_seat [.inr (some (0, 11, 0)), .inl x1, .inl x2, .inl x3, .inl x4] h Q := by
  refine CI.of (by decide) rfl ?_
  show TI l E mX11_seat (d + 1) bc bs 0 [some (.inr (some (0, 11, 0))), some (.inl x1), some (.inl x2), some (.inl x3), some (.inl x4), none, none] [] h Q
  refine z_aload_n (pc := 0) dX11_seat_0 rfl rfl ?_
  refine z_getk (pc := 1) dX11_seat_1 fX11_23 rfl (s_0_2 S) ?_
  refine z_iload_n (pc := 4) dX11_seat_4 rfl rfl ?_
  have c1 := H.1
  replace H := H.2
  refine z_aald (pc := 5) dX11_seat_5 rfl rfl rfl c1 ?_
  refine z_astore (pc := 6) (ls' := [some (.inr (some (0, 11, 0))), some (.inl x1), some (.inl x2), some (.inl x3), some (.inl x4), some (.inr ((hQ h 3 (x1).toNatClampNeg))), none]) dX11_seat_6 rfl rfl ?_
  refine z_aload (pc := 8) dX11_seat_8 rfl ?_
  obtain ⟨p2, e2, H⟩ := H
  refine z_cast e2 ?_
  refine z_getr (pc := 10) dX11_seat_10 fX11_246 rfl ?_
  obtain ⟨p3, e3, H⟩ := H
  refine z_cast e3 ?_
  refine z_iload_n (pc := 13) dX11_seat_13 rfl rfl ?_
  have c4 := H.1
  replace H := H.2
  refine z_iald (pc := 14) dX11_seat_14 c4 ?_
  refine z_istore (pc := 15) (ls' := [some (.inr (some (0, 11, 0))), some (.inl x1), some (.inl x2), some (.inl x3), some (.inl x4), some (.inr ((hQ h 3 (x1).toNatClampNeg))), some (.inl (hA h p3 (x2).toNatClampNeg))]) dX11_seat_15 rfl rfl ?_
  refine z_iload (pc := 17) dX11_seat_17 rfl ?_
  refine z_iconst (pc := 19) (v := (-1)) dX11_seat_19 (by decide) ?_
  refine z_icmp_ne (pc := 20) (tgt := 25) dX11_seat_20 (by decide) (fun c5 => ?_) (fun c5 => ?_)
  · replace H := H.1 c5
    refine z_aload_n (pc := 25) dX11_seat_25 rfl rfl ?_
    refine z_getk (pc := 26) dX11_seat_26 fX11_29 rfl (s_0_3 S) ?_
    refine z_iload_n (pc := 29) dX11_seat_29 rfl rfl ?_
    refine z_aald (pc := 30) dX11_seat_30 rfl rfl rfl c1 ?_
    obtain ⟨p7, e7, gp7, H⟩ := H
    refine z_cast e7 ?_
    refine z_aload (pc := 31) dX11_seat_31 rfl ?_
    refine z_cast e2 ?_
    refine z_aload (pc := 33) dX11_seat_33 rfl ?_
    refine z_cast e2 ?_
    refine z_iload (pc := 35) dX11_seat_35 rfl ?_
    refine y_VI (pc := 37) (bc := bc) (bs := bs) (mc := 0) (ms := 0) (As := [.inl (hA h p3 (x2).toNatClampNeg)]) (rest := [.inr (some (0, 9, p2)), .inr (some (0, 10, p7))]) dX11_seat_37 kX9_optionsOf lX11_208 ⟨_, _, rfl⟩ rfl rfl (H.use (fun v8 h8 H => ?_))
    have S8 := H.1
    replace H := H.2
    refine z_iload_n (pc := 40) dX11_seat_40 rfl rfl ?_
    refine z_iload_n (pc := 41) dX11_seat_41 rfl rfl ?_
    refine z_iload (pc := 42) dX11_seat_42 rfl ?_
    refine z_aload (pc := 44) dX11_seat_44 rfl ?_
    refine z_cast e2 ?_
    refine y_VI (pc := 46) (bc := bc) (bs := bs) (mc := 0) (ms := 0) (As := []) (rest := [.inl x4, .inl x3, .inl x2, .inl v8, .inr (some (0, 9, p2)), .inr (some (0, 10, p7))]) dX11_seat_46 kX9_everyone lX11_212 ⟨_, _, rfl⟩ rfl rfl (H.use (fun v9 h9 H => ?_))
    have S9 := H.1
    replace H := H.2
    refine z_iand (pc := 49) dX11_seat_49 ?_
    refine z_aload_n (pc := 50) dX11_seat_50 rfl rfl ?_
    refine z_getk (pc := 51) dX11_seat_51 fX11_17 rfl (s_0_1 S9) ?_
    refine y_VV (pc := 54) (bc := bc) (bs := bs) (mc := 0) (ms := 0) (As := [.inr (some (0, 9, p2)), .inl v8, .inl x2, .inl x3, .inl (x4 &&& v9), .inr (some (14, 12, 2))]) (rest := []) dX11_seat_54 kX10_fill lX11_215 ⟨_, _, rfl⟩ rfl rfl (H.use (fun h10 H => ?_))
    have S10 := H.1
    replace H := H.2
    refine z_aload_n (pc := 57) dX11_seat_57 rfl rfl ?_
    refine z_getk (pc := 58) dX11_seat_58 fX11_44 rfl (s_0_5 S10) ?_
    refine z_aload (pc := 61) dX11_seat_61 rfl ?_
    refine z_cast e2 ?_
    refine z_aload_n (pc := 63) dX11_seat_63 rfl rfl ?_
    refine z_getk (pc := 64) dX11_seat_64 fX11_29 rfl (s_0_3 S10) ?_
    refine z_iload_n (pc := 67) dX11_seat_67 rfl rfl ?_
    refine z_aald (pc := 68) dX11_seat_68 rfl rfl rfl c1 ?_
    obtain ⟨p12, e12, gp12, H⟩ := H
    refine z_cast e12 ?_
    refine z_aload_n (pc := 69) dX11_seat_69 rfl rfl ?_
    refine z_getk (pc := 70) dX11_seat_70 fX11_37 rfl (s_0_4 S10) ?_
    refine z_iload (pc := 73) dX11_seat_73 rfl ?_
    refine y_VV (pc := 75) (bc := bc) (bs := bs) (mc := 0) (ms := 0) (As := [.inr (some (0, 9, p2)), .inr (some (0, 10, p12)), .inr (some (0, 1, 21)), .inl (hA h p3 (x2).toNatClampNeg)]) (rest := []) dX11_seat_75 kX8_seat lX11_312 ⟨_, _, rfl⟩ rfl rfl (H.use (fun h13 H => ?_))
    have S13 := H.1
    replace H := H.2
    refine z_aload_n (pc := 78) dX11_seat_78 rfl rfl ?_
    refine z_getk (pc := 79) dX11_seat_79 fX11_37 rfl (s_0_4 S13) ?_
    refine z_aload (pc := 82) dX11_seat_82 rfl ?_
    refine z_cast e2 ?_
    refine z_aload_n (pc := 84) dX11_seat_84 rfl rfl ?_
    refine z_getk (pc := 85) dX11_seat_85 fX11_29 rfl (s_0_3 S13) ?_
    refine z_iload_n (pc := 88) dX11_seat_88 rfl rfl ?_
    refine z_aald (pc := 89) dX11_seat_89 rfl rfl rfl c1 ?_
    obtain ⟨p15, e15, gp15, H⟩ := H
    refine z_cast e15 ?_
    refine z_aload_n (pc := 90) dX11_seat_90 rfl rfl ?_
    refine z_getk (pc := 91) dX11_seat_91 fX11_44 rfl (s_0_5 S13) ?_
    refine y_VV (pc := 94) (bc := bc) (bs := bs) (mc := 0) (ms := 0) (As := [.inr (some (0, 9, p2)), .inr (some (0, 10, p15)), .inr (some (0, 8, 26))]) (rest := []) dX11_seat_94 kX1_put lX11_315 ⟨_, _, rfl⟩ rfl rfl (H.use (fun h16 H => ?_))
    have S16 := H.1
    replace H := H.2
    refine z_iconst (pc := 97) (v := (nI 1)) dX11_seat_97 (by decide) ?_
    exact z_iret (pc := 98) dX11_seat_98 rfl rfl ⟨_, rfl, H⟩
  · replace H := H.2 c5
    refine z_iconst (pc := 23) (v := (nI 0)) dX11_seat_23 (by decide) ?_
    exact z_iret (pc := 24) dX11_seat_24 rfl rfl ⟨_, rfl, H⟩

abbrev LX11_seatLesser_10 (l : Launch) (E : eE) (d bc bs : Nat) (o1 : Nat) (x2 : Int32) (x3 : Int32) (x4 : Int32) (h : aH) (Q : aH → Prop) : Prop := TV l E mX11_seatLesser d bc bs 10 [some (.inr (some (0, 11, 0))), some (.inr (some (0, 9, o1))), some (.inl x2), some (.inl x3), some (.inl x4)] [] h Q

set_option maxRecDepth 20000 in
theorem bX11_seatLesser_0 {l : Launch} {E : eE} {d bc bs : Nat} {h : aH} {Q : aH → Prop} {o1 : Nat} {x2 : Int32} {x3 : Int32} (S : SH h) (H : (CV l E d 0 0 mX1_clear [.inr (some (0, 1, 21))] h (fun h1 => SH h1 ∧ LX11_seatLesser_10 l E (d + 1) bc bs o1 x2 x3 (nI 0) h1 Q))) : CV l E (d + 1) bc bs mX11_seatLesser [.inr (some (0, 11, 0)), .inr (some (0, 9, o1)), .inl x2, .inl x3] h Q := by
  refine CV.of (by decide) rfl ?_
  show TV l E mX11_seatLesser (d + 1) bc bs 0 [some (.inr (some (0, 11, 0))), some (.inr (some (0, 9, o1))), some (.inl x2), some (.inl x3), none] [] h Q
  refine z_aload_n (pc := 0) dX11_seatLesser_0 rfl rfl ?_
  refine z_getk (pc := 1) dX11_seatLesser_1 fX11_37 rfl (s_0_4 S) ?_
  refine y_VV (pc := 4) (bc := bc) (bs := bs) (mc := 0) (ms := 0) (As := []) (rest := []) dX11_seatLesser_4 kX1_clear lX11_284 ⟨_, _, rfl⟩ rfl rfl (H.use (fun h1 H => ?_))
  have S1 := H.1
  replace H := H.2
  refine z_iconst (pc := 7) (v := (nI 0)) dX11_seatLesser_7 (by decide) ?_
  refine z_istore (pc := 8) (ls' := [some (.inr (some (0, 11, 0))), some (.inr (some (0, 9, o1))), some (.inl x2), some (.inl x3), some (.inl (nI 0))]) dX11_seatLesser_8 rfl rfl ?_
  exact H

set_option maxRecDepth 20000 in
theorem bX11_seatLesser_10 {l : Launch} {E : eE} {d bc bs : Nat} {h : aH} {Q : aH → Prop} {o1 : Nat} {x2 : Int32} {x3 : Int32} {x4 : Int32} (S : SH h) (H : (((hI h o1 0) ≤ x4 → Q h) ∧ (¬ (hI h o1 0) ≤ x4 → (CI l E d 0 0 mX9_everyone [.inr (some (0, 9, o1))] h (fun v2 h2 => SH h2 ∧ (CI l E d 0 0 mX11_seat [.inr (some (0, 11, 0)), .inl x4, .inl x2, .inl x3, .inl v2] h2 (fun v3 h3 => SH h3 ∧ LX11_seatLesser_10 l E (d + 1) bc bs o1 x2 x3 (x4 + (nI 1)) h3 Q))))))) : LX11_seatLesser_10 l E (d + 1) bc bs o1 x2 x3 x4 h Q := by
  refine z_iload (pc := 10) dX11_seatLesser_10 rfl ?_
  refine z_aload_n (pc := 12) dX11_seatLesser_12 rfl rfl ?_
  refine z_geti (pc := 13) dX11_seatLesser_13 fX11_207 rfl ?_
  refine z_icmp_ge (pc := 16) (tgt := 38) dX11_seatLesser_16 (by decide) (fun c1 => ?_) (fun c1 => ?_)
  · replace H := H.1 c1
    exact z_ret (pc := 38) dX11_seatLesser_38 rfl ⟨rfl, H⟩
  · replace H := H.2 c1
    refine z_aload_n (pc := 19) dX11_seatLesser_19 rfl rfl ?_
    refine z_iload (pc := 20) dX11_seatLesser_20 rfl ?_
    refine z_iload_n (pc := 22) dX11_seatLesser_22 rfl rfl ?_
    refine z_iload_n (pc := 23) dX11_seatLesser_23 rfl rfl ?_
    refine z_aload_n (pc := 24) dX11_seatLesser_24 rfl rfl ?_
    refine y_VI (pc := 25) (bc := bc) (bs := bs) (mc := 0) (ms := 0) (As := []) (rest := [.inl x3, .inl x2, .inl x4, .inr (some (0, 11, 0))]) dX11_seatLesser_25 kX9_everyone lX11_212 ⟨_, _, rfl⟩ rfl rfl (H.use (fun v2 h2 H => ?_))
    have S2 := H.1
    replace H := H.2
    refine y_VI (pc := 28) (bc := bc) (bs := bs) (mc := 0) (ms := 0) (As := [.inl x4, .inl x2, .inl x3, .inl v2]) (rest := []) dX11_seatLesser_28 kX11_seat lX11_287 ⟨_, _, rfl⟩ rfl rfl (H.use (fun v3 h3 H => ?_))
    have S3 := H.1
    replace H := H.2
    refine z_pop (pc := 31) dX11_seatLesser_31 ?_
    refine z_iinc (pc := 32) (v := (x4 + (nI 1))) (ls' := [some (.inr (some (0, 11, 0))), some (.inr (some (0, 9, o1))), some (.inl x2), some (.inl x3), some (.inl (x4 + (nI 1)))]) dX11_seatLesser_32 rfl (by rw [show Int32.ofInt (1) = (nI 1) by decide]) rfl ?_
    refine z_goto (pc := 35) (tgt := 10) dX11_seatLesser_35 (by decide) ?_
    exact H

abbrev LX11_stuck_4 (l : Launch) (E : eE) (d bc bs : Nat) (x1 : Int32) (x2 : Int32) (x3 : Int32) (h : aH) (Q : Int32 → aH → Prop) : Prop := TI l E mX11_stuck d bc bs 4 [some (.inr (some (0, 11, 0))), some (.inl x1), some (.inl x2), some (.inl x3)] [] h Q

set_option maxRecDepth 20000 in
theorem bX11_stuck_0 {l : Launch} {E : eE} {d bc bs : Nat} {h : aH} {Q : Int32 → aH → Prop} {x1 : Int32} (S : SH h) (H : LX11_stuck_4 l E (d + 1) bc bs x1 x1 (nI 0) h Q) : CI l E (d + 1) bc bs mX11_stuck [.inr (some (0, 11, 0)), .inl x1] h Q := by
  refine CI.of (by decide) rfl ?_
  show TI l E mX11_stuck (d + 1) bc bs 0 [some (.inr (some (0, 11, 0))), some (.inl x1), none, none] [] h Q
  refine z_iload_n (pc := 0) dX11_stuck_0 rfl rfl ?_
  refine z_istore_n (pc := 1) (ls' := [some (.inr (some (0, 11, 0))), some (.inl x1), some (.inl x1), none]) dX11_stuck_1 rfl rfl rfl ?_
  refine z_iconst (pc := 2) (v := (nI 0)) dX11_stuck_2 (by decide) ?_
  refine z_istore_n (pc := 3) (ls' := [some (.inr (some (0, 11, 0))), some (.inl x1), some (.inl x1), some (.inl (nI 0))]) dX11_stuck_3 rfl rfl rfl ?_
  exact H

set_option maxRecDepth 20000 in
theorem bX11_stuck_4 {l : Launch} {E : eE} {d bc bs : Nat} {h : aH} {Q : Int32 → aH → Prop} {x1 : Int32} {x2 : Int32} {x3 : Int32} (S : SH h) (H : (((nI 12) ≤ x3 → Q (-1) h) ∧ (¬ (nI 12) ≤ x3 → (CI l E d 0 0 mX11_isIn [.inl (hI h 0 13), .inl x3] h (fun v2 h2 => SH h2 ∧ ((v2 = 0 → LX11_stuck_4 l E (d + 1) bc bs x1 x2 (x3 + (nI 1)) h2 Q) ∧ (¬ v2 = 0 → ((¬ x2 = 0 → LX11_stuck_4 l E (d + 1) bc bs x1 (x2 + (-1)) (x3 + (nI 1)) h2 Q) ∧ (x2 = 0 → Q x3 h2))))))))) : LX11_stuck_4 l E (d + 1) bc bs x1 x2 x3 h Q := by
  refine z_iload_n (pc := 4) dX11_stuck_4 rfl rfl ?_
  refine z_bipush (pc := 5) (v := (nI 12)) dX11_stuck_5 (by decide) ?_
  refine z_icmp_ge (pc := 7) (tgt := 36) dX11_stuck_7 (by decide) (fun c1 => ?_) (fun c1 => ?_)
  · replace H := H.1 c1
    refine z_iconst (pc := 36) (v := (-1)) dX11_stuck_36 (by decide) ?_
    exact z_iret (pc := 37) dX11_stuck_37 rfl rfl ⟨_, rfl, H⟩
  · replace H := H.2 c1
    refine z_aload_n (pc := 10) dX11_stuck_10 rfl rfl ?_
    refine z_geti (pc := 11) dX11_stuck_11 fX11_226 rfl ?_
    refine z_iload_n (pc := 14) dX11_stuck_14 rfl rfl ?_
    refine y_SI (pc := 15) (bc := bc) (bs := bs) (mc := 0) (ms := 0) (As := [.inl (hI h 0 13), .inl x3]) (rest := []) dX11_stuck_15 kX11_isIn lX11_261 rfl rfl (H.use (fun v2 h2 H => ?_))
    have S2 := H.1
    replace H := H.2
    refine z_if_eq (pc := 18) (tgt := 30) dX11_stuck_18 (by decide) (fun c3 => ?_) (fun c3 => ?_)
    · replace H := H.1 c3
      refine z_iinc (pc := 30) (v := (x3 + (nI 1))) (ls' := [some (.inr (some (0, 11, 0))), some (.inl x1), some (.inl x2), some (.inl (x3 + (nI 1)))]) dX11_stuck_30 rfl (by rw [show Int32.ofInt (1) = (nI 1) by decide]) rfl ?_
      refine z_goto (pc := 33) (tgt := 4) dX11_stuck_33 (by decide) ?_
      exact H
    · replace H := H.2 c3
      refine z_iload_n (pc := 21) dX11_stuck_21 rfl rfl ?_
      refine z_if_ne (pc := 22) (tgt := 27) dX11_stuck_22 (by decide) (fun c4 => ?_) (fun c4 => ?_)
      · replace H := H.1 c4
        refine z_iinc (pc := 27) (v := (x2 + (-1))) (ls' := [some (.inr (some (0, 11, 0))), some (.inl x1), some (.inl (x2 + (-1))), some (.inl x3)]) dX11_stuck_27 rfl (by rw [show Int32.ofInt (-1) = (-1) by decide]) rfl ?_
        refine z_iinc (pc := 30) (v := (x3 + (nI 1))) (ls' := [some (.inr (some (0, 11, 0))), some (.inl x1), some (.inl (x2 + (-1))), some (.inl (x3 + (nI 1)))]) dX11_stuck_30 rfl (by rw [show Int32.ofInt (1) = (nI 1) by decide]) rfl ?_
        refine z_goto (pc := 33) (tgt := 4) dX11_stuck_33 (by decide) ?_
        exact H
      · replace H := H.2 c4
        refine z_iload_n (pc := 25) dX11_stuck_25 rfl rfl ?_
        exact z_iret (pc := 26) dX11_stuck_26 rfl rfl ⟨_, rfl, H⟩

abbrev LX11_isShifted_16 (l : Launch) (E : eE) (d bc bs : Nat) (o1 : Nat) (x2 : Int32) (x3 : Int32) (x4 : Int32) (x5 : Int32) (x6 : Int32) (h : aH) (Q : Int32 → aH → Prop) : Prop := TI l E mX11_isShifted d bc bs 16 [some (.inr (some (0, 11, 0))), some (.inr (some (0, 9, o1))), some (.inl x2), some (.inl x3), some (.inl x4), some (.inl x5), some (.inl x6), none] [] h Q

set_option maxRecDepth 20000 in
theorem bX11_isShifted_0 {l : Launch} {E : eE} {d bc bs : Nat} {h : aH} {Q : Int32 → aH → Prop} {o1 : Nat} {x2 : Int32} {x3 : Int32} {x4 : Int32} (S : SH h) (H : ((¬ x2 = (-1) → (CI l E d 0 0 mX9_withRole [.inr (some (0, 9, o1))] h (fun v2 h2 => SH h2 ∧ LX11_isShifted_16 l E (d + 1) bc bs o1 x2 x3 x4 v2 (nI 0) h2 Q))) ∧ (x2 = (-1) → Q (nI 0) h))) : CI l E (d + 1) bc bs mX11_isShifted [.inr (some (0, 11, 0)), .inr (some (0, 9, o1)), .inl x2, .inl x3, .inl x4] h Q := by
  refine CI.of (by decide) rfl ?_
  show TI l E mX11_isShifted (d + 1) bc bs 0 [some (.inr (some (0, 11, 0))), some (.inr (some (0, 9, o1))), some (.inl x2), some (.inl x3), some (.inl x4), none, none, none] [] h Q
  refine z_iload_n (pc := 0) dX11_isShifted_0 rfl rfl ?_
  refine z_iconst (pc := 1) (v := (-1)) dX11_isShifted_1 (by decide) ?_
  refine z_icmp_ne (pc := 2) (tgt := 7) dX11_isShifted_2 (by decide) (fun c1 => ?_) (fun c1 => ?_)
  · replace H := H.1 c1
    refine z_aload_n (pc := 7) dX11_isShifted_7 rfl rfl ?_
    refine y_VI (pc := 8) (bc := bc) (bs := bs) (mc := 0) (ms := 0) (As := []) (rest := []) dX11_isShifted_8 kX9_withRole lX11_305 ⟨_, _, rfl⟩ rfl rfl (H.use (fun v2 h2 H => ?_))
    have S2 := H.1
    replace H := H.2
    refine z_istore (pc := 11) (ls' := [some (.inr (some (0, 11, 0))), some (.inr (some (0, 9, o1))), some (.inl x2), some (.inl x3), some (.inl x4), some (.inl v2), none, none]) dX11_isShifted_11 rfl rfl ?_
    refine z_iconst (pc := 13) (v := (nI 0)) dX11_isShifted_13 (by decide) ?_
    refine z_istore (pc := 14) (ls' := [some (.inr (some (0, 11, 0))), some (.inr (some (0, 9, o1))), some (.inl x2), some (.inl x3), some (.inl x4), some (.inl v2), some (.inl (nI 0)), none]) dX11_isShifted_14 rfl rfl ?_
    exact H
  · replace H := H.2 c1
    refine z_iconst (pc := 5) (v := (nI 0)) dX11_isShifted_5 (by decide) ?_
    exact z_iret (pc := 6) dX11_isShifted_6 rfl rfl ⟨_, rfl, H⟩

set_option maxRecDepth 20000 in
theorem bX11_isShifted_16 {l : Launch} {E : eE} {d bc bs : Nat} {h : aH} {Q : Int32 → aH → Prop} {o1 : Nat} {x2 : Int32} {x3 : Int32} {x4 : Int32} {x5 : Int32} {x6 : Int32} (S : SH h) (H : (((hI h 0 10) ≤ x6 → Q (nI 0) h) ∧ (¬ (hI h 0 10) ≤ x6 → (vp_in x6 12 ∧ (∃ p3, (hQ h 2 (x6).toNatClampNeg) = some (0, 6, p3) ∧ (CI l E d 0 0 mX11_isIn [.inl x5, .inl x6] h (fun v4 h4 => SH h4 ∧ ((v4 = 0 → LX11_isShifted_16 l E (d + 1) bc bs o1 x2 x3 x4 x5 (x6 + (nI 1)) h4 Q) ∧ (¬ v4 = 0 → (∃ p6, (hR h p3 0) = some (0, 4, p6) ∧ (CI l E d 0 0 mX4_offsetAt [.inr (some (0, 4, p6)), .inl x2, .inl x3] h4 (fun v7 h7 => SH h7 ∧ (CI l E d 0 0 mX4_offsetAt [.inr (some (0, 4, p6)), .inl x2, .inl x4] h7 (fun v8 h8 => SH h8 ∧ ((v7 = v8 → LX11_isShifted_16 l E (d + 1) bc bs o1 x2 x3 x4 x5 (x6 + (nI 1)) h8 Q) ∧ (¬ v7 = v8 → Q (nI 1) h8)))))))))))))))) : LX11_isShifted_16 l E (d + 1) bc bs o1 x2 x3 x4 x5 x6 h Q := by
  refine z_iload (pc := 16) dX11_isShifted_16 rfl ?_
  refine z_aload_n (pc := 18) dX11_isShifted_18 rfl rfl ?_
  refine z_geti (pc := 19) dX11_isShifted_19 fX11_84 rfl ?_
  refine z_icmp_ge (pc := 22) (tgt := 73) dX11_isShifted_22 (by decide) (fun c1 => ?_) (fun c1 => ?_)
  · replace H := H.1 c1
    refine z_iconst (pc := 73) (v := (nI 0)) dX11_isShifted_73 (by decide) ?_
    exact z_iret (pc := 74) dX11_isShifted_74 rfl rfl ⟨_, rfl, H⟩
  · replace H := H.2 c1
    refine z_aload_n (pc := 25) dX11_isShifted_25 rfl rfl ?_
    refine z_getk (pc := 26) dX11_isShifted_26 fX11_17 rfl (s_0_1 S) ?_
    refine z_iload (pc := 29) dX11_isShifted_29 rfl ?_
    have c2 := H.1
    replace H := H.2
    refine z_aald (pc := 31) dX11_isShifted_31 rfl rfl rfl c2 ?_
    obtain ⟨p3, e3, H⟩ := H
    refine z_cast e3 ?_
    refine z_getr (pc := 32) dX11_isShifted_32 fX11_308 rfl ?_
    refine z_astore (pc := 35) (ls' := [some (.inr (some (0, 11, 0))), some (.inr (some (0, 9, o1))), some (.inl x2), some (.inl x3), some (.inl x4), some (.inl x5), some (.inl x6), some (.inr ((hR h p3 0)))]) dX11_isShifted_35 rfl rfl ?_
    refine z_iload (pc := 37) dX11_isShifted_37 rfl ?_
    refine z_iload (pc := 39) dX11_isShifted_39 rfl ?_
    refine y_SI (pc := 41) (bc := bc) (bs := bs) (mc := 0) (ms := 0) (As := [.inl x5, .inl x6]) (rest := []) dX11_isShifted_41 kX11_isIn lX11_261 rfl rfl (H.use (fun v4 h4 H => ?_))
    have S4 := H.1
    replace H := H.2
    refine z_if_eq (pc := 44) (tgt := 67) dX11_isShifted_44 (by decide) (fun c5 => ?_) (fun c5 => ?_)
    · replace H := H.1 c5
      refine z_iinc (pc := 67) (v := (x6 + (nI 1))) (ls' := [some (.inr (some (0, 11, 0))), some (.inr (some (0, 9, o1))), some (.inl x2), some (.inl x3), some (.inl x4), some (.inl x5), some (.inl (x6 + (nI 1))), some (.inr ((hR h p3 0)))]) dX11_isShifted_67 rfl (by rw [show Int32.ofInt (1) = (nI 1) by decide]) rfl ?_
      refine z_goto (pc := 70) (tgt := 16) dX11_isShifted_70 (by decide) ?_
      exact z_drop (ls' := [some (.inr (some (0, 11, 0))), some (.inr (some (0, 9, o1))), some (.inl x2), some (.inl x3), some (.inl x4), some (.inl x5), some (.inl (x6 + (nI 1))), none]) (by simp [dropL]) H
    · replace H := H.2 c5
      refine z_aload (pc := 47) dX11_isShifted_47 rfl ?_
      obtain ⟨p6, e6, H⟩ := H
      refine z_cast e6 ?_
      refine z_iload_n (pc := 49) dX11_isShifted_49 rfl rfl ?_
      refine z_iload_n (pc := 50) dX11_isShifted_50 rfl rfl ?_
      refine y_VI (pc := 51) (bc := bc) (bs := bs) (mc := 0) (ms := 0) (As := [.inl x2, .inl x3]) (rest := []) dX11_isShifted_51 kX4_offsetAt lX11_166 ⟨_, _, rfl⟩ rfl rfl (H.use (fun v7 h7 H => ?_))
      have S7 := H.1
      replace H := H.2
      refine z_aload (pc := 54) dX11_isShifted_54 rfl ?_
      refine z_cast e6 ?_
      refine z_iload_n (pc := 56) dX11_isShifted_56 rfl rfl ?_
      refine z_iload (pc := 57) dX11_isShifted_57 rfl ?_
      refine y_VI (pc := 59) (bc := bc) (bs := bs) (mc := 0) (ms := 0) (As := [.inl x2, .inl x4]) (rest := [.inl v7]) dX11_isShifted_59 kX4_offsetAt lX11_166 ⟨_, _, rfl⟩ rfl rfl (H.use (fun v8 h8 H => ?_))
      have S8 := H.1
      replace H := H.2
      refine z_icmp_eq (pc := 62) (tgt := 67) dX11_isShifted_62 (by decide) (fun c9 => ?_) (fun c9 => ?_)
      · replace H := H.1 c9
        refine z_iinc (pc := 67) (v := (x6 + (nI 1))) (ls' := [some (.inr (some (0, 11, 0))), some (.inr (some (0, 9, o1))), some (.inl x2), some (.inl x3), some (.inl x4), some (.inl x5), some (.inl (x6 + (nI 1))), some (.inr ((hR h p3 0)))]) dX11_isShifted_67 rfl (by rw [show Int32.ofInt (1) = (nI 1) by decide]) rfl ?_
        refine z_goto (pc := 70) (tgt := 16) dX11_isShifted_70 (by decide) ?_
        exact z_drop (ls' := [some (.inr (some (0, 11, 0))), some (.inr (some (0, 9, o1))), some (.inl x2), some (.inl x3), some (.inl x4), some (.inl x5), some (.inl (x6 + (nI 1))), none]) (by simp [dropL]) H
      · replace H := H.2 c9
        refine z_iconst (pc := 65) (v := (nI 1)) dX11_isShifted_65 (by decide) ?_
        exact z_iret (pc := 66) dX11_isShifted_66 rfl rfl ⟨_, rfl, H⟩
