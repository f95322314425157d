set_option maxRecDepth 20000 in
theorem bX11_land_0 {l : Launch} {E : eE} {d bc bs : Nat} {h : aH} {Q : Int32 → aH → Prop} {x1 : Int32} (S : SH h) (H : (((nI 8) ≤ (hI h 0 9) → Q (-1) h) ∧ (¬ (nI 8) ≤ (hI h 0 9) → (CI l E d 0 0 mX11_isOffset [.inl x1] h (fun v2 h2 => SH h2 ∧ ((¬ v2 = 0 → (SH (stN h2 (0, 4)) ∧ (CV l E d 0 0 mX4_init [.inr (some (0, 4, (hN h2))), .inl x1] (stN h2 (0, 4)) (fun h5 => SH h5 ∧ (vp_in (hI h2 0 9) 8 ∧ SH (stQ h5 1 ((hI h2 0 9)).toNatClampNeg (some (0, 4, (hN h2)))) ∧ Q (hI h5 0 9) (stI (stQ h5 1 ((hI h2 0 9)).toNatClampNeg (some (0, 4, (hN h2)))) 0 9 ((hI h5 0 9) + (nI 1)))))))) ∧ (v2 = 0 → Q (-1) h2))))))) : CI l E (d + 1) (bc + 1) (bs + 3) mX11_land [.inr (some (0, 11, 0)), .inl x1] h Q := by
  refine CI.of (by decide) rfl ?_
  show TI l E mX11_land (d + 1) (bc + 1) (bs + 3) 0 [some (.inr (some (0, 11, 0))), some (.inl x1)] [] h Q
  refine z_aload_n (pc := 0) dX11_land_0 rfl rfl ?_
  refine z_geti (pc := 1) dX11_land_1 fX11_69 rfl ?_
  refine z_bipush (pc := 4) (v := (nI 8)) dX11_land_4 (by decide) ?_
  refine z_icmp_ge (pc := 6) (tgt := 16) dX11_land_6 (by decide) (fun c1 => ?_) (fun c1 => ?_)
  · replace H := H.1 c1
    refine z_iconst (pc := 16) (v := (-1)) dX11_land_16 (by decide) ?_
    exact z_iret (pc := 17) dX11_land_17 rfl rfl ⟨_, rfl, H⟩
  · replace H := H.2 c1
    refine z_iload_n (pc := 9) dX11_land_9 rfl rfl ?_
    refine y_SI (pc := 10) (bc := (bc + 1)) (bs := (bs + 3)) (mc := 0) (ms := 0) (As := [.inl x1]) (rest := []) dX11_land_10 kX11_isOffset lX11_73 rfl rfl (H.use (fun v2 h2 H => ?_))
    have S2 := H.1
    replace H := H.2
    refine z_if_ne (pc := 13) (tgt := 18) dX11_land_13 (by decide) (fun c3 => ?_) (fun c3 => ?_)
    · replace H := H.1 c3
      refine z_aload_n (pc := 18) dX11_land_18 rfl rfl ?_
      refine z_getk (pc := 19) dX11_land_19 fX11_11 rfl (s_0_0 S2) ?_
      refine z_aload_n (pc := 22) dX11_land_22 rfl rfl ?_
      refine z_geti (pc := 23) dX11_land_23 fX11_69 rfl ?_
      refine z_new (pc := 26) (c := 4) (C := RX4) (T := TX4) (N := 3) dX11_land_26 rfl nX11_9 iX4 jX4 ?_
      have S4 := H.1
      replace H := H.2
      refine z_dup (pc := 29) dX11_land_29 ?_
      refine z_iload_n (pc := 30) dX11_land_30 rfl rfl ?_
      refine y_C (pc := 31) (bc := bc) (bs := bs) (mc := 0) (ms := 0) (As := [.inl x1]) (rest := [.inr (some (0, 4, (hN h2))), .inl (hI h2 0 9), .inr (some (12, 8, 1))]) dX11_land_31 kX4_init lX11_77 rfl rfl rfl rfl (H.use (fun h5 H => ?_))
      have S5 := H.1
      replace H := H.2
      have c6 := H.1
      replace H := H.2
      refine z_aast (pc := 34) (r := (RX4, TX4, 3)) dX11_land_34 rfl rfl rfl rfl c6 ?_
      have S7 := H.1
      replace H := H.2
      refine z_aload_n (pc := 35) dX11_land_35 rfl rfl ?_
      refine z_dup (pc := 36) dX11_land_36 ?_
      refine z_geti (pc := 37) dX11_land_37 fX11_69 rfl ?_
      refine z_dup_x1 (pc := 40) dX11_land_40 ?_
      refine z_iconst (pc := 41) (v := (nI 1)) dX11_land_41 (by decide) ?_
      refine z_iadd (pc := 42) dX11_land_42 ?_
      refine z_puti (pc := 43) dX11_land_43 fX11_69 (uX11_9 _) rfl rfl rfl ?_
      exact z_iret (pc := 46) dX11_land_46 rfl rfl ⟨_, rfl, H⟩
    · replace H := H.2 c3
      refine z_iconst (pc := 16) (v := (-1)) dX11_land_16 (by decide) ?_
      exact z_iret (pc := 17) dX11_land_17 rfl rfl ⟨_, rfl, H⟩

set_option maxRecDepth 20000 in
theorem bX11_person_0 {l : Launch} {E : eE} {d bc bs : Nat} {h : aH} {Q : Int32 → aH → Prop} {x1 : Int32} {x2 : Int32} (S : SH h) (H : (CR l E d 0 0 mX11_landAt [.inr (some (0, 11, 0)), .inl x1] h (fun v1 h1 => SH h1 ∧ (((nI 12) ≤ (hI h1 0 10) → Q (-1) h1) ∧ (¬ (nI 12) ≤ (hI h1 0 10) → ((v1 = none → Q (-1) h1) ∧ (∀ q3, v1 = some q3 → ((x2 < 0 → Q (-1) h1) ∧ (¬ x2 < 0 → ((x2 < (nI 128) → (SH (stN h1 (0, 6)) ∧ (∃ p7, v1 = some (0, 4, p7) ∧ (CV l E d 1 48 mX6_init [.inr (some (0, 6, (hN h1))), .inr (some (0, 4, p7)), .inl x2] (stN h1 (0, 6)) (fun h8 => SH h8 ∧ (vp_in (hI h1 0 10) 12 ∧ SH (stQ h8 2 ((hI h1 0 10)).toNatClampNeg (some (0, 6, (hN h1)))) ∧ Q (hI h8 0 10) (stI (stQ h8 2 ((hI h1 0 10)).toNatClampNeg (some (0, 6, (hN h1)))) 0 10 ((hI h8 0 10) + (nI 1))))))))) ∧ (¬ x2 < (nI 128) → Q (-1) h1))))))))))) : CI l E (d + 1) (bc + 2) (bs + 53) mX11_person [.inr (some (0, 11, 0)), .inl x1, .inl x2] h Q := by
  refine CI.of (by decide) rfl ?_
  show TI l E mX11_person (d + 1) (bc + 2) (bs + 53) 0 [some (.inr (some (0, 11, 0))), some (.inl x1), some (.inl x2), none] [] h Q
  refine z_aload_n (pc := 0) dX11_person_0 rfl rfl ?_
  refine z_iload_n (pc := 1) dX11_person_1 rfl rfl ?_
  refine y_VR (pc := 2) (bc := (bc + 2)) (bs := (bs + 53)) (mc := 0) (ms := 0) (As := [.inl x1]) (rest := []) dX11_person_2 kX11_landAt lX11_80 ⟨_, _, rfl⟩ rfl rfl (H.use (fun v1 h1 H => ?_))
  have S1 := H.1
  replace H := H.2
  refine z_astore_n (pc := 5) (ls' := [some (.inr (some (0, 11, 0))), some (.inl x1), some (.inl x2), some (.inr v1)]) dX11_person_5 rfl rfl rfl ?_
  refine z_aload_n (pc := 6) dX11_person_6 rfl rfl ?_
  refine z_geti (pc := 7) dX11_person_7 fX11_84 rfl ?_
  refine z_bipush (pc := 10) (v := (nI 12)) dX11_person_10 (by decide) ?_
  refine z_icmp_ge (pc := 12) (tgt := 30) dX11_person_12 (by decide) (fun c2 => ?_) (fun c2 => ?_)
  · replace H := H.1 c2
    refine z_iconst (pc := 30) (v := (-1)) dX11_person_30 (by decide) ?_
    exact z_iret (pc := 31) dX11_person_31 rfl rfl ⟨_, rfl, H⟩
  · replace H := H.2 c2
    refine z_aload_n (pc := 15) dX11_person_15 rfl rfl ?_
    refine z_ifnull (pc := 16) (tgt := 30) dX11_person_16 (by decide) (fun c3 => ?_) (fun q3 c3 => ?_)
    · replace H := H.1 c3
      refine z_iconst (pc := 30) (v := (-1)) dX11_person_30 (by decide) ?_
      exact z_iret (pc := 31) dX11_person_31 rfl rfl ⟨_, rfl, H⟩
    · replace H := H.2 q3 c3
      refine z_iload_n (pc := 19) dX11_person_19 rfl rfl ?_
      refine z_if_lt (pc := 20) (tgt := 30) dX11_person_20 (by decide) (fun c4 => ?_) (fun c4 => ?_)
      · replace H := H.1 c4
        refine z_iconst (pc := 30) (v := (-1)) dX11_person_30 (by decide) ?_
        exact z_iret (pc := 31) dX11_person_31 rfl rfl ⟨_, rfl, H⟩
      · replace H := H.2 c4
        refine z_iload_n (pc := 23) dX11_person_23 rfl rfl ?_
        refine z_sipush (pc := 24) (v := (nI 128)) dX11_person_24 (by decide) ?_
        refine z_icmp_lt (pc := 27) (tgt := 32) dX11_person_27 (by decide) (fun c5 => ?_) (fun c5 => ?_)
        · replace H := H.1 c5
          refine z_aload_n (pc := 32) dX11_person_32 rfl rfl ?_
          refine z_getk (pc := 33) dX11_person_33 fX11_17 rfl (s_0_1 S1) ?_
          refine z_aload_n (pc := 36) dX11_person_36 rfl rfl ?_
          refine z_geti (pc := 37) dX11_person_37 fX11_84 rfl ?_
          refine z_new (pc := 40) (c := 6) (C := RX6) (T := TX6) (N := 5) dX11_person_40 rfl nX11_15 iX6 jX6 ?_
          have S6 := H.1
          replace H := H.2
          refine z_dup (pc := 43) dX11_person_43 ?_
          refine z_aload_n (pc := 44) dX11_person_44 rfl rfl ?_
          obtain ⟨p7, e7, H⟩ := H
          refine z_cast e7 ?_
          refine z_iload_n (pc := 45) dX11_person_45 rfl rfl ?_
          refine y_C (pc := 46) (bc := bc) (bs := bs) (mc := 1) (ms := 48) (As := [.inr (some (0, 4, p7)), .inl x2]) (rest := [.inr (some (0, 6, (hN h1))), .inl (hI h1 0 10), .inr (some (14, 12, 2))]) dX11_person_46 kX6_init lX11_87 rfl rfl rfl rfl (H.use (fun h8 H => ?_))
          have S8 := H.1
          replace H := H.2
          have c9 := H.1
          replace H := H.2
          refine z_aast (pc := 49) (r := (RX6, TX6, 5)) dX11_person_49 rfl rfl rfl rfl c9 ?_
          have S10 := H.1
          replace H := H.2
          refine z_aload_n (pc := 50) dX11_person_50 rfl rfl ?_
          refine z_dup (pc := 51) dX11_person_51 ?_
          refine z_geti (pc := 52) dX11_person_52 fX11_84 rfl ?_
          refine z_dup_x1 (pc := 55) dX11_person_55 ?_
          refine z_iconst (pc := 56) (v := (nI 1)) dX11_person_56 (by decide) ?_
          refine z_iadd (pc := 57) dX11_person_57 ?_
          refine z_puti (pc := 58) dX11_person_58 fX11_84 (uX11_10 _) rfl rfl rfl ?_
          exact z_iret (pc := 61) dX11_person_61 rfl rfl ⟨_, rfl, H⟩
        · replace H := H.2 c5
          refine z_iconst (pc := 30) (v := (-1)) dX11_person_30 (by decide) ?_
          exact z_iret (pc := 31) dX11_person_31 rfl rfl ⟨_, rfl, H⟩

abbrev LX11_series_17 (l : Launch) (E : eE) (d bc bs : Nat) (x1 : Int32) (x2 : Int32) (x3 : Int32) (r4 : aR) (h : aH) (Q : Int32 → aH → Prop) : Prop := TI l E mX11_series d bc bs 17 [some (.inr (some (0, 11, 0))), some (.inl x1), some (.inl x2), some (.inl x3), some (.inr r4), none, none] [] h Q

abbrev LX11_series_37 (l : Launch) (E : eE) (d bc bs : Nat) (x1 : Int32) (x2 : Int32) (x3 : Int32) (r4 : aR) (x5 : Int32) (h : aH) (Q : Int32 → aH → Prop) : Prop := TI l E mX11_series d bc bs 37 [some (.inr (some (0, 11, 0))), some (.inl x1), some (.inl x2), some (.inl x3), some (.inr r4), some (.inl x5), none] [] h Q

set_option maxRecDepth 20000 in
theorem bX11_series_0 {l : Launch} {E : eE} {d bc bs : Nat} {h : aH} {Q : Int32 → aH → Prop} {x1 : Int32} {x2 : Int32} {x3 : Int32} (S : SH h) (H : (CR l E d 0 0 mX11_seriesAt [.inr (some (0, 11, 0)), .inl x2] h (fun v1 h1 => SH h1 ∧ ((x2 = (-1) → LX11_series_17 l E (d + 1) (bc + 4) (bs + 73) x1 x2 x3 v1 h1 Q) ∧ (¬ x2 = (-1) → ((v1 = none → ((x3 = (-1) → LX11_series_37 l E (d + 1) (bc + 4) (bs + 73) x1 x2 x3 v1 (nI 0) h1 Q) ∧ (¬ x3 = (-1) → (CR l E d 0 0 mX11_personAt [.inr (some (0, 11, 0)), .inl x3] h1 (fun v5 h5 => SH h5 ∧ ((v5 = none → (((nI 4) ≤ (hI h5 0 12) → Q (-1) h5) ∧ (¬ (nI 4) ≤ (hI h5 0 12) → ((x1 < (nI 1) → Q (-1) h5) ∧ (¬ x1 < (nI 1) → (((nI 6) < x1 → Q (-1) h5) ∧ (¬ (nI 6) < x1 → (((nI 0) = 0 → Q (-1) h5) ∧ (¬ (nI 0) = 0 → ((¬ (nI 0) = 0 → (SH (stN h5 (0, 9)) ∧ (CV l E d 3 64 mX9_init [.inr (some (0, 9, (hN h5))), .inl (hI (stN h5 (0, 9)) 0 12), .inl x1, .inr v1, .inl x3] (stN h5 (0, 9)) (fun h13 => SH h13 ∧ (vp_in (hI h5 0 12) 4 ∧ SH (stQ h13 3 ((hI h5 0 12)).toNatClampNeg (some (0, 9, (hN h5)))) ∧ Q (hI h13 0 12) (stI (stQ h13 3 ((hI h5 0 12)).toNatClampNeg (some (0, 9, (hN h5)))) 0 12 ((hI h13 0 12) + (nI 1)))))))) ∧ ((nI 0) = 0 → Q (-1) h5))))))))))) ∧ (∀ q6, v5 = some q6 → LX11_series_37 l E (d + 1) (bc + 4) (bs + 73) x1 x2 x3 v1 (nI 0) h5 Q))))))) ∧ (∀ q3, v1 = some q3 → LX11_series_17 l E (d + 1) (bc + 4) (bs + 73) x1 x2 x3 v1 h1 Q))))))) : CI l E (d + 1) (bc + 4) (bs + 73) mX11_series [.inr (some (0, 11, 0)), .inl x1, .inl x2, .inl x3] h Q := by
  refine CI.of (by decide) rfl ?_
  show TI l E mX11_series (d + 1) (bc + 4) (bs + 73) 0 [some (.inr (some (0, 11, 0))), some (.inl x1), some (.inl x2), some (.inl x3), none, none, none] [] h Q
  refine z_aload_n (pc := 0) dX11_series_0 rfl rfl ?_
  refine z_iload_n (pc := 1) dX11_series_1 rfl rfl ?_
  refine y_VR (pc := 2) (bc := (bc + 4)) (bs := (bs + 73)) (mc := 0) (ms := 0) (As := [.inl x2]) (rest := []) dX11_series_2 kX11_seriesAt lX11_110 ⟨_, _, rfl⟩ rfl rfl (H.use (fun v1 h1 H => ?_))
  have S1 := H.1
  replace H := H.2
  refine z_astore (pc := 5) (ls' := [some (.inr (some (0, 11, 0))), some (.inl x1), some (.inl x2), some (.inl x3), some (.inr v1), none, none]) dX11_series_5 rfl rfl ?_
  refine z_iload_n (pc := 7) dX11_series_7 rfl rfl ?_
  refine z_iconst (pc := 8) (v := (-1)) dX11_series_8 (by decide) ?_
  refine z_icmp_eq (pc := 9) (tgt := 17) dX11_series_9 (by decide) (fun c2 => ?_) (fun c2 => ?_)
  · replace H := H.1 c2
    exact H
  · replace H := H.2 c2
    refine z_aload (pc := 12) dX11_series_12 rfl ?_
    refine z_ifnull (pc := 14) (tgt := 21) dX11_series_14 (by decide) (fun c3 => ?_) (fun q3 c3 => ?_)
    · replace H := H.1 c3
      refine z_iconst (pc := 21) (v := (nI 0)) dX11_series_21 (by decide) ?_
      refine z_istore (pc := 22) (ls' := [some (.inr (some (0, 11, 0))), some (.inl x1), some (.inl x2), some (.inl x3), some (.inr v1), some (.inl (nI 0)), none]) dX11_series_22 rfl rfl ?_
      refine z_iload_n (pc := 24) dX11_series_24 rfl rfl ?_
      refine z_iconst (pc := 25) (v := (-1)) dX11_series_25 (by decide) ?_
      refine z_icmp_eq (pc := 26) (tgt := 37) dX11_series_26 (by decide) (fun c4 => ?_) (fun c4 => ?_)
      · replace H := H.1 c4
        exact H
      · replace H := H.2 c4
        refine z_aload_n (pc := 29) dX11_series_29 rfl rfl ?_
        refine z_iload_n (pc := 30) dX11_series_30 rfl rfl ?_
        refine y_VR (pc := 31) (bc := (bc + 4)) (bs := (bs + 73)) (mc := 0) (ms := 0) (As := [.inl x3]) (rest := []) dX11_series_31 kX11_personAt lX11_90 ⟨_, _, rfl⟩ rfl rfl (H.use (fun v5 h5 H => ?_))
        have S5 := H.1
        replace H := H.2
        refine z_ifnull (pc := 34) (tgt := 41) dX11_series_34 (by decide) (fun c6 => ?_) (fun q6 c6 => ?_)
        · replace H := H.1 c6
          refine z_iconst (pc := 41) (v := (nI 0)) dX11_series_41 (by decide) ?_
          refine z_istore (pc := 42) (ls' := [some (.inr (some (0, 11, 0))), some (.inl x1), some (.inl x2), some (.inl x3), some (.inr v1), some (.inl (nI 0)), some (.inl (nI 0))]) dX11_series_42 rfl rfl ?_
          refine z_aload_n (pc := 44) dX11_series_44 rfl rfl ?_
          refine z_geti (pc := 45) dX11_series_45 fX11_114 rfl ?_
          refine z_iconst (pc := 48) (v := (nI 4)) dX11_series_48 (by decide) ?_
          refine z_icmp_ge (pc := 49) (tgt := 73) dX11_series_49 (by decide) (fun c7 => ?_) (fun c7 => ?_)
          · replace H := H.1 c7
            refine z_iconst (pc := 73) (v := (-1)) dX11_series_73 (by decide) ?_
            exact z_iret (pc := 74) dX11_series_74 rfl rfl ⟨_, rfl, H⟩
          · replace H := H.2 c7
            refine z_iload_n (pc := 52) dX11_series_52 rfl rfl ?_
            refine z_iconst (pc := 53) (v := (nI 1)) dX11_series_53 (by decide) ?_
            refine z_icmp_lt (pc := 54) (tgt := 73) dX11_series_54 (by decide) (fun c8 => ?_) (fun c8 => ?_)
            · replace H := H.1 c8
              refine z_iconst (pc := 73) (v := (-1)) dX11_series_73 (by decide) ?_
              exact z_iret (pc := 74) dX11_series_74 rfl rfl ⟨_, rfl, H⟩
            · replace H := H.2 c8
              refine z_iload_n (pc := 57) dX11_series_57 rfl rfl ?_
              refine z_bipush (pc := 58) (v := (nI 6)) dX11_series_58 (by decide) ?_
              refine z_icmp_gt (pc := 60) (tgt := 73) dX11_series_60 (by decide) (fun c9 => ?_) (fun c9 => ?_)
              · replace H := H.1 c9
                refine z_iconst (pc := 73) (v := (-1)) dX11_series_73 (by decide) ?_
                exact z_iret (pc := 74) dX11_series_74 rfl rfl ⟨_, rfl, H⟩
              · replace H := H.2 c9
                refine z_iload (pc := 63) dX11_series_63 rfl ?_
                refine z_if_eq (pc := 65) (tgt := 73) dX11_series_65 (by decide) (fun c10 => ?_) (fun c10 => ?_)
                · replace H := H.1 c10
                  refine z_iconst (pc := 73) (v := (-1)) dX11_series_73 (by decide) ?_
                  exact z_iret (pc := 74) dX11_series_74 rfl rfl ⟨_, rfl, H⟩
                · replace H := H.2 c10
                  refine z_iload (pc := 68) dX11_series_68 rfl ?_
                  refine z_if_ne (pc := 70) (tgt := 75) dX11_series_70 (by decide) (fun c11 => ?_) (fun c11 => ?_)
                  · replace H := H.1 c11
                    refine z_aload_n (pc := 75) dX11_series_75 rfl rfl ?_
                    refine z_getk (pc := 76) dX11_series_76 fX11_23 rfl (s_0_2 S5) ?_
                    refine z_aload_n (pc := 79) dX11_series_79 rfl rfl ?_
                    refine z_geti (pc := 80) dX11_series_80 fX11_114 rfl ?_
                    refine z_new (pc := 83) (c := 9) (C := RX9) (T := TX9) (N := 9) dX11_series_83 rfl nX11_21 iX9 jX9 ?_
                    have S12 := H.1
                    replace H := H.2
                    refine z_dup (pc := 86) dX11_series_86 ?_
                    refine z_aload_n (pc := 87) dX11_series_87 rfl rfl ?_
                    refine z_geti (pc := 88) dX11_series_88 fX11_114 rfl ?_
                    refine z_iload_n (pc := 91) dX11_series_91 rfl rfl ?_
                    refine z_aload (pc := 92) dX11_series_92 rfl ?_
                    refine z_iload_n (pc := 94) dX11_series_94 rfl rfl ?_
                    refine y_C (pc := 95) (bc := bc) (bs := bs) (mc := 3) (ms := 64) (As := [.inl (hI (stN h5 (0, 9)) 0 12), .inl x1, .inr v1, .inl x3]) (rest := [.inr (some (0, 9, (hN h5))), .inl (hI h5 0 12), .inr (some (17, 4, 3))]) dX11_series_95 kX9_init lX11_117 rfl rfl rfl rfl (H.use (fun h13 H => ?_))
                    have S13 := H.1
                    replace H := H.2
                    have c14 := H.1
                    replace H := H.2
                    refine z_aast (pc := 98) (r := (RX9, TX9, 9)) dX11_series_98 rfl rfl rfl rfl c14 ?_
                    have S15 := H.1
                    replace H := H.2
                    refine z_aload_n (pc := 99) dX11_series_99 rfl rfl ?_
                    refine z_dup (pc := 100) dX11_series_100 ?_
                    refine z_geti (pc := 101) dX11_series_101 fX11_114 rfl ?_
                    refine z_dup_x1 (pc := 104) dX11_series_104 ?_
                    refine z_iconst (pc := 105) (v := (nI 1)) dX11_series_105 (by decide) ?_
                    refine z_iadd (pc := 106) dX11_series_106 ?_
                    refine z_puti (pc := 107) dX11_series_107 fX11_114 (uX11_12 _) rfl rfl rfl ?_
                    exact z_iret (pc := 110) dX11_series_110 rfl rfl ⟨_, rfl, H⟩
                  · replace H := H.2 c11
                    refine z_iconst (pc := 73) (v := (-1)) dX11_series_73 (by decide) ?_
                    exact z_iret (pc := 74) dX11_series_74 rfl rfl ⟨_, rfl, H⟩
        · replace H := H.2 q6 c6
          exact H
    · replace H := H.2 q3 c3
      exact H

set_option maxRecDepth 20000 in
theorem bX11_series_17 {l : Launch} {E : eE} {d bc bs : Nat} {h : aH} {Q : Int32 → aH → Prop} {x1 : Int32} {x2 : Int32} {x3 : Int32} {r4 : aR} (S : SH h) (H : ((x3 = (-1) → LX11_series_37 l E (d + 1) (bc + 4) (bs + 73) x1 x2 x3 r4 (nI 1) h Q) ∧ (¬ x3 = (-1) → (CR l E d 0 0 mX11_personAt [.inr (some (0, 11, 0)), .inl x3] h (fun v2 h2 => SH h2 ∧ ((v2 = none → (((nI 4) ≤ (hI h2 0 12) → Q (-1) h2) ∧ (¬ (nI 4) ≤ (hI h2 0 12) → ((x1 < (nI 1) → Q (-1) h2) ∧ (¬ x1 < (nI 1) → (((nI 6) < x1 → Q (-1) h2) ∧ (¬ (nI 6) < x1 → (((nI 1) = 0 → Q (-1) h2) ∧ (¬ (nI 1) = 0 → ((¬ (nI 0) = 0 → (SH (stN h2 (0, 9)) ∧ (CV l E d 3 64 mX9_init [.inr (some (0, 9, (hN h2))), .inl (hI (stN h2 (0, 9)) 0 12), .inl x1, .inr r4, .inl x3] (stN h2 (0, 9)) (fun h10 => SH h10 ∧ (vp_in (hI h2 0 12) 4 ∧ SH (stQ h10 3 ((hI h2 0 12)).toNatClampNeg (some (0, 9, (hN h2)))) ∧ Q (hI h10 0 12) (stI (stQ h10 3 ((hI h2 0 12)).toNatClampNeg (some (0, 9, (hN h2)))) 0 12 ((hI h10 0 12) + (nI 1)))))))) ∧ ((nI 0) = 0 → Q (-1) h2))))))))))) ∧ (∀ q3, v2 = some q3 → LX11_series_37 l E (d + 1) (bc + 4) (bs + 73) x1 x2 x3 r4 (nI 1) h2 Q))))))) : LX11_series_17 l E (d + 1) (bc + 4) (bs + 73) x1 x2 x3 r4 h Q := by
  refine z_iconst (pc := 17) (v := (nI 1)) dX11_series_17 (by decide) ?_
  refine z_goto (pc := 18) (tgt := 22) dX11_series_18 (by decide) ?_
  refine z_istore (pc := 22) (ls' := [some (.inr (some (0, 11, 0))), some (.inl x1), some (.inl x2), some (.inl x3), some (.inr r4), some (.inl (nI 1)), none]) dX11_series_22 rfl rfl ?_
  refine z_iload_n (pc := 24) dX11_series_24 rfl rfl ?_
  refine z_iconst (pc := 25) (v := (-1)) dX11_series_25 (by decide) ?_
  refine z_icmp_eq (pc := 26) (tgt := 37) dX11_series_26 (by decide) (fun c1 => ?_) (fun c1 => ?_)
  · replace H := H.1 c1
    exact H
  · replace H := H.2 c1
    refine z_aload_n (pc := 29) dX11_series_29 rfl rfl ?_
    refine z_iload_n (pc := 30) dX11_series_30 rfl rfl ?_
    refine y_VR (pc := 31) (bc := (bc + 4)) (bs := (bs + 73)) (mc := 0) (ms := 0) (As := [.inl x3]) (rest := []) dX11_series_31 kX11_personAt lX11_90 ⟨_, _, rfl⟩ rfl rfl (H.use (fun v2 h2 H => ?_))
    have S2 := H.1
    replace H := H.2
    refine z_ifnull (pc := 34) (tgt := 41) dX11_series_34 (by decide) (fun c3 => ?_) (fun q3 c3 => ?_)
    · replace H := H.1 c3
      refine z_iconst (pc := 41) (v := (nI 0)) dX11_series_41 (by decide) ?_
      refine z_istore (pc := 42) (ls' := [some (.inr (some (0, 11, 0))), some (.inl x1), some (.inl x2), some (.inl x3), some (.inr r4), some (.inl (nI 1)), some (.inl (nI 0))]) dX11_series_42 rfl rfl ?_
      refine z_aload_n (pc := 44) dX11_series_44 rfl rfl ?_
      refine z_geti (pc := 45) dX11_series_45 fX11_114 rfl ?_
      refine z_iconst (pc := 48) (v := (nI 4)) dX11_series_48 (by decide) ?_
      refine z_icmp_ge (pc := 49) (tgt := 73) dX11_series_49 (by decide) (fun c4 => ?_) (fun c4 => ?_)
      · replace H := H.1 c4
        refine z_iconst (pc := 73) (v := (-1)) dX11_series_73 (by decide) ?_
        exact z_iret (pc := 74) dX11_series_74 rfl rfl ⟨_, rfl, H⟩
      · replace H := H.2 c4
        refine z_iload_n (pc := 52) dX11_series_52 rfl rfl ?_
        refine z_iconst (pc := 53) (v := (nI 1)) dX11_series_53 (by decide) ?_
        refine z_icmp_lt (pc := 54) (tgt := 73) dX11_series_54 (by decide) (fun c5 => ?_) (fun c5 => ?_)
        · replace H := H.1 c5
          refine z_iconst (pc := 73) (v := (-1)) dX11_series_73 (by decide) ?_
          exact z_iret (pc := 74) dX11_series_74 rfl rfl ⟨_, rfl, H⟩
        · replace H := H.2 c5
          refine z_iload_n (pc := 57) dX11_series_57 rfl rfl ?_
          refine z_bipush (pc := 58) (v := (nI 6)) dX11_series_58 (by decide) ?_
          refine z_icmp_gt (pc := 60) (tgt := 73) dX11_series_60 (by decide) (fun c6 => ?_) (fun c6 => ?_)
          · replace H := H.1 c6
            refine z_iconst (pc := 73) (v := (-1)) dX11_series_73 (by decide) ?_
            exact z_iret (pc := 74) dX11_series_74 rfl rfl ⟨_, rfl, H⟩
          · replace H := H.2 c6
            refine z_iload (pc := 63) dX11_series_63 rfl ?_
            refine z_if_eq (pc := 65) (tgt := 73) dX11_series_65 (by decide) (fun c7 => ?_) (fun c7 => ?_)
            · replace H := H.1 c7
              refine z_iconst (pc := 73) (v := (-1)) dX11_series_73 (by decide) ?_
              exact z_iret (pc := 74) dX11_series_74 rfl rfl ⟨_, rfl, H⟩
            · replace H := H.2 c7
              refine z_iload (pc := 68) dX11_series_68 rfl ?_
              refine z_if_ne (pc := 70) (tgt := 75) dX11_series_70 (by decide) (fun c8 => ?_) (fun c8 => ?_)
              · replace H := H.1 c8
                refine z_aload_n (pc := 75) dX11_series_75 rfl rfl ?_
                refine z_getk (pc := 76) dX11_series_76 fX11_23 rfl (s_0_2 S2) ?_
                refine z_aload_n (pc := 79) dX11_series_79 rfl rfl ?_
                refine z_geti (pc := 80) dX11_series_80 fX11_114 rfl ?_
                refine z_new (pc := 83) (c := 9) (C := RX9) (T := TX9) (N := 9) dX11_series_83 rfl nX11_21 iX9 jX9 ?_
                have S9 := H.1
                replace H := H.2
                refine z_dup (pc := 86) dX11_series_86 ?_
                refine z_aload_n (pc := 87) dX11_series_87 rfl rfl ?_
                refine z_geti (pc := 88) dX11_series_88 fX11_114 rfl ?_
                refine z_iload_n (pc := 91) dX11_series_91 rfl rfl ?_
                refine z_aload (pc := 92) dX11_series_92 rfl ?_
                refine z_iload_n (pc := 94) dX11_series_94 rfl rfl ?_
                refine y_C (pc := 95) (bc := bc) (bs := bs) (mc := 3) (ms := 64) (As := [.inl (hI (stN h2 (0, 9)) 0 12), .inl x1, .inr r4, .inl x3]) (rest := [.inr (some (0, 9, (hN h2))), .inl (hI h2 0 12), .inr (some (17, 4, 3))]) dX11_series_95 kX9_init lX11_117 rfl rfl rfl rfl (H.use (fun h10 H => ?_))
                have S10 := H.1
                replace H := H.2
                have c11 := H.1
                replace H := H.2
                refine z_aast (pc := 98) (r := (RX9, TX9, 9)) dX11_series_98 rfl rfl rfl rfl c11 ?_
                have S12 := H.1
                replace H := H.2
                refine z_aload_n (pc := 99) dX11_series_99 rfl rfl ?_
                refine z_dup (pc := 100) dX11_series_100 ?_
                refine z_geti (pc := 101) dX11_series_101 fX11_114 rfl ?_
                refine z_dup_x1 (pc := 104) dX11_series_104 ?_
                refine z_iconst (pc := 105) (v := (nI 1)) dX11_series_105 (by decide) ?_
                refine z_iadd (pc := 106) dX11_series_106 ?_
                refine z_puti (pc := 107) dX11_series_107 fX11_114 (uX11_12 _) rfl rfl rfl ?_
                exact z_iret (pc := 110) dX11_series_110 rfl rfl ⟨_, rfl, H⟩
              · replace H := H.2 c8
                refine z_iconst (pc := 73) (v := (-1)) dX11_series_73 (by decide) ?_
                exact z_iret (pc := 74) dX11_series_74 rfl rfl ⟨_, rfl, H⟩
    · replace H := H.2 q3 c3
      exact H

set_option maxRecDepth 20000 in
theorem bX11_series_37 {l : Launch} {E : eE} {d bc bs : Nat} {h : aH} {Q : Int32 → aH → Prop} {x1 : Int32} {x2 : Int32} {x3 : Int32} {r4 : aR} {x5 : Int32} (S : SH h) (H : (((nI 4) ≤ (hI h 0 12) → Q (-1) h) ∧ (¬ (nI 4) ≤ (hI h 0 12) → ((x1 < (nI 1) → Q (-1) h) ∧ (¬ x1 < (nI 1) → (((nI 6) < x1 → Q (-1) h) ∧ (¬ (nI 6) < x1 → ((x5 = 0 → Q (-1) h) ∧ (¬ x5 = 0 → ((¬ (nI 1) = 0 → (SH (stN h (0, 9)) ∧ (CV l E d 3 64 mX9_init [.inr (some (0, 9, (hN h))), .inl (hI (stN h (0, 9)) 0 12), .inl x1, .inr r4, .inl x3] (stN h (0, 9)) (fun h7 => SH h7 ∧ (vp_in (hI h 0 12) 4 ∧ SH (stQ h7 3 ((hI h 0 12)).toNatClampNeg (some (0, 9, (hN h)))) ∧ Q (hI h7 0 12) (stI (stQ h7 3 ((hI h 0 12)).toNatClampNeg (some (0, 9, (hN h)))) 0 12 ((hI h7 0 12) + (nI 1)))))))) ∧ ((nI 1) = 0 → Q (-1) h))))))))))) : LX11_series_37 l E (d + 1) (bc + 4) (bs + 73) x1 x2 x3 r4 x5 h Q := by
  refine z_iconst (pc := 37) (v := (nI 1)) dX11_series_37 (by decide) ?_
  refine z_goto (pc := 38) (tgt := 42) dX11_series_38 (by decide) ?_
  refine z_istore (pc := 42) (ls' := [some (.inr (some (0, 11, 0))), some (.inl x1), some (.inl x2), some (.inl x3), some (.inr r4), some (.inl x5), some (.inl (nI 1))]) dX11_series_42 rfl rfl ?_
  refine z_aload_n (pc := 44) dX11_series_44 rfl rfl ?_
  refine z_geti (pc := 45) dX11_series_45 fX11_114 rfl ?_
  refine z_iconst (pc := 48) (v := (nI 4)) dX11_series_48 (by decide) ?_
  refine z_icmp_ge (pc := 49) (tgt := 73) dX11_series_49 (by decide) (fun c1 => ?_) (fun c1 => ?_)
  · replace H := H.1 c1
    refine z_iconst (pc := 73) (v := (-1)) dX11_series_73 (by decide) ?_
    exact z_iret (pc := 74) dX11_series_74 rfl rfl ⟨_, rfl, H⟩
  · replace H := H.2 c1
    refine z_iload_n (pc := 52) dX11_series_52 rfl rfl ?_
    refine z_iconst (pc := 53) (v := (nI 1)) dX11_series_53 (by decide) ?_
    refine z_icmp_lt (pc := 54) (tgt := 73) dX11_series_54 (by decide) (fun c2 => ?_) (fun c2 => ?_)
    · replace H := H.1 c2
      refine z_iconst (pc := 73) (v := (-1)) dX11_series_73 (by decide) ?_
      exact z_iret (pc := 74) dX11_series_74 rfl rfl ⟨_, rfl, H⟩
    · replace H := H.2 c2
      refine z_iload_n (pc := 57) dX11_series_57 rfl rfl ?_
      refine z_bipush (pc := 58) (v := (nI 6)) dX11_series_58 (by decide) ?_
      refine z_icmp_gt (pc := 60) (tgt := 73) dX11_series_60 (by decide) (fun c3 => ?_) (fun c3 => ?_)
      · replace H := H.1 c3
        refine z_iconst (pc := 73) (v := (-1)) dX11_series_73 (by decide) ?_
        exact z_iret (pc := 74) dX11_series_74 rfl rfl ⟨_, rfl, H⟩
      · replace H := H.2 c3
        refine z_iload (pc := 63) dX11_series_63 rfl ?_
        refine z_if_eq (pc := 65) (tgt := 73) dX11_series_65 (by decide) (fun c4 => ?_) (fun c4 => ?_)
        · replace H := H.1 c4
          refine z_iconst (pc := 73) (v := (-1)) dX11_series_73 (by decide) ?_
          exact z_iret (pc := 74) dX11_series_74 rfl rfl ⟨_, rfl, H⟩
        · replace H := H.2 c4
          refine z_iload (pc := 68) dX11_series_68 rfl ?_
          refine z_if_ne (pc := 70) (tgt := 75) dX11_series_70 (by decide) (fun c5 => ?_) (fun c5 => ?_)
          · replace H := H.1 c5
            refine z_aload_n (pc := 75) dX11_series_75 rfl rfl ?_
            refine z_getk (pc := 76) dX11_series_76 fX11_23 rfl (s_0_2 S) ?_
            refine z_aload_n (pc := 79) dX11_series_79 rfl rfl ?_
            refine z_geti (pc := 80) dX11_series_80 fX11_114 rfl ?_
            refine z_new (pc := 83) (c := 9) (C := RX9) (T := TX9) (N := 9) dX11_series_83 rfl nX11_21 iX9 jX9 ?_
            have S6 := H.1
            replace H := H.2
            refine z_dup (pc := 86) dX11_series_86 ?_
            refine z_aload_n (pc := 87) dX11_series_87 rfl rfl ?_
            refine z_geti (pc := 88) dX11_series_88 fX11_114 rfl ?_
            refine z_iload_n (pc := 91) dX11_series_91 rfl rfl ?_
            refine z_aload (pc := 92) dX11_series_92 rfl ?_
            refine z_iload_n (pc := 94) dX11_series_94 rfl rfl ?_
            refine y_C (pc := 95) (bc := bc) (bs := bs) (mc := 3) (ms := 64) (As := [.inl (hI (stN h (0, 9)) 0 12), .inl x1, .inr r4, .inl x3]) (rest := [.inr (some (0, 9, (hN h))), .inl (hI h 0 12), .inr (some (17, 4, 3))]) dX11_series_95 kX9_init lX11_117 rfl rfl rfl rfl (H.use (fun h7 H => ?_))
            have S7 := H.1
            replace H := H.2
            have c8 := H.1
            replace H := H.2
            refine z_aast (pc := 98) (r := (RX9, TX9, 9)) dX11_series_98 rfl rfl rfl rfl c8 ?_
            have S9 := H.1
            replace H := H.2
            refine z_aload_n (pc := 99) dX11_series_99 rfl rfl ?_
            refine z_dup (pc := 100) dX11_series_100 ?_
            refine z_geti (pc := 101) dX11_series_101 fX11_114 rfl ?_
            refine z_dup_x1 (pc := 104) dX11_series_104 ?_
            refine z_iconst (pc := 105) (v := (nI 1)) dX11_series_105 (by decide) ?_
            refine z_iadd (pc := 106) dX11_series_106 ?_
            refine z_puti (pc := 107) dX11_series_107 fX11_114 (uX11_12 _) rfl rfl rfl ?_
            exact z_iret (pc := 110) dX11_series_110 rfl rfl ⟨_, rfl, H⟩
          · replace H := H.2 c5
            refine z_iconst (pc := 73) (v := (-1)) dX11_series_73 (by decide) ?_
            exact z_iret (pc := 74) dX11_series_74 rfl rfl ⟨_, rfl, H⟩

set_option maxRecDepth 20000 in
theorem bX11_change_0 {l : Launch} {E : eE} {d bc bs : Nat} {h : aH} {Q : Int32 → aH → Prop} {x1 : Int32} {x2 : Int32} {x3 : Int32} (S : SH h) (H : (CR l E d 0 0 mX11_landAt [.inr (some (0, 11, 0)), .inl x1] h (fun v1 h1 => SH h1 ∧ (((nI 400) ≤ (hI h1 0 11) → Q (-1) h1) ∧ (¬ (nI 400) ≤ (hI h1 0 11) → ((v1 = none → Q (-1) h1) ∧ (∀ q3, v1 = some q3 → (CI l E d 0 0 mX11_isSlot [.inl x2] h1 (fun v4 h4 => SH h4 ∧ ((v4 = 0 → Q (-1) h4) ∧ (¬ v4 = 0 → (CI l E d 0 0 mX11_isOffset [.inl x3] h4 (fun v6 h6 => SH h6 ∧ ((¬ v6 = 0 → (∃ p8, v1 = some (0, 4, p8) ∧ (SH (stN h6 (0, 3)) ∧ (CV l E d 0 0 mX3_init [.inr (some (0, 3, (hN h6))), .inl (hI (stN h6 (0, 3)) 0 11), .inl x2, .inl x3, .inl (nI 0), .inr ((hR (stN h6 (0, 3)) p8 1))] (stN h6 (0, 3)) (fun h10 => SH h10 ∧ (SH (stR h10 p8 1 (some (0, 3, (hN h6)))) ∧ Q (hI h10 0 11) (stI (stR h10 p8 1 (some (0, 3, (hN h6)))) 0 11 ((hI h10 0 11) + (nI 1))))))))) ∧ (v6 = 0 → Q (-1) h6))))))))))))))) : CI l E (d + 1) (bc + 1) (bs + 5) mX11_change [.inr (some (0, 11, 0)), .inl x1, .inl x2, .inl x3] h Q := by
  refine CI.of (by decide) rfl ?_
  show TI l E mX11_change (d + 1) (bc + 1) (bs + 5) 0 [some (.inr (some (0, 11, 0))), some (.inl x1), some (.inl x2), some (.inl x3), none] [] h Q
  refine z_aload_n (pc := 0) dX11_change_0 rfl rfl ?_
  refine z_iload_n (pc := 1) dX11_change_1 rfl rfl ?_
  refine y_VR (pc := 2) (bc := (bc + 1)) (bs := (bs + 5)) (mc := 0) (ms := 0) (As := [.inl x1]) (rest := []) dX11_change_2 kX11_landAt lX11_80 ⟨_, _, rfl⟩ rfl rfl (H.use (fun v1 h1 H => ?_))
  have S1 := H.1
  replace H := H.2
  refine z_astore (pc := 5) (ls' := [some (.inr (some (0, 11, 0))), some (.inl x1), some (.inl x2), some (.inl x3), some (.inr v1)]) dX11_change_5 rfl rfl ?_
  refine z_aload_n (pc := 7) dX11_change_7 rfl rfl ?_
  refine z_geti (pc := 8) dX11_change_8 fX11_131 rfl ?_
  refine z_sipush (pc := 11) (v := (nI 400)) dX11_change_11 (by decide) ?_
  refine z_icmp_ge (pc := 14) (tgt := 36) dX11_change_14 (by decide) (fun c2 => ?_) (fun c2 => ?_)
  · replace H := H.1 c2
    refine z_iconst (pc := 36) (v := (-1)) dX11_change_36 (by decide) ?_
    exact z_iret (pc := 37) dX11_change_37 rfl rfl ⟨_, rfl, H⟩
  · replace H := H.2 c2
    refine z_aload (pc := 17) dX11_change_17 rfl ?_
    refine z_ifnull (pc := 19) (tgt := 36) dX11_change_19 (by decide) (fun c3 => ?_) (fun q3 c3 => ?_)
    · replace H := H.1 c3
      refine z_iconst (pc := 36) (v := (-1)) dX11_change_36 (by decide) ?_
      exact z_iret (pc := 37) dX11_change_37 rfl rfl ⟨_, rfl, H⟩
    · replace H := H.2 q3 c3
      refine z_iload_n (pc := 22) dX11_change_22 rfl rfl ?_
      refine y_SI (pc := 23) (bc := (bc + 1)) (bs := (bs + 5)) (mc := 0) (ms := 0) (As := [.inl x2]) (rest := []) dX11_change_23 kX11_isSlot lX11_138 rfl rfl (H.use (fun v4 h4 H => ?_))
      have S4 := H.1
      replace H := H.2
      refine z_if_eq (pc := 26) (tgt := 36) dX11_change_26 (by decide) (fun c5 => ?_) (fun c5 => ?_)
      · replace H := H.1 c5
        refine z_iconst (pc := 36) (v := (-1)) dX11_change_36 (by decide) ?_
        exact z_iret (pc := 37) dX11_change_37 rfl rfl ⟨_, rfl, H⟩
      · replace H := H.2 c5
        refine z_iload_n (pc := 29) dX11_change_29 rfl rfl ?_
        refine y_SI (pc := 30) (bc := (bc + 1)) (bs := (bs + 5)) (mc := 0) (ms := 0) (As := [.inl x3]) (rest := []) dX11_change_30 kX11_isOffset lX11_73 rfl rfl (H.use (fun v6 h6 H => ?_))
        have S6 := H.1
        replace H := H.2
        refine z_if_ne (pc := 33) (tgt := 38) dX11_change_33 (by decide) (fun c7 => ?_) (fun c7 => ?_)
        · replace H := H.1 c7
          refine z_aload (pc := 38) dX11_change_38 rfl ?_
          obtain ⟨p8, e8, H⟩ := H
          refine z_cast e8 ?_
          refine z_new (pc := 40) (c := 3) (C := RX3) (T := TX3) (N := 5) dX11_change_40 rfl nX11_141 iX3 jX3 ?_
          have S9 := H.1
          replace H := H.2
          refine z_dup (pc := 43) dX11_change_43 ?_
          refine z_aload_n (pc := 44) dX11_change_44 rfl rfl ?_
          refine z_geti (pc := 45) dX11_change_45 fX11_131 rfl ?_
          refine z_iload_n (pc := 48) dX11_change_48 rfl rfl ?_
          refine z_iload_n (pc := 49) dX11_change_49 rfl rfl ?_
          refine z_iconst (pc := 50) (v := (nI 0)) dX11_change_50 (by decide) ?_
          refine z_aload (pc := 51) dX11_change_51 rfl ?_
          refine z_cast e8 ?_
          refine z_getr (pc := 53) dX11_change_53 fX11_143 rfl ?_
          refine y_C (pc := 56) (bc := bc) (bs := bs) (mc := 0) (ms := 0) (As := [.inl (hI (stN h6 (0, 3)) 0 11), .inl x2, .inl x3, .inl (nI 0), .inr ((hR (stN h6 (0, 3)) p8 1))]) (rest := [.inr (some (0, 3, (hN h6))), .inr (some (0, 4, p8))]) dX11_change_56 kX3_init lX11_147 rfl rfl rfl rfl (H.use (fun h10 H => ?_))
          have S10 := H.1
          replace H := H.2
          refine z_putr (pc := 59) dX11_change_59 fX11_143 (uX4_1 _) rfl (fun v => by cases v <;> exact ⟨rfl, rfl⟩) ?_
          have S11 := H.1
          replace H := H.2
          refine z_aload_n (pc := 62) dX11_change_62 rfl rfl ?_
          refine z_dup (pc := 63) dX11_change_63 ?_
          refine z_geti (pc := 64) dX11_change_64 fX11_131 rfl ?_
          refine z_dup_x1 (pc := 67) dX11_change_67 ?_
          refine z_iconst (pc := 68) (v := (nI 1)) dX11_change_68 (by decide) ?_
          refine z_iadd (pc := 69) dX11_change_69 ?_
          refine z_puti (pc := 70) dX11_change_70 fX11_131 (uX11_11 _) rfl rfl rfl ?_
          exact z_iret (pc := 73) dX11_change_73 rfl rfl ⟨_, rfl, H⟩
        · replace H := H.2 c7
          refine z_iconst (pc := 36) (v := (-1)) dX11_change_36 (by decide) ?_
          exact z_iret (pc := 37) dX11_change_37 rfl rfl ⟨_, rfl, H⟩

set_option maxRecDepth 20000 in
theorem bX11_feast_0 {l : Launch} {E : eE} {d bc bs : Nat} {h : aH} {Q : Int32 → aH → Prop} {x1 : Int32} {x2 : Int32} (S : SH h) (H : (CR l E d 0 0 mX11_landAt [.inr (some (0, 11, 0)), .inl x1] h (fun v1 h1 => SH h1 ∧ (((nI 400) ≤ (hI h1 0 11) → Q (-1) h1) ∧ (¬ (nI 400) ≤ (hI h1 0 11) → ((v1 = none → Q (-1) h1) ∧ (∀ q3, v1 = some q3 → ((x2 < 0 → Q (-1) h1) ∧ (¬ x2 < 0 → ((x2 < (nI 364) → (∃ p6, v1 = some (0, 4, p6) ∧ (SH (stN h1 (0, 3)) ∧ (CV l E d 0 0 mX3_init [.inr (some (0, 3, (hN h1))), .inl (hI (stN h1 (0, 3)) 0 11), .inl x2, .inl x2, .inl (nI 0), .inr ((hR (stN h1 (0, 3)) p6 2))] (stN h1 (0, 3)) (fun h8 => SH h8 ∧ (SH (stR h8 p6 2 (some (0, 3, (hN h1)))) ∧ Q (hI h8 0 11) (stI (stR h8 p6 2 (some (0, 3, (hN h1)))) 0 11 ((hI h8 0 11) + (nI 1))))))))) ∧ (¬ x2 < (nI 364) → Q (-1) h1))))))))))) : CI l E (d + 1) (bc + 1) (bs + 5) mX11_feast [.inr (some (0, 11, 0)), .inl x1, .inl x2] h Q := by
  refine CI.of (by decide) rfl ?_
  show TI l E mX11_feast (d + 1) (bc + 1) (bs + 5) 0 [some (.inr (some (0, 11, 0))), some (.inl x1), some (.inl x2), none] [] h Q
  refine z_aload_n (pc := 0) dX11_feast_0 rfl rfl ?_
  refine z_iload_n (pc := 1) dX11_feast_1 rfl rfl ?_
  refine y_VR (pc := 2) (bc := (bc + 1)) (bs := (bs + 5)) (mc := 0) (ms := 0) (As := [.inl x1]) (rest := []) dX11_feast_2 kX11_landAt lX11_80 ⟨_, _, rfl⟩ rfl rfl (H.use (fun v1 h1 H => ?_))
  have S1 := H.1
  replace H := H.2
  refine z_astore_n (pc := 5) (ls' := [some (.inr (some (0, 11, 0))), some (.inl x1), some (.inl x2), some (.inr v1)]) dX11_feast_5 rfl rfl rfl ?_
  refine z_aload_n (pc := 6) dX11_feast_6 rfl rfl ?_
  refine z_geti (pc := 7) dX11_feast_7 fX11_131 rfl ?_
  refine z_sipush (pc := 10) (v := (nI 400)) dX11_feast_10 (by decide) ?_
  refine z_icmp_ge (pc := 13) (tgt := 31) dX11_feast_13 (by decide) (fun c2 => ?_) (fun c2 => ?_)
  · replace H := H.1 c2
    refine z_iconst (pc := 31) (v := (-1)) dX11_feast_31 (by decide) ?_
    exact z_iret (pc := 32) dX11_feast_32 rfl rfl ⟨_, rfl, H⟩
  · replace H := H.2 c2
    refine z_aload_n (pc := 16) dX11_feast_16 rfl rfl ?_
    refine z_ifnull (pc := 17) (tgt := 31) dX11_feast_17 (by decide) (fun c3 => ?_) (fun q3 c3 => ?_)
    · replace H := H.1 c3
      refine z_iconst (pc := 31) (v := (-1)) dX11_feast_31 (by decide) ?_
      exact z_iret (pc := 32) dX11_feast_32 rfl rfl ⟨_, rfl, H⟩
    · replace H := H.2 q3 c3
      refine z_iload_n (pc := 20) dX11_feast_20 rfl rfl ?_
      refine z_if_lt (pc := 21) (tgt := 31) dX11_feast_21 (by decide) (fun c4 => ?_) (fun c4 => ?_)
      · replace H := H.1 c4
        refine z_iconst (pc := 31) (v := (-1)) dX11_feast_31 (by decide) ?_
        exact z_iret (pc := 32) dX11_feast_32 rfl rfl ⟨_, rfl, H⟩
      · replace H := H.2 c4
        refine z_iload_n (pc := 24) dX11_feast_24 rfl rfl ?_
        refine z_sipush (pc := 25) (v := (nI 364)) dX11_feast_25 (by decide) ?_
        refine z_icmp_lt (pc := 28) (tgt := 33) dX11_feast_28 (by decide) (fun c5 => ?_) (fun c5 => ?_)
        · replace H := H.1 c5
          refine z_aload_n (pc := 33) dX11_feast_33 rfl rfl ?_
          obtain ⟨p6, e6, H⟩ := H
          refine z_cast e6 ?_
          refine z_new (pc := 34) (c := 3) (C := RX3) (T := TX3) (N := 5) dX11_feast_34 rfl nX11_141 iX3 jX3 ?_
          have S7 := H.1
          replace H := H.2
          refine z_dup (pc := 37) dX11_feast_37 ?_
          refine z_aload_n (pc := 38) dX11_feast_38 rfl rfl ?_
          refine z_geti (pc := 39) dX11_feast_39 fX11_131 rfl ?_
          refine z_iload_n (pc := 42) dX11_feast_42 rfl rfl ?_
          refine z_iload_n (pc := 43) dX11_feast_43 rfl rfl ?_
          refine z_iconst (pc := 44) (v := (nI 0)) dX11_feast_44 (by decide) ?_
          refine z_aload_n (pc := 45) dX11_feast_45 rfl rfl ?_
          refine z_cast e6 ?_
          refine z_getr (pc := 46) dX11_feast_46 fX11_150 rfl ?_
          refine y_C (pc := 49) (bc := bc) (bs := bs) (mc := 0) (ms := 0) (As := [.inl (hI (stN h1 (0, 3)) 0 11), .inl x2, .inl x2, .inl (nI 0), .inr ((hR (stN h1 (0, 3)) p6 2))]) (rest := [.inr (some (0, 3, (hN h1))), .inr (some (0, 4, p6))]) dX11_feast_49 kX3_init lX11_147 rfl rfl rfl rfl (H.use (fun h8 H => ?_))
          have S8 := H.1
          replace H := H.2
          refine z_putr (pc := 52) dX11_feast_52 fX11_150 (uX4_2 _) rfl (fun v => by cases v <;> exact ⟨rfl, rfl⟩) ?_
          have S9 := H.1
          replace H := H.2
          refine z_aload_n (pc := 55) dX11_feast_55 rfl rfl ?_
          refine z_dup (pc := 56) dX11_feast_56 ?_
          refine z_geti (pc := 57) dX11_feast_57 fX11_131 rfl ?_
          refine z_dup_x1 (pc := 60) dX11_feast_60 ?_
          refine z_iconst (pc := 61) (v := (nI 1)) dX11_feast_61 (by decide) ?_
          refine z_iadd (pc := 62) dX11_feast_62 ?_
          refine z_puti (pc := 63) dX11_feast_63 fX11_131 (uX11_11 _) rfl rfl rfl ?_
          exact z_iret (pc := 66) dX11_feast_66 rfl rfl ⟨_, rfl, H⟩
        · replace H := H.2 c5
          refine z_iconst (pc := 31) (v := (-1)) dX11_feast_31 (by decide) ?_
          exact z_iret (pc := 32) dX11_feast_32 rfl rfl ⟨_, rfl, H⟩

set_option maxRecDepth 20000 in
theorem bX11_busy_0 {l : Launch} {E : eE} {d bc bs : Nat} {h : aH} {Q : Int32 → aH → Prop} {x1 : Int32} {x2 : Int32} {x3 : Int32} {x4 : Int32} (S : SH h) (H : (CR l E d 0 0 mX11_personAt [.inr (some (0, 11, 0)), .inl x1] h (fun v1 h1 => SH h1 ∧ (((nI 400) ≤ (hI h1 0 11) → Q (-1) h1) ∧ (¬ (nI 400) ≤ (hI h1 0 11) → ((v1 = none → Q (-1) h1) ∧ (∀ q3, v1 = some q3 → ((x2 < 0 → Q (-1) h1) ∧ (¬ x2 < 0 → ((x3 ≤ x2 → Q (-1) h1) ∧ (¬ x3 ≤ x2 → ((x3 ≤ (nI 17472) → (∃ p7, v1 = some (0, 6, p7) ∧ (SH (stN h1 (0, 3)) ∧ (CV l E d 0 0 mX3_init [.inr (some (0, 3, (hN h1))), .inl (hI (stN h1 (0, 3)) 0 11), .inl x2, .inl x3, .inl x4, .inr ((hR (stN h1 (0, 3)) p7 4))] (stN h1 (0, 3)) (fun h9 => SH h9 ∧ (SH (stR h9 p7 4 (some (0, 3, (hN h1)))) ∧ Q (hI h9 0 11) (stI (stR h9 p7 4 (some (0, 3, (hN h1)))) 0 11 ((hI h9 0 11) + (nI 1))))))))) ∧ (¬ x3 ≤ (nI 17472) → Q (-1) h1))))))))))))) : CI l E (d + 1) (bc + 1) (bs + 5) mX11_busy [.inr (some (0, 11, 0)), .inl x1, .inl x2, .inl x3, .inl x4] h Q := by
  refine CI.of (by decide) rfl ?_
  show TI l E mX11_busy (d + 1) (bc + 1) (bs + 5) 0 [some (.inr (some (0, 11, 0))), some (.inl x1), some (.inl x2), some (.inl x3), some (.inl x4), none] [] h Q
  refine z_aload_n (pc := 0) dX11_busy_0 rfl rfl ?_
  refine z_iload_n (pc := 1) dX11_busy_1 rfl rfl ?_
  refine y_VR (pc := 2) (bc := (bc + 1)) (bs := (bs + 5)) (mc := 0) (ms := 0) (As := [.inl x1]) (rest := []) dX11_busy_2 kX11_personAt lX11_90 ⟨_, _, rfl⟩ rfl rfl (H.use (fun v1 h1 H => ?_))
  have S1 := H.1
  replace H := H.2
  refine z_astore (pc := 5) (ls' := [some (.inr (some (0, 11, 0))), some (.inl x1), some (.inl x2), some (.inl x3), some (.inl x4), some (.inr v1)]) dX11_busy_5 rfl rfl ?_
  refine z_aload_n (pc := 7) dX11_busy_7 rfl rfl ?_
  refine z_geti (pc := 8) dX11_busy_8 fX11_131 rfl ?_
  refine z_sipush (pc := 11) (v := (nI 400)) dX11_busy_11 (by decide) ?_
  refine z_icmp_ge (pc := 14) (tgt := 38) dX11_busy_14 (by decide) (fun c2 => ?_) (fun c2 => ?_)
  · replace H := H.1 c2
    refine z_iconst (pc := 38) (v := (-1)) dX11_busy_38 (by decide) ?_
    exact z_iret (pc := 39) dX11_busy_39 rfl rfl ⟨_, rfl, H⟩
  · replace H := H.2 c2
    refine z_aload (pc := 17) dX11_busy_17 rfl ?_
    refine z_ifnull (pc := 19) (tgt := 38) dX11_busy_19 (by decide) (fun c3 => ?_) (fun q3 c3 => ?_)
    · replace H := H.1 c3
      refine z_iconst (pc := 38) (v := (-1)) dX11_busy_38 (by decide) ?_
      exact z_iret (pc := 39) dX11_busy_39 rfl rfl ⟨_, rfl, H⟩
    · replace H := H.2 q3 c3
      refine z_iload_n (pc := 22) dX11_busy_22 rfl rfl ?_
      refine z_if_lt (pc := 23) (tgt := 38) dX11_busy_23 (by decide) (fun c4 => ?_) (fun c4 => ?_)
      · replace H := H.1 c4
        refine z_iconst (pc := 38) (v := (-1)) dX11_busy_38 (by decide) ?_
        exact z_iret (pc := 39) dX11_busy_39 rfl rfl ⟨_, rfl, H⟩
      · replace H := H.2 c4
        refine z_iload_n (pc := 26) dX11_busy_26 rfl rfl ?_
        refine z_iload_n (pc := 27) dX11_busy_27 rfl rfl ?_
        refine z_icmp_ge (pc := 28) (tgt := 38) dX11_busy_28 (by decide) (fun c5 => ?_) (fun c5 => ?_)
        · replace H := H.1 c5
          refine z_iconst (pc := 38) (v := (-1)) dX11_busy_38 (by decide) ?_
          exact z_iret (pc := 39) dX11_busy_39 rfl rfl ⟨_, rfl, H⟩
        · replace H := H.2 c5
          refine z_iload_n (pc := 31) dX11_busy_31 rfl rfl ?_
          refine z_sipush (pc := 32) (v := (nI 17472)) dX11_busy_32 (by decide) ?_
          refine z_icmp_le (pc := 35) (tgt := 40) dX11_busy_35 (by decide) (fun c6 => ?_) (fun c6 => ?_)
          · replace H := H.1 c6
            refine z_aload (pc := 40) dX11_busy_40 rfl ?_
            obtain ⟨p7, e7, H⟩ := H
            refine z_cast e7 ?_
            refine z_new (pc := 42) (c := 3) (C := RX3) (T := TX3) (N := 5) dX11_busy_42 rfl nX11_141 iX3 jX3 ?_
            have S8 := H.1
            replace H := H.2
            refine z_dup (pc := 45) dX11_busy_45 ?_
            refine z_aload_n (pc := 46) dX11_busy_46 rfl rfl ?_
            refine z_geti (pc := 47) dX11_busy_47 fX11_131 rfl ?_
            refine z_iload_n (pc := 50) dX11_busy_50 rfl rfl ?_
            refine z_iload_n (pc := 51) dX11_busy_51 rfl rfl ?_
            refine z_iload (pc := 52) dX11_busy_52 rfl ?_
            refine z_aload (pc := 54) dX11_busy_54 rfl ?_
            refine z_cast e7 ?_
            refine z_getr (pc := 56) dX11_busy_56 fX11_153 rfl ?_
            refine y_C (pc := 59) (bc := bc) (bs := bs) (mc := 0) (ms := 0) (As := [.inl (hI (stN h1 (0, 3)) 0 11), .inl x2, .inl x3, .inl x4, .inr ((hR (stN h1 (0, 3)) p7 4))]) (rest := [.inr (some (0, 3, (hN h1))), .inr (some (0, 6, p7))]) dX11_busy_59 kX3_init lX11_147 rfl rfl rfl rfl (H.use (fun h9 H => ?_))
            have S9 := H.1
            replace H := H.2
            refine z_putr (pc := 62) dX11_busy_62 fX11_153 (uX6_4 _) rfl (fun v => by cases v <;> exact ⟨rfl, rfl⟩) ?_
            have S10 := H.1
            replace H := H.2
            refine z_aload_n (pc := 65) dX11_busy_65 rfl rfl ?_
            refine z_dup (pc := 66) dX11_busy_66 ?_
            refine z_geti (pc := 67) dX11_busy_67 fX11_131 rfl ?_
            refine z_dup_x1 (pc := 70) dX11_busy_70 ?_
            refine z_iconst (pc := 71) (v := (nI 1)) dX11_busy_71 (by decide) ?_
            refine z_iadd (pc := 72) dX11_busy_72 ?_
            refine z_puti (pc := 73) dX11_busy_73 fX11_131 (uX11_11 _) rfl rfl rfl ?_
            exact z_iret (pc := 76) dX11_busy_76 rfl rfl ⟨_, rfl, H⟩
          · replace H := H.2 c6
            refine z_iconst (pc := 38) (v := (-1)) dX11_busy_38 (by decide) ?_
            exact z_iret (pc := 39) dX11_busy_39 rfl rfl ⟨_, rfl, H⟩

set_option maxRecDepth 20000 in
theorem bX11_cant_0 {l : Launch} {E : eE} {d bc bs : Nat} {h : aH} {Q : Int32 → aH → Prop} {x1 : Int32} {x2 : Int32} {x3 : Int32} (S : SH h) (H : (CR l E d 0 0 mX11_seriesAt [.inr (some (0, 11, 0)), .inl x2] h (fun v1 h1 => SH h1 ∧ (((nI 400) ≤ (hI h1 0 11) → Q (-1) h1) ∧ (¬ (nI 400) ≤ (hI h1 0 11) → (CR l E d 0 0 mX11_personAt [.inr (some (0, 11, 0)), .inl x1] h1 (fun v3 h3 => SH h3 ∧ ((v3 = none → Q (-1) h3) ∧ (∀ q4, v3 = some q4 → ((v1 = none → Q (-1) h3) ∧ (∀ q5, v1 = some q5 → (CI l E d 0 0 mX11_isWeek [.inl x3] h3 (fun v6 h6 => SH h6 ∧ ((¬ v6 = 0 → (∃ p8, v1 = some (0, 9, p8) ∧ (SH (stN h6 (0, 3)) ∧ (CV l E d 0 0 mX3_init [.inr (some (0, 3, (hN h6))), .inl (hI (stN h6 (0, 3)) 0 11), .inl x1, .inl x3, .inl (nI 0), .inr ((hR (stN h6 (0, 3)) p8 8))] (stN h6 (0, 3)) (fun h10 => SH h10 ∧ (SH (stR h10 p8 8 (some (0, 3, (hN h6)))) ∧ Q (hI h10 0 11) (stI (stR h10 p8 8 (some (0, 3, (hN h6)))) 0 11 ((hI h10 0 11) + (nI 1))))))))) ∧ (v6 = 0 → Q (-1) h6))))))))))))))) : CI l E (d + 1) (bc + 1) (bs + 5) mX11_cant [.inr (some (0, 11, 0)), .inl x1, .inl x2, .inl x3] h Q := by
  refine CI.of (by decide) rfl ?_
  show TI l E mX11_cant (d + 1) (bc + 1) (bs + 5) 0 [some (.inr (some (0, 11, 0))), some (.inl x1), some (.inl x2), some (.inl x3), none] [] h Q
  refine z_aload_n (pc := 0) dX11_cant_0 rfl rfl ?_
  refine z_iload_n (pc := 1) dX11_cant_1 rfl rfl ?_
  refine y_VR (pc := 2) (bc := (bc + 1)) (bs := (bs + 5)) (mc := 0) (ms := 0) (As := [.inl x2]) (rest := []) dX11_cant_2 kX11_seriesAt lX11_110 ⟨_, _, rfl⟩ rfl rfl (H.use (fun v1 h1 H => ?_))
  have S1 := H.1
  replace H := H.2
  refine z_astore (pc := 5) (ls' := [some (.inr (some (0, 11, 0))), some (.inl x1), some (.inl x2), some (.inl x3), some (.inr v1)]) dX11_cant_5 rfl rfl ?_
  refine z_aload_n (pc := 7) dX11_cant_7 rfl rfl ?_
  refine z_geti (pc := 8) dX11_cant_8 fX11_131 rfl ?_
  refine z_sipush (pc := 11) (v := (nI 400)) dX11_cant_11 (by decide) ?_
  refine z_icmp_ge (pc := 14) (tgt := 37) dX11_cant_14 (by decide) (fun c2 => ?_) (fun c2 => ?_)
  · replace H := H.1 c2
    refine z_iconst (pc := 37) (v := (-1)) dX11_cant_37 (by decide) ?_
    exact z_iret (pc := 38) dX11_cant_38 rfl rfl ⟨_, rfl, H⟩
  · replace H := H.2 c2
    refine z_aload_n (pc := 17) dX11_cant_17 rfl rfl ?_
    refine z_iload_n (pc := 18) dX11_cant_18 rfl rfl ?_
    refine y_VR (pc := 19) (bc := (bc + 1)) (bs := (bs + 5)) (mc := 0) (ms := 0) (As := [.inl x1]) (rest := []) dX11_cant_19 kX11_personAt lX11_90 ⟨_, _, rfl⟩ rfl rfl (H.use (fun v3 h3 H => ?_))
    have S3 := H.1
    replace H := H.2
    refine z_ifnull (pc := 22) (tgt := 37) dX11_cant_22 (by decide) (fun c4 => ?_) (fun q4 c4 => ?_)
    · replace H := H.1 c4
      refine z_iconst (pc := 37) (v := (-1)) dX11_cant_37 (by decide) ?_
      exact z_iret (pc := 38) dX11_cant_38 rfl rfl ⟨_, rfl, H⟩
    · replace H := H.2 q4 c4
      refine z_aload (pc := 25) dX11_cant_25 rfl ?_
      refine z_ifnull (pc := 27) (tgt := 37) dX11_cant_27 (by decide) (fun c5 => ?_) (fun q5 c5 => ?_)
      · replace H := H.1 c5
        refine z_iconst (pc := 37) (v := (-1)) dX11_cant_37 (by decide) ?_
        exact z_iret (pc := 38) dX11_cant_38 rfl rfl ⟨_, rfl, H⟩
      · replace H := H.2 q5 c5
        refine z_iload_n (pc := 30) dX11_cant_30 rfl rfl ?_
        refine y_SI (pc := 31) (bc := (bc + 1)) (bs := (bs + 5)) (mc := 0) (ms := 0) (As := [.inl x3]) (rest := []) dX11_cant_31 kX11_isWeek lX11_156 rfl rfl (H.use (fun v6 h6 H => ?_))
        have S6 := H.1
        replace H := H.2
        refine z_if_ne (pc := 34) (tgt := 39) dX11_cant_34 (by decide) (fun c7 => ?_) (fun c7 => ?_)
        · replace H := H.1 c7
          refine z_aload (pc := 39) dX11_cant_39 rfl ?_
          obtain ⟨p8, e8, H⟩ := H
          refine z_cast e8 ?_
          refine z_new (pc := 41) (c := 3) (C := RX3) (T := TX3) (N := 5) dX11_cant_41 rfl nX11_141 iX3 jX3 ?_
          have S9 := H.1
          replace H := H.2
          refine z_dup (pc := 44) dX11_cant_44 ?_
          refine z_aload_n (pc := 45) dX11_cant_45 rfl rfl ?_
          refine z_geti (pc := 46) dX11_cant_46 fX11_131 rfl ?_
          refine z_iload_n (pc := 49) dX11_cant_49 rfl rfl ?_
          refine z_iload_n (pc := 50) dX11_cant_50 rfl rfl ?_
          refine z_iconst (pc := 51) (v := (nI 0)) dX11_cant_51 (by decide) ?_
          refine z_aload (pc := 52) dX11_cant_52 rfl ?_
          refine z_cast e8 ?_
          refine z_getr (pc := 54) dX11_cant_54 fX11_159 rfl ?_
          refine y_C (pc := 57) (bc := bc) (bs := bs) (mc := 0) (ms := 0) (As := [.inl (hI (stN h6 (0, 3)) 0 11), .inl x1, .inl x3, .inl (nI 0), .inr ((hR (stN h6 (0, 3)) p8 8))]) (rest := [.inr (some (0, 3, (hN h6))), .inr (some (0, 9, p8))]) dX11_cant_57 kX3_init lX11_147 rfl rfl rfl rfl (H.use (fun h10 H => ?_))
          have S10 := H.1
          replace H := H.2
          refine z_putr (pc := 60) dX11_cant_60 fX11_159 (uX9_8 _) rfl (fun v => by cases v <;> exact ⟨rfl, rfl⟩) ?_
          have S11 := H.1
          replace H := H.2
          refine z_aload_n (pc := 63) dX11_cant_63 rfl rfl ?_
          refine z_dup (pc := 64) dX11_cant_64 ?_
          refine z_geti (pc := 65) dX11_cant_65 fX11_131 rfl ?_
          refine z_dup_x1 (pc := 68) dX11_cant_68 ?_
          refine z_iconst (pc := 69) (v := (nI 1)) dX11_cant_69 (by decide) ?_
          refine z_iadd (pc := 70) dX11_cant_70 ?_
          refine z_puti (pc := 71) dX11_cant_71 fX11_131 (uX11_11 _) rfl rfl rfl ?_
          exact z_iret (pc := 74) dX11_cant_74 rfl rfl ⟨_, rfl, H⟩
        · replace H := H.2 c7
          refine z_iconst (pc := 37) (v := (-1)) dX11_cant_37 (by decide) ?_
          exact z_iret (pc := 38) dX11_cant_38 rfl rfl ⟨_, rfl, H⟩

set_option maxRecDepth 20000 in
theorem bX3_init_0 {l : Launch} {E : eE} {d bc bs : Nat} {h : aH} {Q : aH → Prop} {o0 : Nat} {x1 : Int32} {x2 : Int32} {x3 : Int32} {x4 : Int32} {r5 : aR} (S : SH h) (H : ((x4 = nI 0 ∨ x4 = nI 1) ∧ (SH (stR (stI (stI (stI (stI h o0 0 x1) o0 1 x2) o0 2 x3) o0 3 x4) o0 4 r5) ∧ Q (stR (stI (stI (stI (stI h o0 0 x1) o0 1 x2) o0 2 x3) o0 3 x4) o0 4 r5)))) : CV l E (d + 1) bc bs mX3_init [.inr (some (0, 3, o0)), .inl x1, .inl x2, .inl x3, .inl x4, .inr r5] h Q := by
  refine CV.of (by decide) rfl ?_
  show TV l E mX3_init (d + 1) bc bs 0 [some (.inr (some (0, 3, o0))), some (.inl x1), some (.inl x2), some (.inl x3), some (.inl x4), some (.inr r5)] [] h Q
  refine z_aload_n (pc := 0) dX3_init_0 rfl rfl ?_
  refine z_obj (pc := 1) dX3_init_1 lX3_1 l_obj2 l_obj3 rfl ?_
  refine z_aload_n (pc := 4) dX3_init_4 rfl rfl ?_
  refine z_iload_n (pc := 5) dX3_init_5 rfl rfl ?_
  refine z_puti (pc := 6) dX3_init_6 fX3_7 uX3_0 rfl rfl rfl ?_
  refine z_aload_n (pc := 9) dX3_init_9 rfl rfl ?_
  refine z_iload_n (pc := 10) dX3_init_10 rfl rfl ?_
  refine z_puti (pc := 11) dX3_init_11 fX3_13 uX3_1 rfl rfl rfl ?_
  refine z_aload_n (pc := 14) dX3_init_14 rfl rfl ?_
  refine z_iload_n (pc := 15) dX3_init_15 rfl rfl ?_
  refine z_puti (pc := 16) dX3_init_16 fX3_16 uX3_2 rfl rfl rfl ?_
  refine z_aload_n (pc := 19) dX3_init_19 rfl rfl ?_
  refine z_iload (pc := 20) dX3_init_20 rfl ?_
  have g01 := H.1
  replace H := H.2
  refine z_puti (pc := 22) dX3_init_22 fX3_19 uX3_3 rfl (by rcases g01 with g01 | g01 <;> rw [g01] <;> rfl) (by rcases g01 with g01 | g01 <;> rw [g01] <;> rfl) ?_
  refine z_aload_n (pc := 25) dX3_init_25 rfl rfl ?_
  refine z_aload (pc := 26) dX3_init_26 rfl ?_
  refine z_putr (pc := 28) dX3_init_28 fX3_23 uX3_4 rfl (fun v => by cases v <;> exact ⟨rfl, rfl⟩) ?_
  have S1 := H.1
  replace H := H.2
  exact z_ret (pc := 31) dX3_init_31 rfl ⟨rfl, H⟩

set_option maxRecDepth 20000 in
theorem bX4_init_0 {l : Launch} {E : eE} {d bc bs : Nat} {h : aH} {Q : aH → Prop} {o0 : Nat} {x1 : Int32} (S : SH h) (H : Q (stI h o0 0 x1)) : CV l E (d + 1) bc bs mX4_init [.inr (some (0, 4, o0)), .inl x1] h Q := by
  refine CV.of (by decide) rfl ?_
  show TV l E mX4_init (d + 1) bc bs 0 [some (.inr (some (0, 4, o0))), some (.inl x1)] [] h Q
  refine z_aload_n (pc := 0) dX4_init_0 rfl rfl ?_
  refine z_obj (pc := 1) dX4_init_1 lX4_3 l_obj2 l_obj3 rfl ?_
  refine z_aload_n (pc := 4) dX4_init_4 rfl rfl ?_
  refine z_iload_n (pc := 5) dX4_init_5 rfl rfl ?_
  refine z_puti (pc := 6) dX4_init_6 fX4_9 uX4_0 rfl rfl rfl ?_
  exact z_ret (pc := 9) dX4_init_9 rfl ⟨rfl, H⟩

set_option maxRecDepth 20000 in
theorem bX6_init_0 {l : Launch} {E : eE} {d bc bs : Nat} {h : aH} {Q : aH → Prop} {o0 : Nat} {o1 : Nat} {x2 : Int32} (S : SH h) (H : (SH (stR h o0 0 (some (0, 4, o1))) ∧ (SH (stN (stI (stR h o0 0 (some (0, 4, o1))) o0 1 x2) (3, 48)) ∧ (SH (stR (stN (stI (stR h o0 0 (some (0, 4, o1))) o0 1 x2) (3, 48)) o0 2 (some (3, 48, (hN (stI (stR h o0 0 (some (0, 4, o1))) o0 1 x2))))) ∧ Q (stR (stN (stI (stR h o0 0 (some (0, 4, o1))) o0 1 x2) (3, 48)) o0 2 (some (3, 48, (hN (stI (stR h o0 0 (some (0, 4, o1))) o0 1 x2))))))))) : CV l E (d + 1) (bc + 1) (bs + 48) mX6_init [.inr (some (0, 6, o0)), .inr (some (0, 4, o1)), .inl x2] h Q := by
  refine CV.of (by decide) rfl ?_
  show TV l E mX6_init (d + 1) (bc + 1) (bs + 48) 0 [some (.inr (some (0, 6, o0))), some (.inr (some (0, 4, o1))), some (.inl x2)] [] h Q
  refine z_aload_n (pc := 0) dX6_init_0 rfl rfl ?_
  refine z_obj (pc := 1) dX6_init_1 lX6_3 l_obj2 l_obj3 rfl ?_
  refine z_aload_n (pc := 4) dX6_init_4 rfl rfl ?_
  refine z_aload_n (pc := 5) dX6_init_5 rfl rfl ?_
  refine z_putr (pc := 6) dX6_init_6 fX6_9 uX6_0 rfl (fun v => by cases v <;> exact ⟨rfl, rfl⟩) ?_
  have S1 := H.1
  replace H := H.2
  refine z_aload_n (pc := 9) dX6_init_9 rfl rfl ?_
  refine z_iload_n (pc := 10) dX6_init_10 rfl rfl ?_
  refine z_puti (pc := 11) dX6_init_11 fX6_15 uX6_1 rfl rfl rfl ?_
  refine z_aload_n (pc := 14) dX6_init_14 rfl rfl ?_
  refine z_bipush (pc := 15) (v := (nI 48)) dX6_init_15 (by decide) ?_
  refine z_newa (pc := 17) (k := 3) (n := 48) dX6_init_17 rfl rfl rfl w_arr3 (by decide) (by decide) (by decide) rfl ?_
  have S2 := H.1
  replace H := H.2
  refine z_putr (pc := 19) dX6_init_19 fX6_19 uX6_2 rfl (fun v => by cases v <;> exact ⟨rfl, rfl⟩) ?_
  have S3 := H.1
  replace H := H.2
  exact z_ret (pc := 22) dX6_init_22 rfl ⟨rfl, H⟩

abbrev LX9_init_52 (l : Launch) (E : eE) (d bc bs : Nat) (o0 : Nat) (x1 : Int32) (x2 : Int32) (r3 : aR) (x4 : Int32) (x5 : Int32) (h : aH) (Q : aH → Prop) : Prop := TV l E mX9_init d bc bs 52 [some (.inr (some (0, 9, o0))), some (.inl x1), some (.inl x2), some (.inr r3), some (.inl x4), some (.inl x5)] [] h Q

set_option maxRecDepth 20000 in
theorem bX9_init_0 {l : Launch} {E : eE} {d bc bs : Nat} {h : aH} {Q : aH → Prop} {o0 : Nat} {x1 : Int32} {x2 : Int32} {r3 : aR} {x4 : Int32} (S : SH h) (H : (SH (stR (stI (stI h o0 0 x1) o0 1 x2) o0 2 r3) ∧ (SH (stN (stI (stR (stI (stI h o0 0 x1) o0 1 x2) o0 2 r3) o0 3 x4) (1, 6)) ∧ (SH (stR (stN (stI (stR (stI (stI h o0 0 x1) o0 1 x2) o0 2 r3) o0 3 x4) (1, 6)) o0 4 (some (1, 6, (hN (stI (stR (stI (stI h o0 0 x1) o0 1 x2) o0 2 r3) o0 3 x4))))) ∧ (SH (stN (stR (stN (stI (stR (stI (stI h o0 0 x1) o0 1 x2) o0 2 r3) o0 3 x4) (1, 6)) o0 4 (some (1, 6, (hN (stI (stR (stI (stI h o0 0 x1) o0 1 x2) o0 2 r3) o0 3 x4))))) (1, 6)) ∧ (SH (stR (stN (stR (stN (stI (stR (stI (stI h o0 0 x1) o0 1 x2) o0 2 r3) o0 3 x4) (1, 6)) o0 4 (some (1, 6, (hN (stI (stR (stI (stI h o0 0 x1) o0 1 x2) o0 2 r3) o0 3 x4))))) (1, 6)) o0 5 (some (1, 6, (hN (stR (stN (stI (stR (stI (stI h o0 0 x1) o0 1 x2) o0 2 r3) o0 3 x4) (1, 6)) o0 4 (some (1, 6, (hN (stI (stR (stI (stI h o0 0 x1) o0 1 x2) o0 2 r3) o0 3 x4))))))))) ∧ (SH (stN (stR (stN (stR (stN (stI (stR (stI (stI h o0 0 x1) o0 1 x2) o0 2 r3) o0 3 x4) (1, 6)) o0 4 (some (1, 6, (hN (stI (stR (stI (stI h o0 0 x1) o0 1 x2) o0 2 r3) o0 3 x4))))) (1, 6)) o0 5 (some (1, 6, (hN (stR (stN (stI (stR (stI (stI h o0 0 x1) o0 1 x2) o0 2 r3) o0 3 x4) (1, 6)) o0 4 (some (1, 6, (hN (stI (stR (stI (stI h o0 0 x1) o0 1 x2) o0 2 r3) o0 3 x4))))))))) (1, 52)) ∧ (SH (stR (stN (stR (stN (stR (stN (stI (stR (stI (stI h o0 0 x1) o0 1 x2) o0 2 r3) o0 3 x4) (1, 6)) o0 4 (some (1, 6, (hN (stI (stR (stI (stI h o0 0 x1) o0 1 x2) o0 2 r3) o0 3 x4))))) (1, 6)) o0 5 (some (1, 6, (hN (stR (stN (stI (stR (stI (stI h o0 0 x1) o0 1 x2) o0 2 r3) o0 3 x4) (1, 6)) o0 4 (some (1, 6, (hN (stI (stR (stI (stI h o0 0 x1) o0 1 x2) o0 2 r3) o0 3 x4))))))))) (1, 52)) o0 6 (some (1, 52, (hN (stR (stN (stR (stN (stI (stR (stI (stI h o0 0 x1) o0 1 x2) o0 2 r3) o0 3 x4) (1, 6)) o0 4 (some (1, 6, (hN (stI (stR (stI (stI h o0 0 x1) o0 1 x2) o0 2 r3) o0 3 x4))))) (1, 6)) o0 5 (some (1, 6, (hN (stR (stN (stI (stR (stI (stI h o0 0 x1) o0 1 x2) o0 2 r3) o0 3 x4) (1, 6)) o0 4 (some (1, 6, (hN (stI (stR (stI (stI h o0 0 x1) o0 1 x2) o0 2 r3) o0 3 x4))))))))))))) ∧ LX9_init_52 l E (d + 1) bc bs o0 x1 x2 r3 x4 (nI 0) (stR (stN (stR (stN (stR (stN (stI (stR (stI (stI h o0 0 x1) o0 1 x2) o0 2 r3) o0 3 x4) (1, 6)) o0 4 (some (1, 6, (hN (stI (stR (stI (stI h o0 0 x1) o0 1 x2) o0 2 r3) o0 3 x4))))) (1, 6)) o0 5 (some (1, 6, (hN (stR (stN (stI (stR (stI (stI h o0 0 x1) o0 1 x2) o0 2 r3) o0 3 x4) (1, 6)) o0 4 (some (1, 6, (hN (stI (stR (stI (stI h o0 0 x1) o0 1 x2) o0 2 r3) o0 3 x4))))))))) (1, 52)) o0 6 (some (1, 52, (hN (stR (stN (stR (stN (stI (stR (stI (stI h o0 0 x1) o0 1 x2) o0 2 r3) o0 3 x4) (1, 6)) o0 4 (some (1, 6, (hN (stI (stR (stI (stI h o0 0 x1) o0 1 x2) o0 2 r3) o0 3 x4))))) (1, 6)) o0 5 (some (1, 6, (hN (stR (stN (stI (stR (stI (stI h o0 0 x1) o0 1 x2) o0 2 r3) o0 3 x4) (1, 6)) o0 4 (some (1, 6, (hN (stI (stR (stI (stI h o0 0 x1) o0 1 x2) o0 2 r3) o0 3 x4))))))))))))) Q)))))))) : CV l E (d + 1) (bc + 3) (bs + 64) mX9_init [.inr (some (0, 9, o0)), .inl x1, .inl x2, .inr r3, .inl x4] h Q := by
  refine CV.of (by decide) rfl ?_
  show TV l E mX9_init (d + 1) (bc + 3) (bs + 64) 0 [some (.inr (some (0, 9, o0))), some (.inl x1), some (.inl x2), some (.inr r3), some (.inl x4), none] [] h Q
  refine z_aload_n (pc := 0) dX9_init_0 rfl rfl ?_
  refine z_obj (pc := 1) dX9_init_1 lX9_3 l_obj2 l_obj3 rfl ?_
  refine z_aload_n (pc := 4) dX9_init_4 rfl rfl ?_
  refine z_iload_n (pc := 5) dX9_init_5 rfl rfl ?_
  refine z_puti (pc := 6) dX9_init_6 fX9_9 uX9_0 rfl rfl rfl ?_
  refine z_aload_n (pc := 9) dX9_init_9 rfl rfl ?_
  refine z_iload_n (pc := 10) dX9_init_10 rfl rfl ?_
  refine z_puti (pc := 11) dX9_init_11 fX9_15 uX9_1 rfl rfl rfl ?_
  refine z_aload_n (pc := 14) dX9_init_14 rfl rfl ?_
  refine z_aload_n (pc := 15) dX9_init_15 rfl rfl ?_
  refine z_putr (pc := 16) dX9_init_16 fX9_18 uX9_2 rfl (fun v => by cases v <;> exact ⟨rfl, rfl⟩) ?_
  have S1 := H.1
  replace H := H.2
  refine z_aload_n (pc := 19) dX9_init_19 rfl rfl ?_
  refine z_iload (pc := 20) dX9_init_20 rfl ?_
  refine z_puti (pc := 22) dX9_init_22 fX9_22 uX9_3 rfl rfl rfl ?_
  refine z_aload_n (pc := 25) dX9_init_25 rfl rfl ?_
  refine z_bipush (pc := 26) (v := (nI 6)) dX9_init_26 (by decide) ?_
  refine z_newa (pc := 28) (k := 1) (n := 6) dX9_init_28 rfl rfl rfl w_arr1 (by decide) (by decide) (by decide) rfl ?_
  have S2 := H.1
  replace H := H.2
  refine z_putr (pc := 30) dX9_init_30 fX9_25 uX9_4 rfl (fun v => by cases v <;> exact ⟨rfl, rfl⟩) ?_
  have S3 := H.1
  replace H := H.2
  refine z_aload_n (pc := 33) dX9_init_33 rfl rfl ?_
  refine z_bipush (pc := 34) (v := (nI 6)) dX9_init_34 (by decide) ?_
  refine z_newa (pc := 36) (k := 1) (n := 6) dX9_init_36 rfl rfl rfl w_arr1 (by decide) (by decide) (by decide) rfl ?_
  have S4 := H.1
  replace H := H.2
  refine z_putr (pc := 38) dX9_init_38 fX9_29 uX9_5 rfl (fun v => by cases v <;> exact ⟨rfl, rfl⟩) ?_
  have S5 := H.1
  replace H := H.2
  refine z_aload_n (pc := 41) dX9_init_41 rfl rfl ?_
  refine z_bipush (pc := 42) (v := (nI 52)) dX9_init_42 (by decide) ?_
  refine z_newa (pc := 44) (k := 1) (n := 52) dX9_init_44 rfl rfl rfl w_arr1 (by decide) (by decide) (by decide) rfl ?_
  have S6 := H.1
  replace H := H.2
  refine z_putr (pc := 46) dX9_init_46 fX9_32 uX9_6 rfl (fun v => by cases v <;> exact ⟨rfl, rfl⟩) ?_
  have S7 := H.1
  replace H := H.2
  refine z_iconst (pc := 49) (v := (nI 0)) dX9_init_49 (by decide) ?_
  refine z_istore (pc := 50) (ls' := [some (.inr (some (0, 9, o0))), some (.inl x1), some (.inl x2), some (.inr r3), some (.inl x4), some (.inl (nI 0))]) dX9_init_50 rfl rfl ?_
  exact H

set_option maxRecDepth 20000 in
theorem bX9_init_52 {l : Launch} {E : eE} {d bc bs : Nat} {h : aH} {Q : aH → Prop} {o0 : Nat} {x1 : Int32} {x2 : Int32} {r3 : aR} {x4 : Int32} {x5 : Int32} (S : SH h) (H : (((nI 52) ≤ x5 → Q h) ∧ (¬ (nI 52) ≤ x5 → (∃ p2, (hR h o0 6) = some (1, 52, p2) ∧ (vp_in x5 52 ∧ LX9_init_52 l E (d + 1) bc bs o0 x1 x2 r3 x4 (x5 + (nI 1)) (stA h p2 (x5).toNatClampNeg (-1)) Q))))) : LX9_init_52 l E (d + 1) bc bs o0 x1 x2 r3 x4 x5 h Q := by
  refine z_iload (pc := 52) dX9_init_52 rfl ?_
  refine z_bipush (pc := 54) (v := (nI 52)) dX9_init_54 (by decide) ?_
  refine z_icmp_ge (pc := 56) (tgt := 73) dX9_init_56 (by decide) (fun c1 => ?_) (fun c1 => ?_)
  · replace H := H.1 c1
    exact z_ret (pc := 73) dX9_init_73 rfl ⟨rfl, H⟩
  · replace H := H.2 c1
    refine z_aload_n (pc := 59) dX9_init_59 rfl rfl ?_
    refine z_getr (pc := 60) dX9_init_60 fX9_32 rfl ?_
    obtain ⟨p2, e2, H⟩ := H
    refine z_cast e2 ?_
    refine z_iload (pc := 63) dX9_init_63 rfl ?_
    refine z_iconst (pc := 65) (v := (-1)) dX9_init_65 (by decide) ?_
    have c3 := H.1
    replace H := H.2
    refine z_iast (pc := 66) dX9_init_66 c3 ?_
    refine z_iinc (pc := 67) (v := (x5 + (nI 1))) (ls' := [some (.inr (some (0, 9, o0))), some (.inl x1), some (.inl x2), some (.inr r3), some (.inl x4), some (.inl (x5 + (nI 1)))]) dX9_init_67 rfl (by rw [show Int32.ofInt (1) = (nI 1) by decide]) rfl ?_
    refine z_goto (pc := 70) (tgt := 52) dX9_init_70 (by decide) ?_
    exact H
