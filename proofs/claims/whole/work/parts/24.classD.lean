abbrev LX11_when_33 (l : Launch) (E : eE) (d bc bs : Nat) (x1 : Int32) (x2 : Int32) (x3 : Int32) (x4 : Int32) (x5 : Int32) (r6 : aR) (h : aH) (Q : Int32 → aH → Prop) : Prop := TI l E mX11_when d bc bs 33 [some (.inr (some (0, 11, 0))), some (.inl x1), some (.inl x2), some (.inl x3), some (.inl x4), some (.inl x5), some (.inr r6), none, none, none, none, none, none, none, none] [] h Q

abbrev LX11_when_102 (l : Launch) (E : eE) (d bc bs : Nat) (x1 : Int32) (x2 : Int32) (x3 : Int32) (x4 : Int32) (x5 : Int32) (r6 : aR) (x7 : Int32) (x8 : Int32) (x9 : Int32) (x10 : Int32) (x11 : Int32) (x12 : Int32) (x13 : Int32) (x14 : Int32) (h : aH) (Q : Int32 → aH → Prop) : Prop := TI l E mX11_when d bc bs 102 [some (.inr (some (0, 11, 0))), some (.inl x1), some (.inl x2), some (.inl x3), some (.inl x4), some (.inl x5), some (.inr r6), some (.inl x7), some (.inl x8), some (.inl x9), some (.inl x10), some (.inl x11), some (.inl x12), some (.inl x13), some (.inl x14)] [] h Q

set_option maxRecDepth 20000 in
theorem bX11_when_0 {l : Launch} {E : eE} {d bc bs : Nat} {h : aH} {Q : Int32 → aH → Prop} {x1 : Int32} {x2 : Int32} {x3 : Int32} {x4 : Int32} {x5 : Int32} (S : SH h) (H : (CR l E d 0 0 mX11_landAt [.inr (some (0, 11, 0)), .inl x1] h (fun v1 h1 => SH h1 ∧ ((x2 < (-1) → LX11_when_33 l E (d + 1) bc bs x1 x2 x3 x4 x5 v1 h1 Q) ∧ (¬ x2 < (-1) → (((nI 364) < x2 → LX11_when_33 l E (d + 1) bc bs x1 x2 x3 x4 x5 v1 h1 Q) ∧ (¬ (nI 364) < x2 → ((x3 < 0 → LX11_when_33 l E (d + 1) bc bs x1 x2 x3 x4 x5 v1 h1 Q) ∧ (¬ x3 < 0 → (((nI 48) ≤ x3 → LX11_when_33 l E (d + 1) bc bs x1 x2 x3 x4 x5 v1 h1 Q) ∧ (¬ (nI 48) ≤ x3 → ((v1 = none → Q (-1) h1) ∧ (∀ q6, v1 = some q6 → (((nI 1) = 0 → Q (-1) h1) ∧ (¬ (nI 1) = 0 → (CI l E d 0 0 mX11_isKnown [.inr (some (0, 11, 0)), .inl x4] h1 (fun v8 h8 => SH h8 ∧ ((¬ v8 = 0 → (CI l E d 0 0 mJ9_max_7cf53 [.inl (nI 0), .inl (((x2 * (nI 48)) + x3) - (nI 28))] h8 (fun v10 h10 => SH h10 ∧ (CI l E d 0 0 mJ9_min_7cf53 [.inl (nI 17471), .inl (((x2 * (nI 48)) + x3) - (-24))] h10 (fun v11 h11 => SH h11 ∧ LX11_when_102 l E (d + 1) bc bs x1 x2 x3 x4 x5 v1 (nI 1) ((x2 * (nI 48)) + x3) (nI 0) (-1) (-1) v10 v11 v10 h11 Q))))) ∧ (v8 = 0 → Q (-1) h8))))))))))))))))))) : CI l E (d + 1) bc bs mX11_when [.inr (some (0, 11, 0)), .inl x1, .inl x2, .inl x3, .inl x4, .inl x5] h Q := by
  refine CI.of (by decide) rfl ?_
  show TI l E mX11_when (d + 1) bc bs 0 [some (.inr (some (0, 11, 0))), some (.inl x1), some (.inl x2), some (.inl x3), some (.inl x4), some (.inl x5), none, none, none, none, none, none, none, none, none] [] h Q
  refine z_aload_n (pc := 0) dX11_when_0 rfl rfl ?_
  refine z_iload_n (pc := 1) dX11_when_1 rfl rfl ?_
  refine y_VR (pc := 2) (bc := bc) (bs := bs) (mc := 0) (ms := 0) (As := [.inl x1]) (rest := []) dX11_when_2 kX11_landAt lX11_80 ⟨_, _, rfl⟩ rfl rfl (H.use (fun v1 h1 H => ?_))
  have S1 := H.1
  replace H := H.2
  refine z_astore (pc := 5) (ls' := [some (.inr (some (0, 11, 0))), some (.inl x1), some (.inl x2), some (.inl x3), some (.inl x4), some (.inl x5), some (.inr v1), none, none, none, none, none, none, none, none]) dX11_when_5 rfl rfl ?_
  refine z_iload_n (pc := 7) dX11_when_7 rfl rfl ?_
  refine z_iconst (pc := 8) (v := (-1)) dX11_when_8 (by decide) ?_
  refine z_icmp_lt (pc := 9) (tgt := 33) dX11_when_9 (by decide) (fun c2 => ?_) (fun c2 => ?_)
  · replace H := H.1 c2
    exact H
  · replace H := H.2 c2
    refine z_iload_n (pc := 12) dX11_when_12 rfl rfl ?_
    refine z_sipush (pc := 13) (v := (nI 364)) dX11_when_13 (by decide) ?_
    refine z_icmp_gt (pc := 16) (tgt := 33) dX11_when_16 (by decide) (fun c3 => ?_) (fun c3 => ?_)
    · replace H := H.1 c3
      exact H
    · replace H := H.2 c3
      refine z_iload_n (pc := 19) dX11_when_19 rfl rfl ?_
      refine z_if_lt (pc := 20) (tgt := 33) dX11_when_20 (by decide) (fun c4 => ?_) (fun c4 => ?_)
      · replace H := H.1 c4
        exact H
      · replace H := H.2 c4
        refine z_iload_n (pc := 23) dX11_when_23 rfl rfl ?_
        refine z_bipush (pc := 24) (v := (nI 48)) dX11_when_24 (by decide) ?_
        refine z_icmp_ge (pc := 26) (tgt := 33) dX11_when_26 (by decide) (fun c5 => ?_) (fun c5 => ?_)
        · replace H := H.1 c5
          exact H
        · replace H := H.2 c5
          refine z_iconst (pc := 29) (v := (nI 1)) dX11_when_29 (by decide) ?_
          refine z_goto (pc := 30) (tgt := 34) dX11_when_30 (by decide) ?_
          refine z_istore (pc := 34) (ls' := [some (.inr (some (0, 11, 0))), some (.inl x1), some (.inl x2), some (.inl x3), some (.inl x4), some (.inl x5), some (.inr v1), some (.inl (nI 1)), none, none, none, none, none, none, none]) dX11_when_34 rfl rfl ?_
          refine z_aload (pc := 36) dX11_when_36 rfl ?_
          refine z_ifnull (pc := 38) (tgt := 55) dX11_when_38 (by decide) (fun c6 => ?_) (fun q6 c6 => ?_)
          · replace H := H.1 c6
            refine z_iconst (pc := 55) (v := (-1)) dX11_when_55 (by decide) ?_
            exact z_iret (pc := 56) dX11_when_56 rfl rfl ⟨_, rfl, H⟩
          · replace H := H.2 q6 c6
            refine z_iload (pc := 41) dX11_when_41 rfl ?_
            refine z_if_eq (pc := 43) (tgt := 55) dX11_when_43 (by decide) (fun c7 => ?_) (fun c7 => ?_)
            · replace H := H.1 c7
              refine z_iconst (pc := 55) (v := (-1)) dX11_when_55 (by decide) ?_
              exact z_iret (pc := 56) dX11_when_56 rfl rfl ⟨_, rfl, H⟩
            · replace H := H.2 c7
              refine z_aload_n (pc := 46) dX11_when_46 rfl rfl ?_
              refine z_iload (pc := 47) dX11_when_47 rfl ?_
              refine y_VI (pc := 49) (bc := bc) (bs := bs) (mc := 0) (ms := 0) (As := [.inl x4]) (rest := []) dX11_when_49 kX11_isKnown lX11_162 ⟨_, _, rfl⟩ rfl rfl (H.use (fun v8 h8 H => ?_))
              have S8 := H.1
              replace H := H.2
              refine z_if_ne (pc := 52) (tgt := 57) dX11_when_52 (by decide) (fun c9 => ?_) (fun c9 => ?_)
              · replace H := H.1 c9
                refine z_iload_n (pc := 57) dX11_when_57 rfl rfl ?_
                refine z_bipush (pc := 58) (v := (nI 48)) dX11_when_58 (by decide) ?_
                refine z_imul (pc := 60) dX11_when_60 ?_
                refine z_iload_n (pc := 61) dX11_when_61 rfl rfl ?_
                refine z_iadd (pc := 62) dX11_when_62 ?_
                refine z_istore (pc := 63) (ls' := [some (.inr (some (0, 11, 0))), some (.inl x1), some (.inl x2), some (.inl x3), some (.inl x4), some (.inl x5), some (.inr v1), some (.inl (nI 1)), some (.inl ((x2 * (nI 48)) + x3)), none, none, none, none, none, none]) dX11_when_63 rfl rfl ?_
                refine z_iconst (pc := 65) (v := (nI 0)) dX11_when_65 (by decide) ?_
                refine z_istore (pc := 66) (ls' := [some (.inr (some (0, 11, 0))), some (.inl x1), some (.inl x2), some (.inl x3), some (.inl x4), some (.inl x5), some (.inr v1), some (.inl (nI 1)), some (.inl ((x2 * (nI 48)) + x3)), some (.inl (nI 0)), none, none, none, none, none]) dX11_when_66 rfl rfl ?_
                refine z_iconst (pc := 68) (v := (-1)) dX11_when_68 (by decide) ?_
                refine z_istore (pc := 69) (ls' := [some (.inr (some (0, 11, 0))), some (.inl x1), some (.inl x2), some (.inl x3), some (.inl x4), some (.inl x5), some (.inr v1), some (.inl (nI 1)), some (.inl ((x2 * (nI 48)) + x3)), some (.inl (nI 0)), some (.inl (-1)), none, none, none, none]) dX11_when_69 rfl rfl ?_
                refine z_iconst (pc := 71) (v := (-1)) dX11_when_71 (by decide) ?_
                refine z_istore (pc := 72) (ls' := [some (.inr (some (0, 11, 0))), some (.inl x1), some (.inl x2), some (.inl x3), some (.inl x4), some (.inl x5), some (.inr v1), some (.inl (nI 1)), some (.inl ((x2 * (nI 48)) + x3)), some (.inl (nI 0)), some (.inl (-1)), some (.inl (-1)), none, none, none]) dX11_when_72 rfl rfl ?_
                refine z_iconst (pc := 74) (v := (nI 0)) dX11_when_74 (by decide) ?_
                refine z_iload (pc := 75) dX11_when_75 rfl ?_
                refine z_bipush (pc := 77) (v := (nI 28)) dX11_when_77 (by decide) ?_
                refine z_isub (pc := 79) dX11_when_79 ?_
                refine y_SI (pc := 80) (bc := bc) (bs := bs) (mc := 0) (ms := 0) (As := [.inl (nI 0), .inl (((x2 * (nI 48)) + x3) - (nI 28))]) (rest := []) dX11_when_80 kJ9_max_7cf53 lX11_94 rfl rfl (H.use (fun v10 h10 H => ?_))
                have S10 := H.1
                replace H := H.2
                refine z_istore (pc := 83) (ls' := [some (.inr (some (0, 11, 0))), some (.inl x1), some (.inl x2), some (.inl x3), some (.inl x4), some (.inl x5), some (.inr v1), some (.inl (nI 1)), some (.inl ((x2 * (nI 48)) + x3)), some (.inl (nI 0)), some (.inl (-1)), some (.inl (-1)), some (.inl v10), none, none]) dX11_when_83 rfl rfl ?_
                refine z_sipush (pc := 85) (v := (nI 17471)) dX11_when_85 (by decide) ?_
                refine z_iload (pc := 88) dX11_when_88 rfl ?_
                refine z_bipush (pc := 90) (v := (-24)) dX11_when_90 (by decide) ?_
                refine z_isub (pc := 92) dX11_when_92 ?_
                refine y_SI (pc := 93) (bc := bc) (bs := bs) (mc := 0) (ms := 0) (As := [.inl (nI 17471), .inl (((x2 * (nI 48)) + x3) - (-24))]) (rest := []) dX11_when_93 kJ9_min_7cf53 lX11_175 rfl rfl (H.use (fun v11 h11 H => ?_))
                have S11 := H.1
                replace H := H.2
                refine z_istore (pc := 96) (ls' := [some (.inr (some (0, 11, 0))), some (.inl x1), some (.inl x2), some (.inl x3), some (.inl x4), some (.inl x5), some (.inr v1), some (.inl (nI 1)), some (.inl ((x2 * (nI 48)) + x3)), some (.inl (nI 0)), some (.inl (-1)), some (.inl (-1)), some (.inl v10), some (.inl v11), none]) dX11_when_96 rfl rfl ?_
                refine z_iload (pc := 98) dX11_when_98 rfl ?_
                refine z_istore (pc := 100) (ls' := [some (.inr (some (0, 11, 0))), some (.inl x1), some (.inl x2), some (.inl x3), some (.inl x4), some (.inl x5), some (.inr v1), some (.inl (nI 1)), some (.inl ((x2 * (nI 48)) + x3)), some (.inl (nI 0)), some (.inl (-1)), some (.inl (-1)), some (.inl v10), some (.inl v11), some (.inl v10)]) dX11_when_100 rfl rfl ?_
                exact H
              · replace H := H.2 c9
                refine z_iconst (pc := 55) (v := (-1)) dX11_when_55 (by decide) ?_
                exact z_iret (pc := 56) dX11_when_56 rfl rfl ⟨_, rfl, H⟩

set_option maxRecDepth 20000 in
theorem bX11_when_33 {l : Launch} {E : eE} {d bc bs : Nat} {h : aH} {Q : Int32 → aH → Prop} {x1 : Int32} {x2 : Int32} {x3 : Int32} {x4 : Int32} {x5 : Int32} {r6 : aR} (S : SH h) (H : ((r6 = none → Q (-1) h) ∧ (∀ q1, r6 = some q1 → (((nI 0) = 0 → Q (-1) h) ∧ (¬ (nI 0) = 0 → (CI l E d 0 0 mX11_isKnown [.inr (some (0, 11, 0)), .inl x4] h (fun v3 h3 => SH h3 ∧ ((¬ v3 = 0 → (CI l E d 0 0 mJ9_max_7cf53 [.inl (nI 0), .inl (((x2 * (nI 48)) + x3) - (nI 28))] h3 (fun v5 h5 => SH h5 ∧ (CI l E d 0 0 mJ9_min_7cf53 [.inl (nI 17471), .inl (((x2 * (nI 48)) + x3) - (-24))] h5 (fun v6 h6 => SH h6 ∧ LX11_when_102 l E (d + 1) bc bs x1 x2 x3 x4 x5 r6 (nI 0) ((x2 * (nI 48)) + x3) (nI 0) (-1) (-1) v5 v6 v5 h6 Q))))) ∧ (v3 = 0 → Q (-1) h3))))))))) : LX11_when_33 l E (d + 1) bc bs x1 x2 x3 x4 x5 r6 h Q := by
  refine z_iconst (pc := 33) (v := (nI 0)) dX11_when_33 (by decide) ?_
  refine z_istore (pc := 34) (ls' := [some (.inr (some (0, 11, 0))), some (.inl x1), some (.inl x2), some (.inl x3), some (.inl x4), some (.inl x5), some (.inr r6), some (.inl (nI 0)), none, none, none, none, none, none, none]) dX11_when_34 rfl rfl ?_
  refine z_aload (pc := 36) dX11_when_36 rfl ?_
  refine z_ifnull (pc := 38) (tgt := 55) dX11_when_38 (by decide) (fun c1 => ?_) (fun q1 c1 => ?_)
  · replace H := H.1 c1
    refine z_iconst (pc := 55) (v := (-1)) dX11_when_55 (by decide) ?_
    exact z_iret (pc := 56) dX11_when_56 rfl rfl ⟨_, rfl, H⟩
  · replace H := H.2 q1 c1
    refine z_iload (pc := 41) dX11_when_41 rfl ?_
    refine z_if_eq (pc := 43) (tgt := 55) dX11_when_43 (by decide) (fun c2 => ?_) (fun c2 => ?_)
    · replace H := H.1 c2
      refine z_iconst (pc := 55) (v := (-1)) dX11_when_55 (by decide) ?_
      exact z_iret (pc := 56) dX11_when_56 rfl rfl ⟨_, rfl, H⟩
    · replace H := H.2 c2
      refine z_aload_n (pc := 46) dX11_when_46 rfl rfl ?_
      refine z_iload (pc := 47) dX11_when_47 rfl ?_
      refine y_VI (pc := 49) (bc := bc) (bs := bs) (mc := 0) (ms := 0) (As := [.inl x4]) (rest := []) dX11_when_49 kX11_isKnown lX11_162 ⟨_, _, rfl⟩ rfl rfl (H.use (fun v3 h3 H => ?_))
      have S3 := H.1
      replace H := H.2
      refine z_if_ne (pc := 52) (tgt := 57) dX11_when_52 (by decide) (fun c4 => ?_) (fun c4 => ?_)
      · replace H := H.1 c4
        refine z_iload_n (pc := 57) dX11_when_57 rfl rfl ?_
        refine z_bipush (pc := 58) (v := (nI 48)) dX11_when_58 (by decide) ?_
        refine z_imul (pc := 60) dX11_when_60 ?_
        refine z_iload_n (pc := 61) dX11_when_61 rfl rfl ?_
        refine z_iadd (pc := 62) dX11_when_62 ?_
        refine z_istore (pc := 63) (ls' := [some (.inr (some (0, 11, 0))), some (.inl x1), some (.inl x2), some (.inl x3), some (.inl x4), some (.inl x5), some (.inr r6), some (.inl (nI 0)), some (.inl ((x2 * (nI 48)) + x3)), none, none, none, none, none, none]) dX11_when_63 rfl rfl ?_
        refine z_iconst (pc := 65) (v := (nI 0)) dX11_when_65 (by decide) ?_
        refine z_istore (pc := 66) (ls' := [some (.inr (some (0, 11, 0))), some (.inl x1), some (.inl x2), some (.inl x3), some (.inl x4), some (.inl x5), some (.inr r6), some (.inl (nI 0)), some (.inl ((x2 * (nI 48)) + x3)), some (.inl (nI 0)), none, none, none, none, none]) dX11_when_66 rfl rfl ?_
        refine z_iconst (pc := 68) (v := (-1)) dX11_when_68 (by decide) ?_
        refine z_istore (pc := 69) (ls' := [some (.inr (some (0, 11, 0))), some (.inl x1), some (.inl x2), some (.inl x3), some (.inl x4), some (.inl x5), some (.inr r6), some (.inl (nI 0)), some (.inl ((x2 * (nI 48)) + x3)), some (.inl (nI 0)), some (.inl (-1)), none, none, none, none]) dX11_when_69 rfl rfl ?_
        refine z_iconst (pc := 71) (v := (-1)) dX11_when_71 (by decide) ?_
        refine z_istore (pc := 72) (ls' := [some (.inr (some (0, 11, 0))), some (.inl x1), some (.inl x2), some (.inl x3), some (.inl x4), some (.inl x5), some (.inr r6), some (.inl (nI 0)), some (.inl ((x2 * (nI 48)) + x3)), some (.inl (nI 0)), some (.inl (-1)), some (.inl (-1)), none, none, none]) dX11_when_72 rfl rfl ?_
        refine z_iconst (pc := 74) (v := (nI 0)) dX11_when_74 (by decide) ?_
        refine z_iload (pc := 75) dX11_when_75 rfl ?_
        refine z_bipush (pc := 77) (v := (nI 28)) dX11_when_77 (by decide) ?_
        refine z_isub (pc := 79) dX11_when_79 ?_
        refine y_SI (pc := 80) (bc := bc) (bs := bs) (mc := 0) (ms := 0) (As := [.inl (nI 0), .inl (((x2 * (nI 48)) + x3) - (nI 28))]) (rest := []) dX11_when_80 kJ9_max_7cf53 lX11_94 rfl rfl (H.use (fun v5 h5 H => ?_))
        have S5 := H.1
        replace H := H.2
        refine z_istore (pc := 83) (ls' := [some (.inr (some (0, 11, 0))), some (.inl x1), some (.inl x2), some (.inl x3), some (.inl x4), some (.inl x5), some (.inr r6), some (.inl (nI 0)), some (.inl ((x2 * (nI 48)) + x3)), some (.inl (nI 0)), some (.inl (-1)), some (.inl (-1)), some (.inl v5), none, none]) dX11_when_83 rfl rfl ?_
        refine z_sipush (pc := 85) (v := (nI 17471)) dX11_when_85 (by decide) ?_
        refine z_iload (pc := 88) dX11_when_88 rfl ?_
        refine z_bipush (pc := 90) (v := (-24)) dX11_when_90 (by decide) ?_
        refine z_isub (pc := 92) dX11_when_92 ?_
        refine y_SI (pc := 93) (bc := bc) (bs := bs) (mc := 0) (ms := 0) (As := [.inl (nI 17471), .inl (((x2 * (nI 48)) + x3) - (-24))]) (rest := []) dX11_when_93 kJ9_min_7cf53 lX11_175 rfl rfl (H.use (fun v6 h6 H => ?_))
        have S6 := H.1
        replace H := H.2
        refine z_istore (pc := 96) (ls' := [some (.inr (some (0, 11, 0))), some (.inl x1), some (.inl x2), some (.inl x3), some (.inl x4), some (.inl x5), some (.inr r6), some (.inl (nI 0)), some (.inl ((x2 * (nI 48)) + x3)), some (.inl (nI 0)), some (.inl (-1)), some (.inl (-1)), some (.inl v5), some (.inl v6), none]) dX11_when_96 rfl rfl ?_
        refine z_iload (pc := 98) dX11_when_98 rfl ?_
        refine z_istore (pc := 100) (ls' := [some (.inr (some (0, 11, 0))), some (.inl x1), some (.inl x2), some (.inl x3), some (.inl x4), some (.inl x5), some (.inr r6), some (.inl (nI 0)), some (.inl ((x2 * (nI 48)) + x3)), some (.inl (nI 0)), some (.inl (-1)), some (.inl (-1)), some (.inl v5), some (.inl v6), some (.inl v5)]) dX11_when_100 rfl rfl ?_
        exact H
      · replace H := H.2 c4
        refine z_iconst (pc := 55) (v := (-1)) dX11_when_55 (by decide) ?_
        exact z_iret (pc := 56) dX11_when_56 rfl rfl ⟨_, rfl, H⟩

set_option maxRecDepth 20000 in
theorem bX11_when_102 {l : Launch} {E : eE} {d bc bs : Nat} {h : aH} {Q : Int32 → aH → Prop} {x1 : Int32} {x2 : Int32} {x3 : Int32} {x4 : Int32} {x5 : Int32} {r6 : aR} {x7 : Int32} {x8 : Int32} {x9 : Int32} {x10 : Int32} {x11 : Int32} {x12 : Int32} {x13 : Int32} {x14 : Int32} (S : SH h) (H : ((x13 < x14 → ((x5 = nI 0 → Q x9 h) ∧ (x5 = nI 1 → Q x10 h) ∧ (x5 = nI 2 → Q x11 h) ∧ ((x5).toInt < 0 ∨ 2 < (x5).toInt → Q (-1) h))) ∧ (¬ x13 < x14 → (∃ p3, r6 = some (0, 4, p3) ∧ (CI l E d 0 0 mX4_offsetAt [.inr (some (0, 4, p3)), .inl x14, .inl x4] h (fun v4 h4 => SH h4 ∧ ((¬ (x14 + v4) = x8 → LX11_when_102 l E (d + 1) bc bs x1 x2 x3 x4 x5 r6 x7 x8 x9 x10 x11 x12 x13 (x14 + (nI 1)) h4 Q) ∧ ((x14 + v4) = x8 → ((¬ x10 = (-1) → LX11_when_102 l E (d + 1) bc bs x1 x2 x3 x4 x5 r6 x7 x8 (x9 + (nI 1)) x10 x14 x12 x13 (x14 + (nI 1)) h4 Q) ∧ (x10 = (-1) → LX11_when_102 l E (d + 1) bc bs x1 x2 x3 x4 x5 r6 x7 x8 (x9 + (nI 1)) x14 x14 x12 x13 (x14 + (nI 1)) h4 Q)))))))))) : LX11_when_102 l E (d + 1) bc bs x1 x2 x3 x4 x5 r6 x7 x8 x9 x10 x11 x12 x13 x14 h Q := by
  refine z_iload (pc := 102) dX11_when_102 rfl ?_
  refine z_iload (pc := 104) dX11_when_104 rfl ?_
  refine z_icmp_gt (pc := 106) (tgt := 154) dX11_when_106 (by decide) (fun c1 => ?_) (fun c1 => ?_)
  · replace H := H.1 c1
    refine z_iload (pc := 154) dX11_when_154 rfl ?_
    refine z_table (pc := 156) (tgtD := 193) [184, 187, 190] dX11_when_156 (by decide) (by decide) (by decide) ?_ (fun c2 => ?_)
    · refine And.intro (fun c2 => ?_) (And.intro (fun c2 => ?_) (And.intro (fun c2 => ?_) (trivial)))
      · replace H := H.1 c2
        refine z_iload (pc := 184) dX11_when_184 rfl ?_
        exact z_iret (pc := 186) dX11_when_186 rfl rfl ⟨_, rfl, H⟩
      · replace H := H.2.1 c2
        refine z_iload (pc := 187) dX11_when_187 rfl ?_
        exact z_iret (pc := 189) dX11_when_189 rfl rfl ⟨_, rfl, H⟩
      · replace H := H.2.2.1 c2
        refine z_iload (pc := 190) dX11_when_190 rfl ?_
        exact z_iret (pc := 192) dX11_when_192 rfl rfl ⟨_, rfl, H⟩
    · replace H := H.2.2.2 c2
      refine z_iconst (pc := 193) (v := (-1)) dX11_when_193 (by decide) ?_
      exact z_iret (pc := 194) dX11_when_194 rfl rfl ⟨_, rfl, H⟩
  · replace H := H.2 c1
    refine z_iload (pc := 109) dX11_when_109 rfl ?_
    refine z_aload (pc := 111) dX11_when_111 rfl ?_
    obtain ⟨p3, e3, H⟩ := H
    refine z_cast e3 ?_
    refine z_iload (pc := 113) dX11_when_113 rfl ?_
    refine z_iload (pc := 115) dX11_when_115 rfl ?_
    refine y_VI (pc := 117) (bc := bc) (bs := bs) (mc := 0) (ms := 0) (As := [.inl x14, .inl x4]) (rest := [.inl x14]) dX11_when_117 kX4_offsetAt lX11_166 ⟨_, _, rfl⟩ rfl rfl (H.use (fun v4 h4 H => ?_))
    have S4 := H.1
    replace H := H.2
    refine z_iadd (pc := 120) dX11_when_120 ?_
    refine z_iload (pc := 121) dX11_when_121 rfl ?_
    refine z_icmp_ne (pc := 123) (tgt := 148) dX11_when_123 (by decide) (fun c5 => ?_) (fun c5 => ?_)
    · replace H := H.1 c5
      refine z_iinc (pc := 148) (v := (x14 + (nI 1))) (ls' := [some (.inr (some (0, 11, 0))), some (.inl x1), some (.inl x2), some (.inl x3), some (.inl x4), some (.inl x5), some (.inr r6), some (.inl x7), some (.inl x8), some (.inl x9), some (.inl x10), some (.inl x11), some (.inl x12), some (.inl x13), some (.inl (x14 + (nI 1)))]) dX11_when_148 rfl (by rw [show Int32.ofInt (1) = (nI 1) by decide]) rfl ?_
      refine z_goto (pc := 151) (tgt := 102) dX11_when_151 (by decide) ?_
      exact H
    · replace H := H.2 c5
      refine z_iinc (pc := 126) (v := (x9 + (nI 1))) (ls' := [some (.inr (some (0, 11, 0))), some (.inl x1), some (.inl x2), some (.inl x3), some (.inl x4), some (.inl x5), some (.inr r6), some (.inl x7), some (.inl x8), some (.inl (x9 + (nI 1))), some (.inl x10), some (.inl x11), some (.inl x12), some (.inl x13), some (.inl x14)]) dX11_when_126 rfl (by rw [show Int32.ofInt (1) = (nI 1) by decide]) rfl ?_
      refine z_iload (pc := 129) dX11_when_129 rfl ?_
      refine z_iconst (pc := 131) (v := (-1)) dX11_when_131 (by decide) ?_
      refine z_icmp_ne (pc := 132) (tgt := 140) dX11_when_132 (by decide) (fun c6 => ?_) (fun c6 => ?_)
      · replace H := H.1 c6
        refine z_iload (pc := 140) dX11_when_140 rfl ?_
        refine z_istore (pc := 142) (ls' := [some (.inr (some (0, 11, 0))), some (.inl x1), some (.inl x2), some (.inl x3), some (.inl x4), some (.inl x5), some (.inr r6), some (.inl x7), some (.inl x8), some (.inl (x9 + (nI 1))), some (.inl x10), some (.inl x11), some (.inl x12), some (.inl x13), some (.inl x14)]) dX11_when_142 rfl rfl ?_
        refine z_iload (pc := 144) dX11_when_144 rfl ?_
        refine z_istore (pc := 146) (ls' := [some (.inr (some (0, 11, 0))), some (.inl x1), some (.inl x2), some (.inl x3), some (.inl x4), some (.inl x5), some (.inr r6), some (.inl x7), some (.inl x8), some (.inl (x9 + (nI 1))), some (.inl x10), some (.inl x14), some (.inl x12), some (.inl x13), some (.inl x14)]) dX11_when_146 rfl rfl ?_
        refine z_iinc (pc := 148) (v := (x14 + (nI 1))) (ls' := [some (.inr (some (0, 11, 0))), some (.inl x1), some (.inl x2), some (.inl x3), some (.inl x4), some (.inl x5), some (.inr r6), some (.inl x7), some (.inl x8), some (.inl (x9 + (nI 1))), some (.inl x10), some (.inl x14), some (.inl x12), some (.inl x13), some (.inl (x14 + (nI 1)))]) dX11_when_148 rfl (by rw [show Int32.ofInt (1) = (nI 1) by decide]) rfl ?_
        refine z_goto (pc := 151) (tgt := 102) dX11_when_151 (by decide) ?_
        exact H
      · replace H := H.2 c6
        refine z_iload (pc := 135) dX11_when_135 rfl ?_
        refine z_goto (pc := 137) (tgt := 142) dX11_when_137 (by decide) ?_
        refine z_istore (pc := 142) (ls' := [some (.inr (some (0, 11, 0))), some (.inl x1), some (.inl x2), some (.inl x3), some (.inl x4), some (.inl x5), some (.inr r6), some (.inl x7), some (.inl x8), some (.inl (x9 + (nI 1))), some (.inl x14), some (.inl x11), some (.inl x12), some (.inl x13), some (.inl x14)]) dX11_when_142 rfl rfl ?_
        refine z_iload (pc := 144) dX11_when_144 rfl ?_
        refine z_istore (pc := 146) (ls' := [some (.inr (some (0, 11, 0))), some (.inl x1), some (.inl x2), some (.inl x3), some (.inl x4), some (.inl x5), some (.inr r6), some (.inl x7), some (.inl x8), some (.inl (x9 + (nI 1))), some (.inl x14), some (.inl x14), some (.inl x12), some (.inl x13), some (.inl x14)]) dX11_when_146 rfl rfl ?_
        refine z_iinc (pc := 148) (v := (x14 + (nI 1))) (ls' := [some (.inr (some (0, 11, 0))), some (.inl x1), some (.inl x2), some (.inl x3), some (.inl x4), some (.inl x5), some (.inr r6), some (.inl x7), some (.inl x8), some (.inl (x9 + (nI 1))), some (.inl x14), some (.inl x14), some (.inl x12), some (.inl x13), some (.inl (x14 + (nI 1)))]) dX11_when_148 rfl (by rw [show Int32.ofInt (1) = (nI 1) by decide]) rfl ?_
        refine z_goto (pc := 151) (tgt := 102) dX11_when_151 (by decide) ?_
        exact H

abbrev LX11_plan_26 (l : Launch) (E : eE) (d bc bs : Nat) (x1 : Int32) (x2 : Int32) (x3 : Int32) (x4 : Int32) (r5 : aR) (h : aH) (Q : Int32 → aH → Prop) : Prop := TI l E mX11_plan d bc bs 26 [some (.inr (some (0, 11, 0))), some (.inl x1), some (.inl x2), some (.inl x3), some (.inl x4), some (.inr r5), none, none, none] [] h Q

abbrev LX11_plan_96 (l : Launch) (E : eE) (d bc bs : Nat) (x1 : Int32) (x2 : Int32) (x3 : Int32) (x4 : Int32) (r5 : aR) (x6 : Int32) (r7 : aR) (x8 : Int32) (h : aH) (Q : Int32 → aH → Prop) : Prop := TI l E mX11_plan d bc bs 96 [some (.inr (some (0, 11, 0))), some (.inl x1), some (.inl x2), some (.inl x3), some (.inl x4), some (.inr r5), some (.inl x6), some (.inr r7), some (.inl x8)] [] h Q

abbrev LX11_plan_200 (l : Launch) (E : eE) (d bc bs : Nat) (x1 : Int32) (x2 : Int32) (x3 : Int32) (x4 : Int32) (r5 : aR) (x6 : Int32) (r7 : aR) (x8 : Int32) (h : aH) (Q : Int32 → aH → Prop) : Prop := TI l E mX11_plan d bc bs 200 [some (.inr (some (0, 11, 0))), some (.inl x1), some (.inl x2), some (.inl x3), some (.inl x4), some (.inr r5), some (.inl x6), some (.inr r7), some (.inl x8)] [] h Q

set_option maxRecDepth 20000 in
theorem bX11_plan_0 {l : Launch} {E : eE} {d bc bs : Nat} {h : aH} {Q : Int32 → aH → Prop} {x1 : Int32} {x2 : Int32} {x3 : Int32} {x4 : Int32} (S : SH h) (H : (CR l E d 0 0 mX11_seriesAt [.inr (some (0, 11, 0)), .inl x1] h (fun v1 h1 => SH h1 ∧ ((x2 < 0 → LX11_plan_26 l E (d + 1) bc bs x1 x2 x3 x4 v1 h1 Q) ∧ (¬ x2 < 0 → ((x3 ≤ x2 → LX11_plan_26 l E (d + 1) bc bs x1 x2 x3 x4 v1 h1 Q) ∧ (¬ x3 ≤ x2 → (((nI 52) < x3 → LX11_plan_26 l E (d + 1) bc bs x1 x2 x3 x4 v1 h1 Q) ∧ (¬ (nI 52) < x3 → ((v1 = none → Q (-2) h1) ∧ (∀ q5, v1 = some q5 → (CI l E d 0 0 mX11_isKnown [.inr (some (0, 11, 0)), .inl x4] h1 (fun v6 h6 => SH h6 ∧ ((v6 = 0 → Q (-2) h6) ∧ (¬ v6 = 0 → (((nI 1) = 0 → Q (-2) h6) ∧ (¬ (nI 1) = 0 → (∃ p9, v1 = some (0, 9, p9) ∧ (CI l E d 0 0 mX9_mostWeeks [.inr (some (0, 9, p9))] h6 (fun v10 h10 => SH h10 ∧ (((x3 - x2) ≤ v10 → (vp_in (hI (stI h10 0 13 (nI 0)) p9 0) 4 ∧ (CV l E d 0 0 mX7_begin [.inr (some (0, 7, 27)), .inl (x3 - x2), .inl (hI h10 0 10)] (stI h10 0 13 (nI 0)) (fun h13 => SH h13 ∧ LX11_plan_96 l E (d + 1) bc bs x1 x2 x3 x4 v1 (nI 1) ((hQ (stI h10 0 13 (nI 0)) 4 ((hI (stI h10 0 13 (nI 0)) p9 0)).toNatClampNeg)) (nI 0) h13 Q)))) ∧ (¬ (x3 - x2) ≤ v10 → Q (-2) h10)))))))))))))))))))))) : CI l E (d + 1) bc bs mX11_plan [.inr (some (0, 11, 0)), .inl x1, .inl x2, .inl x3, .inl x4] h Q := by
  refine CI.of (by decide) rfl ?_
  show TI l E mX11_plan (d + 1) bc bs 0 [some (.inr (some (0, 11, 0))), some (.inl x1), some (.inl x2), some (.inl x3), some (.inl x4), none, none, none, none] [] h Q
  refine z_aload_n (pc := 0) dX11_plan_0 rfl rfl ?_
  refine z_iload_n (pc := 1) dX11_plan_1 rfl rfl ?_
  refine y_VR (pc := 2) (bc := bc) (bs := bs) (mc := 0) (ms := 0) (As := [.inl x1]) (rest := []) dX11_plan_2 kX11_seriesAt lX11_110 ⟨_, _, rfl⟩ rfl rfl (H.use (fun v1 h1 H => ?_))
  have S1 := H.1
  replace H := H.2
  refine z_astore (pc := 5) (ls' := [some (.inr (some (0, 11, 0))), some (.inl x1), some (.inl x2), some (.inl x3), some (.inl x4), some (.inr v1), none, none, none]) dX11_plan_5 rfl rfl ?_
  refine z_iload_n (pc := 7) dX11_plan_7 rfl rfl ?_
  refine z_if_lt (pc := 8) (tgt := 26) dX11_plan_8 (by decide) (fun c2 => ?_) (fun c2 => ?_)
  · replace H := H.1 c2
    exact H
  · replace H := H.2 c2
    refine z_iload_n (pc := 11) dX11_plan_11 rfl rfl ?_
    refine z_iload_n (pc := 12) dX11_plan_12 rfl rfl ?_
    refine z_icmp_ge (pc := 13) (tgt := 26) dX11_plan_13 (by decide) (fun c3 => ?_) (fun c3 => ?_)
    · replace H := H.1 c3
      exact H
    · replace H := H.2 c3
      refine z_iload_n (pc := 16) dX11_plan_16 rfl rfl ?_
      refine z_bipush (pc := 17) (v := (nI 52)) dX11_plan_17 (by decide) ?_
      refine z_icmp_gt (pc := 19) (tgt := 26) dX11_plan_19 (by decide) (fun c4 => ?_) (fun c4 => ?_)
      · replace H := H.1 c4
        exact H
      · replace H := H.2 c4
        refine z_iconst (pc := 22) (v := (nI 1)) dX11_plan_22 (by decide) ?_
        refine z_goto (pc := 23) (tgt := 27) dX11_plan_23 (by decide) ?_
        refine z_istore (pc := 27) (ls' := [some (.inr (some (0, 11, 0))), some (.inl x1), some (.inl x2), some (.inl x3), some (.inl x4), some (.inr v1), some (.inl (nI 1)), none, none]) dX11_plan_27 rfl rfl ?_
        refine z_aload (pc := 29) dX11_plan_29 rfl ?_
        refine z_ifnull (pc := 31) (tgt := 59) dX11_plan_31 (by decide) (fun c5 => ?_) (fun q5 c5 => ?_)
        · replace H := H.1 c5
          refine z_bipush (pc := 59) (v := (-2)) dX11_plan_59 (by decide) ?_
          exact z_iret (pc := 61) dX11_plan_61 rfl rfl ⟨_, rfl, H⟩
        · replace H := H.2 q5 c5
          refine z_aload_n (pc := 34) dX11_plan_34 rfl rfl ?_
          refine z_iload (pc := 35) dX11_plan_35 rfl ?_
          refine y_VI (pc := 37) (bc := bc) (bs := bs) (mc := 0) (ms := 0) (As := [.inl x4]) (rest := []) dX11_plan_37 kX11_isKnown lX11_162 ⟨_, _, rfl⟩ rfl rfl (H.use (fun v6 h6 H => ?_))
          have S6 := H.1
          replace H := H.2
          refine z_if_eq (pc := 40) (tgt := 59) dX11_plan_40 (by decide) (fun c7 => ?_) (fun c7 => ?_)
          · replace H := H.1 c7
            refine z_bipush (pc := 59) (v := (-2)) dX11_plan_59 (by decide) ?_
            exact z_iret (pc := 61) dX11_plan_61 rfl rfl ⟨_, rfl, H⟩
          · replace H := H.2 c7
            refine z_iload (pc := 43) dX11_plan_43 rfl ?_
            refine z_if_eq (pc := 45) (tgt := 59) dX11_plan_45 (by decide) (fun c8 => ?_) (fun c8 => ?_)
            · replace H := H.1 c8
              refine z_bipush (pc := 59) (v := (-2)) dX11_plan_59 (by decide) ?_
              exact z_iret (pc := 61) dX11_plan_61 rfl rfl ⟨_, rfl, H⟩
            · replace H := H.2 c8
              refine z_iload_n (pc := 48) dX11_plan_48 rfl rfl ?_
              refine z_iload_n (pc := 49) dX11_plan_49 rfl rfl ?_
              refine z_isub (pc := 50) dX11_plan_50 ?_
              refine z_aload (pc := 51) dX11_plan_51 rfl ?_
              obtain ⟨p9, e9, H⟩ := H
              refine z_cast e9 ?_
              refine y_VI (pc := 53) (bc := bc) (bs := bs) (mc := 0) (ms := 0) (As := []) (rest := [.inl (x3 - x2)]) dX11_plan_53 kX9_mostWeeks lX11_223 ⟨_, _, rfl⟩ rfl rfl (H.use (fun v10 h10 H => ?_))
              have S10 := H.1
              replace H := H.2
              refine z_icmp_le (pc := 56) (tgt := 62) dX11_plan_56 (by decide) (fun c11 => ?_) (fun c11 => ?_)
              · replace H := H.1 c11
                refine z_aload_n (pc := 62) dX11_plan_62 rfl rfl ?_
                refine z_iconst (pc := 63) (v := (nI 0)) dX11_plan_63 (by decide) ?_
                refine z_puti (pc := 64) dX11_plan_64 fX11_226 (uX11_13 _) rfl rfl rfl ?_
                refine z_aload_n (pc := 67) dX11_plan_67 rfl rfl ?_
                refine z_getk (pc := 68) dX11_plan_68 fX11_29 rfl (s_0_3 S10) ?_
                refine z_aload (pc := 71) dX11_plan_71 rfl ?_
                refine z_cast e9 ?_
                refine z_geti (pc := 73) dX11_plan_73 fX11_207 rfl ?_
                have c12 := H.1
                replace H := H.2
                refine z_aald (pc := 76) dX11_plan_76 rfl rfl rfl c12 ?_
                refine z_astore (pc := 77) (ls' := [some (.inr (some (0, 11, 0))), some (.inl x1), some (.inl x2), some (.inl x3), some (.inl x4), some (.inr v1), some (.inl (nI 1)), some (.inr ((hQ (stI h10 0 13 (nI 0)) 4 ((hI (stI h10 0 13 (nI 0)) p9 0)).toNatClampNeg))), none]) dX11_plan_77 rfl rfl ?_
                refine z_aload_n (pc := 79) dX11_plan_79 rfl rfl ?_
                refine z_getk (pc := 80) dX11_plan_80 fX11_51 rfl (s_0_6 S10) ?_
                refine z_iload_n (pc := 83) dX11_plan_83 rfl rfl ?_
                refine z_iload_n (pc := 84) dX11_plan_84 rfl rfl ?_
                refine z_isub (pc := 85) dX11_plan_85 ?_
                refine z_aload_n (pc := 86) dX11_plan_86 rfl rfl ?_
                refine z_geti (pc := 87) dX11_plan_87 fX11_84 rfl ?_
                refine y_VV (pc := 90) (bc := bc) (bs := bs) (mc := 0) (ms := 0) (As := [.inl (x3 - x2), .inl (hI h10 0 10)]) (rest := []) dX11_plan_90 kX7_begin lX11_229 ⟨_, _, rfl⟩ rfl rfl (H.use (fun h13 H => ?_))
                have S13 := H.1
                replace H := H.2
                refine z_iconst (pc := 93) (v := (nI 0)) dX11_plan_93 (by decide) ?_
                refine z_istore (pc := 94) (ls' := [some (.inr (some (0, 11, 0))), some (.inl x1), some (.inl x2), some (.inl x3), some (.inl x4), some (.inr v1), some (.inl (nI 1)), some (.inr ((hQ (stI h10 0 13 (nI 0)) 4 ((hI (stI h10 0 13 (nI 0)) p9 0)).toNatClampNeg))), some (.inl (nI 0))]) dX11_plan_94 rfl rfl ?_
                exact H
              · replace H := H.2 c11
                refine z_bipush (pc := 59) (v := (-2)) dX11_plan_59 (by decide) ?_
                exact z_iret (pc := 61) dX11_plan_61 rfl rfl ⟨_, rfl, H⟩

set_option maxRecDepth 20000 in
theorem bX11_plan_26 {l : Launch} {E : eE} {d bc bs : Nat} {h : aH} {Q : Int32 → aH → Prop} {x1 : Int32} {x2 : Int32} {x3 : Int32} {x4 : Int32} {r5 : aR} (S : SH h) (H : ((r5 = none → Q (-2) h) ∧ (∀ q1, r5 = some q1 → (CI l E d 0 0 mX11_isKnown [.inr (some (0, 11, 0)), .inl x4] h (fun v2 h2 => SH h2 ∧ ((v2 = 0 → Q (-2) h2) ∧ (¬ v2 = 0 → (((nI 0) = 0 → Q (-2) h2) ∧ (¬ (nI 0) = 0 → (∃ p5, r5 = some (0, 9, p5) ∧ (CI l E d 0 0 mX9_mostWeeks [.inr (some (0, 9, p5))] h2 (fun v6 h6 => SH h6 ∧ (((x3 - x2) ≤ v6 → (vp_in (hI (stI h6 0 13 (nI 0)) p5 0) 4 ∧ (CV l E d 0 0 mX7_begin [.inr (some (0, 7, 27)), .inl (x3 - x2), .inl (hI h6 0 10)] (stI h6 0 13 (nI 0)) (fun h9 => SH h9 ∧ LX11_plan_96 l E (d + 1) bc bs x1 x2 x3 x4 r5 (nI 0) ((hQ (stI h6 0 13 (nI 0)) 4 ((hI (stI h6 0 13 (nI 0)) p5 0)).toNatClampNeg)) (nI 0) h9 Q)))) ∧ (¬ (x3 - x2) ≤ v6 → Q (-2) h6)))))))))))))) : LX11_plan_26 l E (d + 1) bc bs x1 x2 x3 x4 r5 h Q := by
  refine z_iconst (pc := 26) (v := (nI 0)) dX11_plan_26 (by decide) ?_
  refine z_istore (pc := 27) (ls' := [some (.inr (some (0, 11, 0))), some (.inl x1), some (.inl x2), some (.inl x3), some (.inl x4), some (.inr r5), some (.inl (nI 0)), none, none]) dX11_plan_27 rfl rfl ?_
  refine z_aload (pc := 29) dX11_plan_29 rfl ?_
  refine z_ifnull (pc := 31) (tgt := 59) dX11_plan_31 (by decide) (fun c1 => ?_) (fun q1 c1 => ?_)
  · replace H := H.1 c1
    refine z_bipush (pc := 59) (v := (-2)) dX11_plan_59 (by decide) ?_
    exact z_iret (pc := 61) dX11_plan_61 rfl rfl ⟨_, rfl, H⟩
  · replace H := H.2 q1 c1
    refine z_aload_n (pc := 34) dX11_plan_34 rfl rfl ?_
    refine z_iload (pc := 35) dX11_plan_35 rfl ?_
    refine y_VI (pc := 37) (bc := bc) (bs := bs) (mc := 0) (ms := 0) (As := [.inl x4]) (rest := []) dX11_plan_37 kX11_isKnown lX11_162 ⟨_, _, rfl⟩ rfl rfl (H.use (fun v2 h2 H => ?_))
    have S2 := H.1
    replace H := H.2
    refine z_if_eq (pc := 40) (tgt := 59) dX11_plan_40 (by decide) (fun c3 => ?_) (fun c3 => ?_)
    · replace H := H.1 c3
      refine z_bipush (pc := 59) (v := (-2)) dX11_plan_59 (by decide) ?_
      exact z_iret (pc := 61) dX11_plan_61 rfl rfl ⟨_, rfl, H⟩
    · replace H := H.2 c3
      refine z_iload (pc := 43) dX11_plan_43 rfl ?_
      refine z_if_eq (pc := 45) (tgt := 59) dX11_plan_45 (by decide) (fun c4 => ?_) (fun c4 => ?_)
      · replace H := H.1 c4
        refine z_bipush (pc := 59) (v := (-2)) dX11_plan_59 (by decide) ?_
        exact z_iret (pc := 61) dX11_plan_61 rfl rfl ⟨_, rfl, H⟩
      · replace H := H.2 c4
        refine z_iload_n (pc := 48) dX11_plan_48 rfl rfl ?_
        refine z_iload_n (pc := 49) dX11_plan_49 rfl rfl ?_
        refine z_isub (pc := 50) dX11_plan_50 ?_
        refine z_aload (pc := 51) dX11_plan_51 rfl ?_
        obtain ⟨p5, e5, H⟩ := H
        refine z_cast e5 ?_
        refine y_VI (pc := 53) (bc := bc) (bs := bs) (mc := 0) (ms := 0) (As := []) (rest := [.inl (x3 - x2)]) dX11_plan_53 kX9_mostWeeks lX11_223 ⟨_, _, rfl⟩ rfl rfl (H.use (fun v6 h6 H => ?_))
        have S6 := H.1
        replace H := H.2
        refine z_icmp_le (pc := 56) (tgt := 62) dX11_plan_56 (by decide) (fun c7 => ?_) (fun c7 => ?_)
        · replace H := H.1 c7
          refine z_aload_n (pc := 62) dX11_plan_62 rfl rfl ?_
          refine z_iconst (pc := 63) (v := (nI 0)) dX11_plan_63 (by decide) ?_
          refine z_puti (pc := 64) dX11_plan_64 fX11_226 (uX11_13 _) rfl rfl rfl ?_
          refine z_aload_n (pc := 67) dX11_plan_67 rfl rfl ?_
          refine z_getk (pc := 68) dX11_plan_68 fX11_29 rfl (s_0_3 S6) ?_
          refine z_aload (pc := 71) dX11_plan_71 rfl ?_
          refine z_cast e5 ?_
          refine z_geti (pc := 73) dX11_plan_73 fX11_207 rfl ?_
          have c8 := H.1
          replace H := H.2
          refine z_aald (pc := 76) dX11_plan_76 rfl rfl rfl c8 ?_
          refine z_astore (pc := 77) (ls' := [some (.inr (some (0, 11, 0))), some (.inl x1), some (.inl x2), some (.inl x3), some (.inl x4), some (.inr r5), some (.inl (nI 0)), some (.inr ((hQ (stI h6 0 13 (nI 0)) 4 ((hI (stI h6 0 13 (nI 0)) p5 0)).toNatClampNeg))), none]) dX11_plan_77 rfl rfl ?_
          refine z_aload_n (pc := 79) dX11_plan_79 rfl rfl ?_
          refine z_getk (pc := 80) dX11_plan_80 fX11_51 rfl (s_0_6 S6) ?_
          refine z_iload_n (pc := 83) dX11_plan_83 rfl rfl ?_
          refine z_iload_n (pc := 84) dX11_plan_84 rfl rfl ?_
          refine z_isub (pc := 85) dX11_plan_85 ?_
          refine z_aload_n (pc := 86) dX11_plan_86 rfl rfl ?_
          refine z_geti (pc := 87) dX11_plan_87 fX11_84 rfl ?_
          refine y_VV (pc := 90) (bc := bc) (bs := bs) (mc := 0) (ms := 0) (As := [.inl (x3 - x2), .inl (hI h6 0 10)]) (rest := []) dX11_plan_90 kX7_begin lX11_229 ⟨_, _, rfl⟩ rfl rfl (H.use (fun h9 H => ?_))
          have S9 := H.1
          replace H := H.2
          refine z_iconst (pc := 93) (v := (nI 0)) dX11_plan_93 (by decide) ?_
          refine z_istore (pc := 94) (ls' := [some (.inr (some (0, 11, 0))), some (.inl x1), some (.inl x2), some (.inl x3), some (.inl x4), some (.inr r5), some (.inl (nI 0)), some (.inr ((hQ (stI h6 0 13 (nI 0)) 4 ((hI (stI h6 0 13 (nI 0)) p5 0)).toNatClampNeg))), some (.inl (nI 0))]) dX11_plan_94 rfl rfl ?_
          exact H
        · replace H := H.2 c7
          refine z_bipush (pc := 59) (v := (-2)) dX11_plan_59 (by decide) ?_
          exact z_iret (pc := 61) dX11_plan_61 rfl rfl ⟨_, rfl, H⟩

set_option maxRecDepth 20000 in
theorem bX11_plan_96 {l : Launch} {E : eE} {d bc bs : Nat} {h : aH} {Q : Int32 → aH → Prop} {x1 : Int32} {x2 : Int32} {x3 : Int32} {x4 : Int32} {r5 : aR} {x6 : Int32} {r7 : aR} {x8 : Int32} (S : SH h) (H : (((x3 - x2) ≤ x8 → (CV l E d 0 0 mX7_findBest [.inr (some (0, 7, 27))] h (fun h2 => SH h2 ∧ LX11_plan_200 l E (d + 1) bc bs x1 x2 x3 x4 r5 x6 r7 (nI 0) h2 Q))) ∧ (¬ (x3 - x2) ≤ x8 → (∃ p3, r5 = some (0, 9, p3) ∧ (CV l E d 0 0 mX11_seatLesser [.inr (some (0, 11, 0)), .inr (some (0, 9, p3)), .inl (x2 + x8), .inl x4] h (fun h4 => SH h4 ∧ (∃ p5, r7 = some (0, 10, p5) ∧ isSh p5 ∧ (CI l E d 0 0 mX9_allOptions [.inr (some (0, 9, p3))] h4 (fun v6 h6 => SH h6 ∧ (CI l E d 0 0 mX9_everyone [.inr (some (0, 9, p3))] h6 (fun v7 h7 => SH h7 ∧ (CV l E d 0 0 mX10_fill [.inr (some (0, 10, p5)), .inr (some (0, 9, p3)), .inl v6, .inl (x2 + x8), .inl x4, .inl v7, .inr (some (14, 12, 2))] h7 (fun h8 => SH h8 ∧ (CI l E d 0 0 mX7_rate [.inr (some (0, 7, 27)), .inl x8, .inr (some (0, 9, p3)), .inr (some (0, 10, p5)), .inr (some (0, 1, 21))] h8 (fun v9 h9 => SH h9 ∧ ((¬ v9 = 0 → LX11_plan_96 l E (d + 1) bc bs x1 x2 x3 x4 r5 x6 r7 (x8 + (nI 1)) h9 Q) ∧ (v9 = 0 → (CI l E d 0 0 mX0_find [.inr (some (0, 0, 59)), .inr (some (0, 9, p3)), .inr (some (0, 10, p5)), .inr (some (0, 1, 21))] h9 (fun v11 h11 => SH h11 ∧ Q (-1) (stI h11 0 13 v11)))))))))))))))))))) : LX11_plan_96 l E (d + 1) bc bs x1 x2 x3 x4 r5 x6 r7 x8 h Q := by
  refine z_iload (pc := 96) dX11_plan_96 rfl ?_
  refine z_iload_n (pc := 98) dX11_plan_98 rfl rfl ?_
  refine z_iload_n (pc := 99) dX11_plan_99 rfl rfl ?_
  refine z_isub (pc := 100) dX11_plan_100 ?_
  refine z_icmp_ge (pc := 101) (tgt := 190) dX11_plan_101 (by decide) (fun c1 => ?_) (fun c1 => ?_)
  · replace H := H.1 c1
    refine z_aload_n (pc := 190) dX11_plan_190 rfl rfl ?_
    refine z_getk (pc := 191) dX11_plan_191 fX11_51 rfl (s_0_6 S) ?_
    refine y_VV (pc := 194) (bc := bc) (bs := bs) (mc := 0) (ms := 0) (As := []) (rest := []) dX11_plan_194 kX7_findBest lX11_243 ⟨_, _, rfl⟩ rfl rfl (H.use (fun h2 H => ?_))
    have S2 := H.1
    replace H := H.2
    refine z_iconst (pc := 197) (v := (nI 0)) dX11_plan_197 (by decide) ?_
    refine z_istore (pc := 198) (ls' := [some (.inr (some (0, 11, 0))), some (.inl x1), some (.inl x2), some (.inl x3), some (.inl x4), some (.inr r5), some (.inl x6), some (.inr r7), some (.inl (nI 0))]) dX11_plan_198 rfl rfl ?_
    exact H
  · replace H := H.2 c1
    refine z_aload_n (pc := 104) dX11_plan_104 rfl rfl ?_
    refine z_aload (pc := 105) dX11_plan_105 rfl ?_
    obtain ⟨p3, e3, H⟩ := H
    refine z_cast e3 ?_
    refine z_iload_n (pc := 107) dX11_plan_107 rfl rfl ?_
    refine z_iload (pc := 108) dX11_plan_108 rfl ?_
    refine z_iadd (pc := 110) dX11_plan_110 ?_
    refine z_iload (pc := 111) dX11_plan_111 rfl ?_
    refine y_VV (pc := 113) (bc := bc) (bs := bs) (mc := 0) (ms := 0) (As := [.inr (some (0, 9, p3)), .inl (x2 + x8), .inl x4]) (rest := []) dX11_plan_113 kX11_seatLesser lX11_203 ⟨_, _, rfl⟩ rfl rfl (H.use (fun h4 H => ?_))
    have S4 := H.1
    replace H := H.2
    refine z_aload (pc := 116) dX11_plan_116 rfl ?_
    obtain ⟨p5, e5, gp5, H⟩ := H
    refine z_cast e5 ?_
    refine z_aload (pc := 118) dX11_plan_118 rfl ?_
    refine z_cast e3 ?_
    refine z_aload (pc := 120) dX11_plan_120 rfl ?_
    refine z_cast e3 ?_
    refine y_VI (pc := 122) (bc := bc) (bs := bs) (mc := 0) (ms := 0) (As := []) (rest := [.inr (some (0, 9, p3)), .inr (some (0, 10, p5))]) dX11_plan_122 kX9_allOptions lX11_232 ⟨_, _, rfl⟩ rfl rfl (H.use (fun v6 h6 H => ?_))
    have S6 := H.1
    replace H := H.2
    refine z_iload_n (pc := 125) dX11_plan_125 rfl rfl ?_
    refine z_iload (pc := 126) dX11_plan_126 rfl ?_
    refine z_iadd (pc := 128) dX11_plan_128 ?_
    refine z_iload (pc := 129) dX11_plan_129 rfl ?_
    refine z_aload (pc := 131) dX11_plan_131 rfl ?_
    refine z_cast e3 ?_
    refine y_VI (pc := 133) (bc := bc) (bs := bs) (mc := 0) (ms := 0) (As := []) (rest := [.inl x4, .inl (x2 + x8), .inl v6, .inr (some (0, 9, p3)), .inr (some (0, 10, p5))]) dX11_plan_133 kX9_everyone lX11_212 ⟨_, _, rfl⟩ rfl rfl (H.use (fun v7 h7 H => ?_))
    have S7 := H.1
    replace H := H.2
    refine z_aload_n (pc := 136) dX11_plan_136 rfl rfl ?_
    refine z_getk (pc := 137) dX11_plan_137 fX11_17 rfl (s_0_1 S7) ?_
    refine y_VV (pc := 140) (bc := bc) (bs := bs) (mc := 0) (ms := 0) (As := [.inr (some (0, 9, p3)), .inl v6, .inl (x2 + x8), .inl x4, .inl v7, .inr (some (14, 12, 2))]) (rest := []) dX11_plan_140 kX10_fill lX11_215 ⟨_, _, rfl⟩ rfl rfl (H.use (fun h8 H => ?_))
    have S8 := H.1
    replace H := H.2
    refine z_aload_n (pc := 143) dX11_plan_143 rfl rfl ?_
    refine z_getk (pc := 144) dX11_plan_144 fX11_51 rfl (s_0_6 S8) ?_
    refine z_iload (pc := 147) dX11_plan_147 rfl ?_
    refine z_aload (pc := 149) dX11_plan_149 rfl ?_
    refine z_cast e3 ?_
    refine z_aload (pc := 151) dX11_plan_151 rfl ?_
    refine z_cast e5 ?_
    refine z_aload_n (pc := 153) dX11_plan_153 rfl rfl ?_
    refine z_getk (pc := 154) dX11_plan_154 fX11_37 rfl (s_0_4 S8) ?_
    refine y_VI (pc := 157) (bc := bc) (bs := bs) (mc := 0) (ms := 0) (As := [.inl x8, .inr (some (0, 9, p3)), .inr (some (0, 10, p5)), .inr (some (0, 1, 21))]) (rest := []) dX11_plan_157 kX7_rate lX11_235 ⟨_, _, rfl⟩ rfl rfl (H.use (fun v9 h9 H => ?_))
    have S9 := H.1
    replace H := H.2
    refine z_if_ne (pc := 160) (tgt := 184) dX11_plan_160 (by decide) (fun c10 => ?_) (fun c10 => ?_)
    · replace H := H.1 c10
      refine z_iinc (pc := 184) (v := (x8 + (nI 1))) (ls' := [some (.inr (some (0, 11, 0))), some (.inl x1), some (.inl x2), some (.inl x3), some (.inl x4), some (.inr r5), some (.inl x6), some (.inr r7), some (.inl (x8 + (nI 1)))]) dX11_plan_184 rfl (by rw [show Int32.ofInt (1) = (nI 1) by decide]) rfl ?_
      refine z_goto (pc := 187) (tgt := 96) dX11_plan_187 (by decide) ?_
      exact H
    · replace H := H.2 c10
      refine z_aload_n (pc := 163) dX11_plan_163 rfl rfl ?_
      refine z_aload_n (pc := 164) dX11_plan_164 rfl rfl ?_
      refine z_getk (pc := 165) dX11_plan_165 fX11_65 rfl (s_0_8 S9) ?_
      refine z_aload (pc := 168) dX11_plan_168 rfl ?_
      refine z_cast e3 ?_
      refine z_aload (pc := 170) dX11_plan_170 rfl ?_
      refine z_cast e5 ?_
      refine z_aload_n (pc := 172) dX11_plan_172 rfl rfl ?_
      refine z_getk (pc := 173) dX11_plan_173 fX11_37 rfl (s_0_4 S9) ?_
      refine y_VI (pc := 176) (bc := bc) (bs := bs) (mc := 0) (ms := 0) (As := [.inr (some (0, 9, p3)), .inr (some (0, 10, p5)), .inr (some (0, 1, 21))]) (rest := [.inr (some (0, 11, 0))]) dX11_plan_176 kX0_find lX11_239 ⟨_, _, rfl⟩ rfl rfl (H.use (fun v11 h11 H => ?_))
      have S11 := H.1
      replace H := H.2
      refine z_puti (pc := 179) dX11_plan_179 fX11_226 (uX11_13 _) rfl rfl rfl ?_
      refine z_iconst (pc := 182) (v := (-1)) dX11_plan_182 (by decide) ?_
      exact z_iret (pc := 183) dX11_plan_183 rfl rfl ⟨_, rfl, H⟩

set_option maxRecDepth 20000 in
theorem bX11_plan_200 {l : Launch} {E : eE} {d bc bs : Nat} {h : aH} {Q : Int32 → aH → Prop} {x1 : Int32} {x2 : Int32} {x3 : Int32} {x4 : Int32} {r5 : aR} {x6 : Int32} {r7 : aR} {x8 : Int32} (S : SH h) (H : (((x3 - x2) ≤ x8 → (CI l E d 0 0 mX2_greatest [.inr (some (0, 2, 28))] h (fun v2 h2 => SH h2 ∧ Q v2 h2))) ∧ (¬ (x3 - x2) ≤ x8 → (∃ p3, r5 = some (0, 9, p3) ∧ (∃ p4, (hR h p3 6) = some (1, 52, p4) ∧ (vp_in x8 6 ∧ (vp_in (x2 + x8) 52 ∧ LX11_plan_200 l E (d + 1) bc bs x1 x2 x3 x4 r5 x6 r7 (x8 + (nI 1)) (stA h p4 ((x2 + x8)).toNatClampNeg (hA h 32 (x8).toNatClampNeg)) Q))))))) : LX11_plan_200 l E (d + 1) bc bs x1 x2 x3 x4 r5 x6 r7 x8 h Q := by
  refine z_iload (pc := 200) dX11_plan_200 rfl ?_
  refine z_iload_n (pc := 202) dX11_plan_202 rfl rfl ?_
  refine z_iload_n (pc := 203) dX11_plan_203 rfl rfl ?_
  refine z_isub (pc := 204) dX11_plan_204 ?_
  refine z_icmp_ge (pc := 205) (tgt := 234) dX11_plan_205 (by decide) (fun c1 => ?_) (fun c1 => ?_)
  · replace H := H.1 c1
    refine z_aload_n (pc := 234) dX11_plan_234 rfl rfl ?_
    refine z_getk (pc := 235) dX11_plan_235 fX11_51 rfl (s_0_6 S) ?_
    refine z_getk (pc := 238) dX11_plan_238 fX11_252 rfl (s_27_0 S) ?_
    refine y_VI (pc := 241) (bc := bc) (bs := bs) (mc := 0) (ms := 0) (As := []) (rest := []) dX11_plan_241 kX2_greatest lX11_256 ⟨_, _, rfl⟩ rfl rfl (H.use (fun v2 h2 H => ?_))
    have S2 := H.1
    replace H := H.2
    exact z_iret (pc := 244) dX11_plan_244 rfl rfl ⟨_, rfl, H⟩
  · replace H := H.2 c1
    refine z_aload (pc := 208) dX11_plan_208 rfl ?_
    obtain ⟨p3, e3, H⟩ := H
    refine z_cast e3 ?_
    refine z_getr (pc := 210) dX11_plan_210 fX11_246 rfl ?_
    obtain ⟨p4, e4, H⟩ := H
    refine z_cast e4 ?_
    refine z_iload_n (pc := 213) dX11_plan_213 rfl rfl ?_
    refine z_iload (pc := 214) dX11_plan_214 rfl ?_
    refine z_iadd (pc := 216) dX11_plan_216 ?_
    refine z_aload_n (pc := 217) dX11_plan_217 rfl rfl ?_
    refine z_getk (pc := 218) dX11_plan_218 fX11_51 rfl (s_0_6 S) ?_
    refine z_getk (pc := 221) dX11_plan_221 fX11_249 rfl (s_27_2 S) ?_
    refine z_iload (pc := 224) dX11_plan_224 rfl ?_
    have c5 := H.1
    replace H := H.2
    refine z_iald (pc := 226) dX11_plan_226 c5 ?_
    have c6 := H.1
    replace H := H.2
    refine z_iast (pc := 227) dX11_plan_227 c6 ?_
    refine z_iinc (pc := 228) (v := (x8 + (nI 1))) (ls' := [some (.inr (some (0, 11, 0))), some (.inl x1), some (.inl x2), some (.inl x3), some (.inl x4), some (.inr r5), some (.inl x6), some (.inr r7), some (.inl (x8 + (nI 1)))]) dX11_plan_228 rfl (by rw [show Int32.ofInt (1) = (nI 1) by decide]) rfl ?_
    refine z_goto (pc := 231) (tgt := 200) dX11_plan_231 (by decide) ?_
    exact H

set_option maxRecDepth 20000 in
theorem bX11_fits_0 {l : Launch} {E : eE} {d bc bs : Nat} {h : aH} {Q : Int32 → aH → Prop} {x1 : Int32} {x2 : Int32} {x3 : Int32} {x4 : Int32} {x5 : Int32} (S : SH h) (H : (CR l E d 0 0 mX11_seriesAt [.inr (some (0, 11, 0)), .inl x1] h (fun v1 h1 => SH h1 ∧ ((v1 = none → Q (-1) h1) ∧ (∀ q2, v1 = some q2 → (CI l E d 0 0 mX11_isWeek [.inl x2] h1 (fun v3 h3 => SH h3 ∧ ((v3 = 0 → Q (-1) h3) ∧ (¬ v3 = 0 → (CI l E d 0 0 mX11_isKnown [.inr (some (0, 11, 0)), .inl x5] h3 (fun v5 h5 => SH h5 ∧ ((¬ v5 = 0 → (∃ p7, v1 = some (0, 9, p7) ∧ (CI l E d 0 0 mX9_choiceOf [.inr (some (0, 9, p7)), .inl x3, .inl x4] h5 (fun v8 h8 => SH h8 ∧ ((¬ v8 = (-1) → (CV l E d 0 0 mX11_seatLesser [.inr (some (0, 11, 0)), .inr (some (0, 9, p7)), .inl x2, .inl x5] h8 (fun h10 => SH h10 ∧ (vp_in (hI h10 p7 0) 4 ∧ (∃ p12, (hQ h10 4 ((hI h10 p7 0)).toNatClampNeg) = some (0, 10, p12) ∧ isSh p12 ∧ (CI l E d 0 0 mX9_optionsOf [.inr (some (0, 9, p7)), .inl v8] h10 (fun v13 h13 => SH h13 ∧ (CI l E d 0 0 mX9_everyone [.inr (some (0, 9, p7))] h13 (fun v14 h14 => SH h14 ∧ (CV l E d 0 0 mX10_fill [.inr (some (0, 10, p12)), .inr (some (0, 9, p7)), .inl v13, .inl x2, .inl x5, .inl v14, .inr (some (14, 12, 2))] h14 (fun h15 => SH h15 ∧ (CI l E d 0 0 mX8_suits [.inr (some (0, 8, 26)), .inr (some (0, 9, p7)), .inr (some (0, 10, p12)), .inr (some (0, 1, 21)), .inl v8] h15 (fun v16 h16 => SH h16 ∧ ((v16 = 0 → Q (nI 0) h16) ∧ (¬ v16 = 0 → Q (nI 1) h16))))))))))))))) ∧ (v8 = (-1) → Q (-1) h8)))))) ∧ (v5 = 0 → Q (-1) h5))))))))))))) : CI l E (d + 1) bc bs mX11_fits [.inr (some (0, 11, 0)), .inl x1, .inl x2, .inl x3, .inl x4, .inl x5] h Q := by
  refine CI.of (by decide) rfl ?_
  show TI l E mX11_fits (d + 1) bc bs 0 [some (.inr (some (0, 11, 0))), some (.inl x1), some (.inl x2), some (.inl x3), some (.inl x4), some (.inl x5), none, none, none] [] h Q
  refine z_aload_n (pc := 0) dX11_fits_0 rfl rfl ?_
  refine z_iload_n (pc := 1) dX11_fits_1 rfl rfl ?_
  refine y_VR (pc := 2) (bc := bc) (bs := bs) (mc := 0) (ms := 0) (As := [.inl x1]) (rest := []) dX11_fits_2 kX11_seriesAt lX11_110 ⟨_, _, rfl⟩ rfl rfl (H.use (fun v1 h1 H => ?_))
  have S1 := H.1
  replace H := H.2
  refine z_astore (pc := 5) (ls' := [some (.inr (some (0, 11, 0))), some (.inl x1), some (.inl x2), some (.inl x3), some (.inl x4), some (.inl x5), some (.inr v1), none, none]) dX11_fits_5 rfl rfl ?_
  refine z_aload (pc := 7) dX11_fits_7 rfl ?_
  refine z_ifnull (pc := 9) (tgt := 28) dX11_fits_9 (by decide) (fun c2 => ?_) (fun q2 c2 => ?_)
  · replace H := H.1 c2
    refine z_iconst (pc := 28) (v := (-1)) dX11_fits_28 (by decide) ?_
    exact z_iret (pc := 29) dX11_fits_29 rfl rfl ⟨_, rfl, H⟩
  · replace H := H.2 q2 c2
    refine z_iload_n (pc := 12) dX11_fits_12 rfl rfl ?_
    refine y_SI (pc := 13) (bc := bc) (bs := bs) (mc := 0) (ms := 0) (As := [.inl x2]) (rest := []) dX11_fits_13 kX11_isWeek lX11_156 rfl rfl (H.use (fun v3 h3 H => ?_))
    have S3 := H.1
    replace H := H.2
    refine z_if_eq (pc := 16) (tgt := 28) dX11_fits_16 (by decide) (fun c4 => ?_) (fun c4 => ?_)
    · replace H := H.1 c4
      refine z_iconst (pc := 28) (v := (-1)) dX11_fits_28 (by decide) ?_
      exact z_iret (pc := 29) dX11_fits_29 rfl rfl ⟨_, rfl, H⟩
    · replace H := H.2 c4
      refine z_aload_n (pc := 19) dX11_fits_19 rfl rfl ?_
      refine z_iload (pc := 20) dX11_fits_20 rfl ?_
      refine y_VI (pc := 22) (bc := bc) (bs := bs) (mc := 0) (ms := 0) (As := [.inl x5]) (rest := []) dX11_fits_22 kX11_isKnown lX11_162 ⟨_, _, rfl⟩ rfl rfl (H.use (fun v5 h5 H => ?_))
      have S5 := H.1
      replace H := H.2
      refine z_if_ne (pc := 25) (tgt := 30) dX11_fits_25 (by decide) (fun c6 => ?_) (fun c6 => ?_)
      · replace H := H.1 c6
        refine z_aload (pc := 30) dX11_fits_30 rfl ?_
        obtain ⟨p7, e7, H⟩ := H
        refine z_cast e7 ?_
        refine z_iload_n (pc := 32) dX11_fits_32 rfl rfl ?_
        refine z_iload (pc := 33) dX11_fits_33 rfl ?_
        refine y_VI (pc := 35) (bc := bc) (bs := bs) (mc := 0) (ms := 0) (As := [.inl x3, .inl x4]) (rest := []) dX11_fits_35 kX9_choiceOf lX11_200 ⟨_, _, rfl⟩ rfl rfl (H.use (fun v8 h8 H => ?_))
        have S8 := H.1
        replace H := H.2
        refine z_istore (pc := 38) (ls' := [some (.inr (some (0, 11, 0))), some (.inl x1), some (.inl x2), some (.inl x3), some (.inl x4), some (.inl x5), some (.inr v1), some (.inl v8), none]) dX11_fits_38 rfl rfl ?_
        refine z_iload (pc := 40) dX11_fits_40 rfl ?_
        refine z_iconst (pc := 42) (v := (-1)) dX11_fits_42 (by decide) ?_
        refine z_icmp_ne (pc := 43) (tgt := 48) dX11_fits_43 (by decide) (fun c9 => ?_) (fun c9 => ?_)
        · replace H := H.1 c9
          refine z_aload_n (pc := 48) dX11_fits_48 rfl rfl ?_
          refine z_aload (pc := 49) dX11_fits_49 rfl ?_
          refine z_cast e7 ?_
          refine z_iload_n (pc := 51) dX11_fits_51 rfl rfl ?_
          refine z_iload (pc := 52) dX11_fits_52 rfl ?_
          refine y_VV (pc := 54) (bc := bc) (bs := bs) (mc := 0) (ms := 0) (As := [.inr (some (0, 9, p7)), .inl x2, .inl x5]) (rest := []) dX11_fits_54 kX11_seatLesser lX11_203 ⟨_, _, rfl⟩ rfl rfl (H.use (fun h10 H => ?_))
          have S10 := H.1
          replace H := H.2
          refine z_aload_n (pc := 57) dX11_fits_57 rfl rfl ?_
          refine z_getk (pc := 58) dX11_fits_58 fX11_29 rfl (s_0_3 S10) ?_
          refine z_aload (pc := 61) dX11_fits_61 rfl ?_
          refine z_cast e7 ?_
          refine z_geti (pc := 63) dX11_fits_63 fX11_207 rfl ?_
          have c11 := H.1
          replace H := H.2
          refine z_aald (pc := 66) dX11_fits_66 rfl rfl rfl c11 ?_
          refine z_astore (pc := 67) (ls' := [some (.inr (some (0, 11, 0))), some (.inl x1), some (.inl x2), some (.inl x3), some (.inl x4), some (.inl x5), some (.inr v1), some (.inl v8), some (.inr ((hQ h10 4 ((hI h10 p7 0)).toNatClampNeg)))]) dX11_fits_67 rfl rfl ?_
          refine z_aload (pc := 69) dX11_fits_69 rfl ?_
          obtain ⟨p12, e12, gp12, H⟩ := H
          refine z_cast e12 ?_
          refine z_aload (pc := 71) dX11_fits_71 rfl ?_
          refine z_cast e7 ?_
          refine z_aload (pc := 73) dX11_fits_73 rfl ?_
          refine z_cast e7 ?_
          refine z_iload (pc := 75) dX11_fits_75 rfl ?_
          refine y_VI (pc := 77) (bc := bc) (bs := bs) (mc := 0) (ms := 0) (As := [.inl v8]) (rest := [.inr (some (0, 9, p7)), .inr (some (0, 10, p12))]) dX11_fits_77 kX9_optionsOf lX11_208 ⟨_, _, rfl⟩ rfl rfl (H.use (fun v13 h13 H => ?_))
          have S13 := H.1
          replace H := H.2
          refine z_iload_n (pc := 80) dX11_fits_80 rfl rfl ?_
          refine z_iload (pc := 81) dX11_fits_81 rfl ?_
          refine z_aload (pc := 83) dX11_fits_83 rfl ?_
          refine z_cast e7 ?_
          refine y_VI (pc := 85) (bc := bc) (bs := bs) (mc := 0) (ms := 0) (As := []) (rest := [.inl x5, .inl x2, .inl v13, .inr (some (0, 9, p7)), .inr (some (0, 10, p12))]) dX11_fits_85 kX9_everyone lX11_212 ⟨_, _, rfl⟩ rfl rfl (H.use (fun v14 h14 H => ?_))
          have S14 := H.1
          replace H := H.2
          refine z_aload_n (pc := 88) dX11_fits_88 rfl rfl ?_
          refine z_getk (pc := 89) dX11_fits_89 fX11_17 rfl (s_0_1 S14) ?_
          refine y_VV (pc := 92) (bc := bc) (bs := bs) (mc := 0) (ms := 0) (As := [.inr (some (0, 9, p7)), .inl v13, .inl x2, .inl x5, .inl v14, .inr (some (14, 12, 2))]) (rest := []) dX11_fits_92 kX10_fill lX11_215 ⟨_, _, rfl⟩ rfl rfl (H.use (fun h15 H => ?_))
          have S15 := H.1
          replace H := H.2
          refine z_aload_n (pc := 95) dX11_fits_95 rfl rfl ?_
          refine z_getk (pc := 96) dX11_fits_96 fX11_44 rfl (s_0_5 S15) ?_
          refine z_aload (pc := 99) dX11_fits_99 rfl ?_
          refine z_cast e7 ?_
          refine z_aload (pc := 101) dX11_fits_101 rfl ?_
          refine z_cast e12 ?_
          refine z_aload_n (pc := 103) dX11_fits_103 rfl rfl ?_
          refine z_getk (pc := 104) dX11_fits_104 fX11_37 rfl (s_0_4 S15) ?_
          refine z_iload (pc := 107) dX11_fits_107 rfl ?_
          refine y_VI (pc := 109) (bc := bc) (bs := bs) (mc := 0) (ms := 0) (As := [.inr (some (0, 9, p7)), .inr (some (0, 10, p12)), .inr (some (0, 1, 21)), .inl v8]) (rest := []) dX11_fits_109 kX8_suits lX11_219 ⟨_, _, rfl⟩ rfl rfl (H.use (fun v16 h16 H => ?_))
          have S16 := H.1
          replace H := H.2
          refine z_if_eq (pc := 112) (tgt := 119) dX11_fits_112 (by decide) (fun c17 => ?_) (fun c17 => ?_)
          · replace H := H.1 c17
            refine z_iconst (pc := 119) (v := (nI 0)) dX11_fits_119 (by decide) ?_
            exact z_iret (pc := 120) dX11_fits_120 rfl rfl ⟨_, rfl, H⟩
          · replace H := H.2 c17
            refine z_iconst (pc := 115) (v := (nI 1)) dX11_fits_115 (by decide) ?_
            refine z_goto (pc := 116) (tgt := 120) dX11_fits_116 (by decide) ?_
            exact z_iret (pc := 120) dX11_fits_120 rfl rfl ⟨_, rfl, H⟩
        · replace H := H.2 c9
          refine z_iconst (pc := 46) (v := (-1)) dX11_fits_46 (by decide) ?_
          exact z_iret (pc := 47) dX11_fits_47 rfl rfl ⟨_, rfl, H⟩
      · replace H := H.2 c6
        refine z_iconst (pc := 28) (v := (-1)) dX11_fits_28 (by decide) ?_
        exact z_iret (pc := 29) dX11_fits_29 rfl rfl ⟨_, rfl, H⟩

abbrev LX11_move_31 (l : Launch) (E : eE) (d bc bs : Nat) (x1 : Int32) (x2 : Int32) (x3 : Int32) (h : aH) (Q : Int32 → aH → Prop) : Prop := TI l E mX11_move d bc bs 31 [some (.inr (some (0, 11, 0))), some (.inl x1), some (.inl x2), some (.inl x3), none] [] h Q

set_option maxRecDepth 20000 in
theorem bX11_move_0 {l : Launch} {E : eE} {d bc bs : Nat} {h : aH} {Q : Int32 → aH → Prop} {x1 : Int32} {x2 : Int32} (S : SH h) (H : (CI l E d 0 0 mX11_isWeek [.inl x1] h (fun v1 h1 => SH h1 ∧ ((v1 = 0 → Q (-2) h1) ∧ (¬ v1 = 0 → (CI l E d 0 0 mX11_isKnown [.inr (some (0, 11, 0)), .inl x2] h1 (fun v3 h3 => SH h3 ∧ ((¬ v3 = 0 → (CV l E d 0 0 mX5_begin [.inr (some (0, 5, 39)), .inl (hI h3 0 10)] h3 (fun h5 => SH h5 ∧ LX11_move_31 l E (d + 1) bc bs x1 x2 (nI 0) h5 Q))) ∧ (v3 = 0 → Q (-2) h3))))))))) : CI l E (d + 1) bc bs mX11_move [.inr (some (0, 11, 0)), .inl x1, .inl x2] h Q := by
  refine CI.of (by decide) rfl ?_
  show TI l E mX11_move (d + 1) bc bs 0 [some (.inr (some (0, 11, 0))), some (.inl x1), some (.inl x2), none, none] [] h Q
  refine z_iload_n (pc := 0) dX11_move_0 rfl rfl ?_
  refine y_SI (pc := 1) (bc := bc) (bs := bs) (mc := 0) (ms := 0) (As := [.inl x1]) (rest := []) dX11_move_1 kX11_isWeek lX11_156 rfl rfl (H.use (fun v1 h1 H => ?_))
  have S1 := H.1
  replace H := H.2
  refine z_if_eq (pc := 4) (tgt := 15) dX11_move_4 (by decide) (fun c2 => ?_) (fun c2 => ?_)
  · replace H := H.1 c2
    refine z_bipush (pc := 15) (v := (-2)) dX11_move_15 (by decide) ?_
    exact z_iret (pc := 17) dX11_move_17 rfl rfl ⟨_, rfl, H⟩
  · replace H := H.2 c2
    refine z_aload_n (pc := 7) dX11_move_7 rfl rfl ?_
    refine z_iload_n (pc := 8) dX11_move_8 rfl rfl ?_
    refine y_VI (pc := 9) (bc := bc) (bs := bs) (mc := 0) (ms := 0) (As := [.inl x2]) (rest := []) dX11_move_9 kX11_isKnown lX11_162 ⟨_, _, rfl⟩ rfl rfl (H.use (fun v3 h3 H => ?_))
    have S3 := H.1
    replace H := H.2
    refine z_if_ne (pc := 12) (tgt := 18) dX11_move_12 (by decide) (fun c4 => ?_) (fun c4 => ?_)
    · replace H := H.1 c4
      refine z_aload_n (pc := 18) dX11_move_18 rfl rfl ?_
      refine z_getk (pc := 19) dX11_move_19 fX11_58 rfl (s_0_7 S3) ?_
      refine z_aload_n (pc := 22) dX11_move_22 rfl rfl ?_
      refine z_geti (pc := 23) dX11_move_23 fX11_84 rfl ?_
      refine y_VV (pc := 26) (bc := bc) (bs := bs) (mc := 0) (ms := 0) (As := [.inl (hI h3 0 10)]) (rest := []) dX11_move_26 kX5_begin lX11_264 ⟨_, _, rfl⟩ rfl rfl (H.use (fun h5 H => ?_))
      have S5 := H.1
      replace H := H.2
      refine z_iconst (pc := 29) (v := (nI 0)) dX11_move_29 (by decide) ?_
      refine z_istore_n (pc := 30) (ls' := [some (.inr (some (0, 11, 0))), some (.inl x1), some (.inl x2), some (.inl (nI 0)), none]) dX11_move_30 rfl rfl rfl ?_
      exact H
    · replace H := H.2 c4
      refine z_bipush (pc := 15) (v := (-2)) dX11_move_15 (by decide) ?_
      exact z_iret (pc := 17) dX11_move_17 rfl rfl ⟨_, rfl, H⟩

set_option maxRecDepth 20000 in
theorem bX11_move_31 {l : Launch} {E : eE} {d bc bs : Nat} {h : aH} {Q : Int32 → aH → Prop} {x1 : Int32} {x2 : Int32} {x3 : Int32} (S : SH h) (H : (((hI h 0 12) ≤ x3 → (CI l E d 0 0 mX5_findBest [.inr (some (0, 5, 39))] h (fun v2 h2 => SH h2 ∧ ((v2 = (-1) → Q v2 h2) ∧ (¬ v2 = (-1) → (CV l E d 0 0 mX5_settle [.inr (some (0, 5, 39)), .inl x1] h2 (fun h4 => SH h4 ∧ Q v2 h4))))))) ∧ (¬ (hI h 0 12) ≤ x3 → (vp_in x3 4 ∧ (∃ p6, (hQ h 3 (x3).toNatClampNeg) = some (0, 9, p6) ∧ (∃ p7, (hR h p6 6) = some (1, 52, p7) ∧ (vp_in x1 52 ∧ (((hA h p7 (x1).toNatClampNeg) = (-1) → LX11_move_31 l E (d + 1) bc bs x1 x2 (x3 + (nI 1)) h Q) ∧ (¬ (hA h p7 (x1).toNatClampNeg) = (-1) → (∃ p11, (hQ h 4 (x3).toNatClampNeg) = some (0, 10, p11) ∧ isSh p11 ∧ (CI l E d 0 0 mX9_allOptions [.inr (some (0, 9, p6))] h (fun v12 h12 => SH h12 ∧ (CI l E d 0 0 mX9_everyone [.inr (some (0, 9, p6))] h12 (fun v13 h13 => SH h13 ∧ (CV l E d 0 0 mX10_fill [.inr (some (0, 10, p11)), .inr (some (0, 9, p6)), .inl v12, .inl x1, .inl x2, .inl v13, .inr (some (14, 12, 2))] h13 (fun h14 => SH h14 ∧ (∃ p16, (hQ h14 4 (x3).toNatClampNeg) = some (0, 10, p16) ∧ isSh p16 ∧ (∃ p17, (hR h14 p6 6) = some (1, 52, p17) ∧ (CV l E d 0 0 mX5_add [.inr (some (0, 5, 39)), .inr (some (0, 9, p6)), .inr (some (0, 10, p16)), .inl (hA h14 p17 (x1).toNatClampNeg)] h14 (fun h18 => SH h18 ∧ LX11_move_31 l E (d + 1) bc bs x1 x2 (x3 + (nI 1)) h18 Q)))))))))))))))))))) : LX11_move_31 l E (d + 1) bc bs x1 x2 x3 h Q := by
  refine z_iload_n (pc := 31) dX11_move_31 rfl rfl ?_
  refine z_aload_n (pc := 32) dX11_move_32 rfl rfl ?_
  refine z_geti (pc := 33) dX11_move_33 fX11_114 rfl ?_
  refine z_icmp_ge (pc := 36) (tgt := 113) dX11_move_36 (by decide) (fun c1 => ?_) (fun c1 => ?_)
  · replace H := H.1 c1
    refine z_aload_n (pc := 113) dX11_move_113 rfl rfl ?_
    refine z_getk (pc := 114) dX11_move_114 fX11_58 rfl (s_0_7 S) ?_
    refine y_VI (pc := 117) (bc := bc) (bs := bs) (mc := 0) (ms := 0) (As := []) (rest := []) dX11_move_117 kX5_findBest lX11_270 ⟨_, _, rfl⟩ rfl rfl (H.use (fun v2 h2 H => ?_))
    have S2 := H.1
    replace H := H.2
    refine z_istore_n (pc := 120) (ls' := [some (.inr (some (0, 11, 0))), some (.inl x1), some (.inl x2), some (.inl v2), none]) dX11_move_120 rfl rfl rfl ?_
    refine z_iload_n (pc := 121) dX11_move_121 rfl rfl ?_
    refine z_iconst (pc := 122) (v := (-1)) dX11_move_122 (by decide) ?_
    refine z_icmp_eq (pc := 123) (tgt := 134) dX11_move_123 (by decide) (fun c3 => ?_) (fun c3 => ?_)
    · replace H := H.1 c3
      refine z_iload_n (pc := 134) dX11_move_134 rfl rfl ?_
      exact z_iret (pc := 135) dX11_move_135 rfl rfl ⟨_, rfl, H⟩
    · replace H := H.2 c3
      refine z_aload_n (pc := 126) dX11_move_126 rfl rfl ?_
      refine z_getk (pc := 127) dX11_move_127 fX11_58 rfl (s_0_7 S2) ?_
      refine z_iload_n (pc := 130) dX11_move_130 rfl rfl ?_
      refine y_VV (pc := 131) (bc := bc) (bs := bs) (mc := 0) (ms := 0) (As := [.inl x1]) (rest := []) dX11_move_131 kX5_settle lX11_272 ⟨_, _, rfl⟩ rfl rfl (H.use (fun h4 H => ?_))
      have S4 := H.1
      replace H := H.2
      refine z_iload_n (pc := 134) dX11_move_134 rfl rfl ?_
      exact z_iret (pc := 135) dX11_move_135 rfl rfl ⟨_, rfl, H⟩
  · replace H := H.2 c1
    refine z_aload_n (pc := 39) dX11_move_39 rfl rfl ?_
    refine z_getk (pc := 40) dX11_move_40 fX11_23 rfl (s_0_2 S) ?_
    refine z_iload_n (pc := 43) dX11_move_43 rfl rfl ?_
    have c5 := H.1
    replace H := H.2
    refine z_aald (pc := 44) dX11_move_44 rfl rfl rfl c5 ?_
    refine z_astore (pc := 45) (ls' := [some (.inr (some (0, 11, 0))), some (.inl x1), some (.inl x2), some (.inl x3), some (.inr ((hQ h 3 (x3).toNatClampNeg)))]) dX11_move_45 rfl rfl ?_
    refine z_aload (pc := 47) dX11_move_47 rfl ?_
    obtain ⟨p6, e6, H⟩ := H
    refine z_cast e6 ?_
    refine z_getr (pc := 49) dX11_move_49 fX11_246 rfl ?_
    obtain ⟨p7, e7, H⟩ := H
    refine z_cast e7 ?_
    refine z_iload_n (pc := 52) dX11_move_52 rfl rfl ?_
    have c8 := H.1
    replace H := H.2
    refine z_iald (pc := 53) dX11_move_53 c8 ?_
    refine z_iconst (pc := 54) (v := (-1)) dX11_move_54 (by decide) ?_
    refine z_icmp_eq (pc := 55) (tgt := 107) dX11_move_55 (by decide) (fun c9 => ?_) (fun c9 => ?_)
    · replace H := H.1 c9
      refine z_iinc (pc := 107) (v := (x3 + (nI 1))) (ls' := [some (.inr (some (0, 11, 0))), some (.inl x1), some (.inl x2), some (.inl (x3 + (nI 1))), some (.inr ((hQ h 3 (x3).toNatClampNeg)))]) dX11_move_107 rfl (by rw [show Int32.ofInt (1) = (nI 1) by decide]) rfl ?_
      refine z_goto (pc := 110) (tgt := 31) dX11_move_110 (by decide) ?_
      exact z_drop (ls' := [some (.inr (some (0, 11, 0))), some (.inl x1), some (.inl x2), some (.inl (x3 + (nI 1))), none]) (by simp [dropL]) H
    · replace H := H.2 c9
      refine z_aload_n (pc := 58) dX11_move_58 rfl rfl ?_
      refine z_getk (pc := 59) dX11_move_59 fX11_29 rfl (s_0_3 S) ?_
      refine z_iload_n (pc := 62) dX11_move_62 rfl rfl ?_
      refine z_aald (pc := 63) dX11_move_63 rfl rfl rfl c5 ?_
      obtain ⟨p11, e11, gp11, H⟩ := H
      refine z_cast e11 ?_
      refine z_aload (pc := 64) dX11_move_64 rfl ?_
      refine z_cast e6 ?_
      refine z_aload (pc := 66) dX11_move_66 rfl ?_
      refine z_cast e6 ?_
      refine y_VI (pc := 68) (bc := bc) (bs := bs) (mc := 0) (ms := 0) (As := []) (rest := [.inr (some (0, 9, p6)), .inr (some (0, 10, p11))]) dX11_move_68 kX9_allOptions lX11_232 ⟨_, _, rfl⟩ rfl rfl (H.use (fun v12 h12 H => ?_))
      have S12 := H.1
      replace H := H.2
      refine z_iload_n (pc := 71) dX11_move_71 rfl rfl ?_
      refine z_iload_n (pc := 72) dX11_move_72 rfl rfl ?_
      refine z_aload (pc := 73) dX11_move_73 rfl ?_
      refine z_cast e6 ?_
      refine y_VI (pc := 75) (bc := bc) (bs := bs) (mc := 0) (ms := 0) (As := []) (rest := [.inl x2, .inl x1, .inl v12, .inr (some (0, 9, p6)), .inr (some (0, 10, p11))]) dX11_move_75 kX9_everyone lX11_212 ⟨_, _, rfl⟩ rfl rfl (H.use (fun v13 h13 H => ?_))
      have S13 := H.1
      replace H := H.2
      refine z_aload_n (pc := 78) dX11_move_78 rfl rfl ?_
      refine z_getk (pc := 79) dX11_move_79 fX11_17 rfl (s_0_1 S13) ?_
      refine y_VV (pc := 82) (bc := bc) (bs := bs) (mc := 0) (ms := 0) (As := [.inr (some (0, 9, p6)), .inl v12, .inl x1, .inl x2, .inl v13, .inr (some (14, 12, 2))]) (rest := []) dX11_move_82 kX10_fill lX11_215 ⟨_, _, rfl⟩ rfl rfl (H.use (fun h14 H => ?_))
      have S14 := H.1
      replace H := H.2
      refine z_aload_n (pc := 85) dX11_move_85 rfl rfl ?_
      refine z_getk (pc := 86) dX11_move_86 fX11_58 rfl (s_0_7 S14) ?_
      refine z_aload (pc := 89) dX11_move_89 rfl ?_
      refine z_cast e6 ?_
      refine z_aload_n (pc := 91) dX11_move_91 rfl rfl ?_
      refine z_getk (pc := 92) dX11_move_92 fX11_29 rfl (s_0_3 S14) ?_
      refine z_iload_n (pc := 95) dX11_move_95 rfl rfl ?_
      refine z_aald (pc := 96) dX11_move_96 rfl rfl rfl c5 ?_
      obtain ⟨p16, e16, gp16, H⟩ := H
      refine z_cast e16 ?_
      refine z_aload (pc := 97) dX11_move_97 rfl ?_
      refine z_cast e6 ?_
      refine z_getr (pc := 99) dX11_move_99 fX11_246 rfl ?_
      obtain ⟨p17, e17, H⟩ := H
      refine z_cast e17 ?_
      refine z_iload_n (pc := 102) dX11_move_102 rfl rfl ?_
      refine z_iald (pc := 103) dX11_move_103 c8 ?_
      refine y_VV (pc := 104) (bc := bc) (bs := bs) (mc := 0) (ms := 0) (As := [.inr (some (0, 9, p6)), .inr (some (0, 10, p16)), .inl (hA h14 p17 (x1).toNatClampNeg)]) (rest := []) dX11_move_104 kX5_add lX11_266 ⟨_, _, rfl⟩ rfl rfl (H.use (fun h18 H => ?_))
      have S18 := H.1
      replace H := H.2
      refine z_iinc (pc := 107) (v := (x3 + (nI 1))) (ls' := [some (.inr (some (0, 11, 0))), some (.inl x1), some (.inl x2), some (.inl (x3 + (nI 1))), some (.inr ((hQ h 3 (x3).toNatClampNeg)))]) dX11_move_107 rfl (by rw [show Int32.ofInt (1) = (nI 1) by decide]) rfl ?_
      refine z_goto (pc := 110) (tgt := 31) dX11_move_110 (by decide) ?_
      exact z_drop (ls' := [some (.inr (some (0, 11, 0))), some (.inl x1), some (.inl x2), some (.inl (x3 + (nI 1))), none]) (by simp [dropL]) H

abbrev LX11_comes_59 (l : Launch) (E : eE) (d bc bs : Nat) (x1 : Int32) (x2 : Int32) (x3 : Int32) (x4 : Int32) (r5 : aR) (x6 : Int32) (h : aH) (Q : Int32 → aH → Prop) : Prop := TI l E mX11_comes d bc bs 59 [some (.inr (some (0, 11, 0))), some (.inl x1), some (.inl x2), some (.inl x3), some (.inl x4), some (.inr r5), some (.inl x6)] [] h Q

set_option maxRecDepth 20000 in
theorem bX11_comes_0 {l : Launch} {E : eE} {d bc bs : Nat} {h : aH} {Q : Int32 → aH → Prop} {x1 : Int32} {x2 : Int32} {x3 : Int32} {x4 : Int32} (S : SH h) (H : (CR l E d 0 0 mX11_seriesAt [.inr (some (0, 11, 0)), .inl x2] h (fun v1 h1 => SH h1 ∧ ((v1 = none → Q (-1) h1) ∧ (∀ q2, v1 = some q2 → (CR l E d 0 0 mX11_personAt [.inr (some (0, 11, 0)), .inl x1] h1 (fun v3 h3 => SH h3 ∧ ((v3 = none → Q (-1) h3) ∧ (∀ q4, v3 = some q4 → (CI l E d 0 0 mX11_isWeek [.inl x3] h3 (fun v5 h5 => SH h5 ∧ ((v5 = 0 → Q (-1) h5) ∧ (¬ v5 = 0 → (CI l E d 0 0 mX11_isKnown [.inr (some (0, 11, 0)), .inl x4] h5 (fun v7 h7 => SH h7 ∧ ((v7 = 0 → Q (-1) h7) ∧ (¬ v7 = 0 → (∃ p9, v1 = some (0, 9, p9) ∧ (∃ p10, (hR h7 p9 6) = some (1, 52, p10) ∧ (vp_in x3 52 ∧ ((¬ (hA h7 p10 (x3).toNatClampNeg) = (-1) → (CV l E d 0 0 mX1_clear [.inr (some (0, 1, 21))] h7 (fun h13 => SH h13 ∧ LX11_comes_59 l E (d + 1) bc bs x1 x2 x3 x4 v1 (nI 0) h13 Q))) ∧ ((hA h7 p10 (x3).toNatClampNeg) = (-1) → Q (-1) h7)))))))))))))))))))))) : CI l E (d + 1) bc bs mX11_comes [.inr (some (0, 11, 0)), .inl x1, .inl x2, .inl x3, .inl x4] h Q := by
  refine CI.of (by decide) rfl ?_
  show TI l E mX11_comes (d + 1) bc bs 0 [some (.inr (some (0, 11, 0))), some (.inl x1), some (.inl x2), some (.inl x3), some (.inl x4), none, none] [] h Q
  refine z_aload_n (pc := 0) dX11_comes_0 rfl rfl ?_
  refine z_iload_n (pc := 1) dX11_comes_1 rfl rfl ?_
  refine y_VR (pc := 2) (bc := bc) (bs := bs) (mc := 0) (ms := 0) (As := [.inl x2]) (rest := []) dX11_comes_2 kX11_seriesAt lX11_110 ⟨_, _, rfl⟩ rfl rfl (H.use (fun v1 h1 H => ?_))
  have S1 := H.1
  replace H := H.2
  refine z_astore (pc := 5) (ls' := [some (.inr (some (0, 11, 0))), some (.inl x1), some (.inl x2), some (.inl x3), some (.inl x4), some (.inr v1), none]) dX11_comes_5 rfl rfl ?_
  refine z_aload (pc := 7) dX11_comes_7 rfl ?_
  refine z_ifnull (pc := 9) (tgt := 47) dX11_comes_9 (by decide) (fun c2 => ?_) (fun q2 c2 => ?_)
  · replace H := H.1 c2
    refine z_iconst (pc := 47) (v := (-1)) dX11_comes_47 (by decide) ?_
    exact z_iret (pc := 48) dX11_comes_48 rfl rfl ⟨_, rfl, H⟩
  · replace H := H.2 q2 c2
    refine z_aload_n (pc := 12) dX11_comes_12 rfl rfl ?_
    refine z_iload_n (pc := 13) dX11_comes_13 rfl rfl ?_
    refine y_VR (pc := 14) (bc := bc) (bs := bs) (mc := 0) (ms := 0) (As := [.inl x1]) (rest := []) dX11_comes_14 kX11_personAt lX11_90 ⟨_, _, rfl⟩ rfl rfl (H.use (fun v3 h3 H => ?_))
    have S3 := H.1
    replace H := H.2
    refine z_ifnull (pc := 17) (tgt := 47) dX11_comes_17 (by decide) (fun c4 => ?_) (fun q4 c4 => ?_)
    · replace H := H.1 c4
      refine z_iconst (pc := 47) (v := (-1)) dX11_comes_47 (by decide) ?_
      exact z_iret (pc := 48) dX11_comes_48 rfl rfl ⟨_, rfl, H⟩
    · replace H := H.2 q4 c4
      refine z_iload_n (pc := 20) dX11_comes_20 rfl rfl ?_
      refine y_SI (pc := 21) (bc := bc) (bs := bs) (mc := 0) (ms := 0) (As := [.inl x3]) (rest := []) dX11_comes_21 kX11_isWeek lX11_156 rfl rfl (H.use (fun v5 h5 H => ?_))
      have S5 := H.1
      replace H := H.2
      refine z_if_eq (pc := 24) (tgt := 47) dX11_comes_24 (by decide) (fun c6 => ?_) (fun c6 => ?_)
      · replace H := H.1 c6
        refine z_iconst (pc := 47) (v := (-1)) dX11_comes_47 (by decide) ?_
        exact z_iret (pc := 48) dX11_comes_48 rfl rfl ⟨_, rfl, H⟩
      · replace H := H.2 c6
        refine z_aload_n (pc := 27) dX11_comes_27 rfl rfl ?_
        refine z_iload (pc := 28) dX11_comes_28 rfl ?_
        refine y_VI (pc := 30) (bc := bc) (bs := bs) (mc := 0) (ms := 0) (As := [.inl x4]) (rest := []) dX11_comes_30 kX11_isKnown lX11_162 ⟨_, _, rfl⟩ rfl rfl (H.use (fun v7 h7 H => ?_))
        have S7 := H.1
        replace H := H.2
        refine z_if_eq (pc := 33) (tgt := 47) dX11_comes_33 (by decide) (fun c8 => ?_) (fun c8 => ?_)
        · replace H := H.1 c8
          refine z_iconst (pc := 47) (v := (-1)) dX11_comes_47 (by decide) ?_
          exact z_iret (pc := 48) dX11_comes_48 rfl rfl ⟨_, rfl, H⟩
        · replace H := H.2 c8
          refine z_aload (pc := 36) dX11_comes_36 rfl ?_
          obtain ⟨p9, e9, H⟩ := H
          refine z_cast e9 ?_
          refine z_getr (pc := 38) dX11_comes_38 fX11_246 rfl ?_
          obtain ⟨p10, e10, H⟩ := H
          refine z_cast e10 ?_
          refine z_iload_n (pc := 41) dX11_comes_41 rfl rfl ?_
          have c11 := H.1
          replace H := H.2
          refine z_iald (pc := 42) dX11_comes_42 c11 ?_
          refine z_iconst (pc := 43) (v := (-1)) dX11_comes_43 (by decide) ?_
          refine z_icmp_ne (pc := 44) (tgt := 49) dX11_comes_44 (by decide) (fun c12 => ?_) (fun c12 => ?_)
          · replace H := H.1 c12
            refine z_aload_n (pc := 49) dX11_comes_49 rfl rfl ?_
            refine z_getk (pc := 50) dX11_comes_50 fX11_37 rfl (s_0_4 S7) ?_
            refine y_VV (pc := 53) (bc := bc) (bs := bs) (mc := 0) (ms := 0) (As := []) (rest := []) dX11_comes_53 kX1_clear lX11_284 ⟨_, _, rfl⟩ rfl rfl (H.use (fun h13 H => ?_))
            have S13 := H.1
            replace H := H.2
            refine z_iconst (pc := 56) (v := (nI 0)) dX11_comes_56 (by decide) ?_
            refine z_istore (pc := 57) (ls' := [some (.inr (some (0, 11, 0))), some (.inl x1), some (.inl x2), some (.inl x3), some (.inl x4), some (.inr v1), some (.inl (nI 0))]) dX11_comes_57 rfl rfl ?_
            exact H
          · replace H := H.2 c12
            refine z_iconst (pc := 47) (v := (-1)) dX11_comes_47 (by decide) ?_
            exact z_iret (pc := 48) dX11_comes_48 rfl rfl ⟨_, rfl, H⟩

set_option maxRecDepth 20000 in
theorem bX11_comes_59 {l : Launch} {E : eE} {d bc bs : Nat} {h : aH} {Q : Int32 → aH → Prop} {x1 : Int32} {x2 : Int32} {x3 : Int32} {x4 : Int32} {r5 : aR} {x6 : Int32} (S : SH h) (H : (∃ p1, r5 = some (0, 9, p1) ∧ (((hI h p1 0) < x6 → (CI l E d 0 0 mX11_isIn [.inl (hI h 26 4), .inl x1] h (fun v3 h3 => SH h3 ∧ ((v3 = 0 → (CI l E d 0 0 mX11_isIn [.inl (hI h3 26 5), .inl x1] h3 (fun v5 h5 => SH h5 ∧ ((v5 = 0 → Q ((nI 0) + (nI 0)) h5) ∧ (¬ v5 = 0 → Q ((nI 0) + (nI 2)) h5))))) ∧ (¬ v3 = 0 → (CI l E d 0 0 mX11_isIn [.inl (hI h3 26 5), .inl x1] h3 (fun v7 h7 => SH h7 ∧ ((v7 = 0 → Q ((nI 1) + (nI 0)) h7) ∧ (¬ v7 = 0 → Q ((nI 1) + (nI 2)) h7))))))))) ∧ (¬ (hI h p1 0) < x6 → (CI l E d 0 0 mX11_seat [.inr (some (0, 11, 0)), .inl x6, .inl x3, .inl x4, .inl ((nI 1) <<< (x1 &&& 31))] h (fun v9 h9 => SH h9 ∧ LX11_comes_59 l E (d + 1) bc bs x1 x2 x3 x4 r5 (x6 + (nI 1)) h9 Q)))))) : LX11_comes_59 l E (d + 1) bc bs x1 x2 x3 x4 r5 x6 h Q := by
  refine z_iload (pc := 59) dX11_comes_59 rfl ?_
  refine z_aload (pc := 61) dX11_comes_61 rfl ?_
  obtain ⟨p1, e1, H⟩ := H
  refine z_cast e1 ?_
  refine z_geti (pc := 63) dX11_comes_63 fX11_207 rfl ?_
  refine z_icmp_gt (pc := 66) (tgt := 88) dX11_comes_66 (by decide) (fun c2 => ?_) (fun c2 => ?_)
  · replace H := H.1 c2
    refine z_aload_n (pc := 88) dX11_comes_88 rfl rfl ?_
    refine z_getk (pc := 89) dX11_comes_89 fX11_44 rfl (s_0_5 S) ?_
    refine z_geti (pc := 92) dX11_comes_92 fX11_291 rfl ?_
    refine z_iload_n (pc := 95) dX11_comes_95 rfl rfl ?_
    refine y_SI (pc := 96) (bc := bc) (bs := bs) (mc := 0) (ms := 0) (As := [.inl (hI h 26 4), .inl x1]) (rest := []) dX11_comes_96 kX11_isIn lX11_261 rfl rfl (H.use (fun v3 h3 H => ?_))
    have S3 := H.1
    replace H := H.2
    refine z_if_eq (pc := 99) (tgt := 106) dX11_comes_99 (by decide) (fun c4 => ?_) (fun c4 => ?_)
    · replace H := H.1 c4
      refine z_iconst (pc := 106) (v := (nI 0)) dX11_comes_106 (by decide) ?_
      refine z_aload_n (pc := 107) dX11_comes_107 rfl rfl ?_
      refine z_getk (pc := 108) dX11_comes_108 fX11_44 rfl (s_0_5 S3) ?_
      refine z_geti (pc := 111) dX11_comes_111 fX11_294 rfl ?_
      refine z_iload_n (pc := 114) dX11_comes_114 rfl rfl ?_
      refine y_SI (pc := 115) (bc := bc) (bs := bs) (mc := 0) (ms := 0) (As := [.inl (hI h3 26 5), .inl x1]) (rest := [.inl (nI 0)]) dX11_comes_115 kX11_isIn lX11_261 rfl rfl (H.use (fun v5 h5 H => ?_))
      have S5 := H.1
      replace H := H.2
      refine z_if_eq (pc := 118) (tgt := 125) dX11_comes_118 (by decide) (fun c6 => ?_) (fun c6 => ?_)
      · replace H := H.1 c6
        refine z_iconst (pc := 125) (v := (nI 0)) dX11_comes_125 (by decide) ?_
        refine z_iadd (pc := 126) dX11_comes_126 ?_
        exact z_iret (pc := 127) dX11_comes_127 rfl rfl ⟨_, rfl, H⟩
      · replace H := H.2 c6
        refine z_iconst (pc := 121) (v := (nI 2)) dX11_comes_121 (by decide) ?_
        refine z_goto (pc := 122) (tgt := 126) dX11_comes_122 (by decide) ?_
        refine z_iadd (pc := 126) dX11_comes_126 ?_
        exact z_iret (pc := 127) dX11_comes_127 rfl rfl ⟨_, rfl, H⟩
    · replace H := H.2 c4
      refine z_iconst (pc := 102) (v := (nI 1)) dX11_comes_102 (by decide) ?_
      refine z_goto (pc := 103) (tgt := 107) dX11_comes_103 (by decide) ?_
      refine z_aload_n (pc := 107) dX11_comes_107 rfl rfl ?_
      refine z_getk (pc := 108) dX11_comes_108 fX11_44 rfl (s_0_5 S3) ?_
      refine z_geti (pc := 111) dX11_comes_111 fX11_294 rfl ?_
      refine z_iload_n (pc := 114) dX11_comes_114 rfl rfl ?_
      refine y_SI (pc := 115) (bc := bc) (bs := bs) (mc := 0) (ms := 0) (As := [.inl (hI h3 26 5), .inl x1]) (rest := [.inl (nI 1)]) dX11_comes_115 kX11_isIn lX11_261 rfl rfl (H.use (fun v7 h7 H => ?_))
      have S7 := H.1
      replace H := H.2
      refine z_if_eq (pc := 118) (tgt := 125) dX11_comes_118 (by decide) (fun c8 => ?_) (fun c8 => ?_)
      · replace H := H.1 c8
        refine z_iconst (pc := 125) (v := (nI 0)) dX11_comes_125 (by decide) ?_
        refine z_iadd (pc := 126) dX11_comes_126 ?_
        exact z_iret (pc := 127) dX11_comes_127 rfl rfl ⟨_, rfl, H⟩
      · replace H := H.2 c8
        refine z_iconst (pc := 121) (v := (nI 2)) dX11_comes_121 (by decide) ?_
        refine z_goto (pc := 122) (tgt := 126) dX11_comes_122 (by decide) ?_
        refine z_iadd (pc := 126) dX11_comes_126 ?_
        exact z_iret (pc := 127) dX11_comes_127 rfl rfl ⟨_, rfl, H⟩
  · replace H := H.2 c2
    refine z_aload_n (pc := 69) dX11_comes_69 rfl rfl ?_
    refine z_iload (pc := 70) dX11_comes_70 rfl ?_
    refine z_iload_n (pc := 72) dX11_comes_72 rfl rfl ?_
    refine z_iload (pc := 73) dX11_comes_73 rfl ?_
    refine z_iconst (pc := 75) (v := (nI 1)) dX11_comes_75 (by decide) ?_
    refine z_iload_n (pc := 76) dX11_comes_76 rfl rfl ?_
    refine z_ishl (pc := 77) dX11_comes_77 ?_
    refine y_VI (pc := 78) (bc := bc) (bs := bs) (mc := 0) (ms := 0) (As := [.inl x6, .inl x3, .inl x4, .inl ((nI 1) <<< (x1 &&& 31))]) (rest := []) dX11_comes_78 kX11_seat lX11_287 ⟨_, _, rfl⟩ rfl rfl (H.use (fun v9 h9 H => ?_))
    have S9 := H.1
    replace H := H.2
    refine z_pop (pc := 81) dX11_comes_81 ?_
    refine z_iinc (pc := 82) (v := (x6 + (nI 1))) (ls' := [some (.inr (some (0, 11, 0))), some (.inl x1), some (.inl x2), some (.inl x3), some (.inl x4), some (.inr r5), some (.inl (x6 + (nI 1)))]) dX11_comes_82 rfl (by rw [show Int32.ofInt (1) = (nI 1) by decide]) rfl ?_
    refine z_goto (pc := 85) (tgt := 59) dX11_comes_85 (by decide) ?_
    exact H

abbrev LX11_sum_23 (l : Launch) (E : eE) (d bc bs : Nat) (x1 : Int32) (x2 : Int32) (x3 : Int32) (x4 : Int32) (h : aH) (Q : Int32 → aH → Prop) : Prop := TI l E mX11_sum d bc bs 23 [some (.inr (some (0, 11, 0))), some (.inl x1), some (.inl x2), some (.inl x3), some (.inl x4), none] [] h Q

abbrev LX11_sum_40 (l : Launch) (E : eE) (d bc bs : Nat) (x1 : Int32) (x2 : Int32) (x3 : Int32) (x4 : Int32) (x5 : Int32) (h : aH) (Q : Int32 → aH → Prop) : Prop := TI l E mX11_sum d bc bs 40 [some (.inr (some (0, 11, 0))), some (.inl x1), some (.inl x2), some (.inl x3), some (.inl x4), some (.inl x5)] [] h Q

set_option maxRecDepth 20000 in
theorem bX11_sum_0 {l : Launch} {E : eE} {d bc bs : Nat} {h : aH} {Q : Int32 → aH → Prop} {x1 : Int32} {x2 : Int32} (S : SH h) (H : (CR l E d 0 0 mX11_personAt [.inr (some (0, 11, 0)), .inl x1] h (fun v1 h1 => SH h1 ∧ ((v1 = none → Q (-1) h1) ∧ (∀ q2, v1 = some q2 → (CI l E d 0 0 mX11_isKnown [.inr (some (0, 11, 0)), .inl x2] h1 (fun v3 h3 => SH h3 ∧ ((¬ v3 = 0 → LX11_sum_23 l E (d + 1) bc bs x1 x2 (nI 0) (nI 0) h3 Q) ∧ (v3 = 0 → Q (-1) h3))))))))) : CI l E (d + 1) bc bs mX11_sum [.inr (some (0, 11, 0)), .inl x1, .inl x2] h Q := by
  refine CI.of (by decide) rfl ?_
  show TI l E mX11_sum (d + 1) bc bs 0 [some (.inr (some (0, 11, 0))), some (.inl x1), some (.inl x2), none, none, none] [] h Q
  refine z_aload_n (pc := 0) dX11_sum_0 rfl rfl ?_
  refine z_iload_n (pc := 1) dX11_sum_1 rfl rfl ?_
  refine y_VR (pc := 2) (bc := bc) (bs := bs) (mc := 0) (ms := 0) (As := [.inl x1]) (rest := []) dX11_sum_2 kX11_personAt lX11_90 ⟨_, _, rfl⟩ rfl rfl (H.use (fun v1 h1 H => ?_))
  have S1 := H.1
  replace H := H.2
  refine z_ifnull (pc := 5) (tgt := 16) dX11_sum_5 (by decide) (fun c2 => ?_) (fun q2 c2 => ?_)
  · replace H := H.1 c2
    refine z_iconst (pc := 16) (v := (-1)) dX11_sum_16 (by decide) ?_
    exact z_iret (pc := 17) dX11_sum_17 rfl rfl ⟨_, rfl, H⟩
  · replace H := H.2 q2 c2
    refine z_aload_n (pc := 8) dX11_sum_8 rfl rfl ?_
    refine z_iload_n (pc := 9) dX11_sum_9 rfl rfl ?_
    refine y_VI (pc := 10) (bc := bc) (bs := bs) (mc := 0) (ms := 0) (As := [.inl x2]) (rest := []) dX11_sum_10 kX11_isKnown lX11_162 ⟨_, _, rfl⟩ rfl rfl (H.use (fun v3 h3 H => ?_))
    have S3 := H.1
    replace H := H.2
    refine z_if_ne (pc := 13) (tgt := 18) dX11_sum_13 (by decide) (fun c4 => ?_) (fun c4 => ?_)
    · replace H := H.1 c4
      refine z_iconst (pc := 18) (v := (nI 0)) dX11_sum_18 (by decide) ?_
      refine z_istore_n (pc := 19) (ls' := [some (.inr (some (0, 11, 0))), some (.inl x1), some (.inl x2), some (.inl (nI 0)), none, none]) dX11_sum_19 rfl rfl rfl ?_
      refine z_iconst (pc := 20) (v := (nI 0)) dX11_sum_20 (by decide) ?_
      refine z_istore (pc := 21) (ls' := [some (.inr (some (0, 11, 0))), some (.inl x1), some (.inl x2), some (.inl (nI 0)), some (.inl (nI 0)), none]) dX11_sum_21 rfl rfl ?_
      exact H
    · replace H := H.2 c4
      refine z_iconst (pc := 16) (v := (-1)) dX11_sum_16 (by decide) ?_
      exact z_iret (pc := 17) dX11_sum_17 rfl rfl ⟨_, rfl, H⟩

set_option maxRecDepth 20000 in
theorem bX11_sum_23 {l : Launch} {E : eE} {d bc bs : Nat} {h : aH} {Q : Int32 → aH → Prop} {x1 : Int32} {x2 : Int32} {x3 : Int32} {x4 : Int32} (S : SH h) (H : (((nI 52) ≤ x4 → Q x3 h) ∧ (¬ (nI 52) ≤ x4 → (CV l E d 0 0 mX1_clear [.inr (some (0, 1, 21))] h (fun h2 => SH h2 ∧ LX11_sum_40 l E (d + 1) bc bs x1 x2 x3 x4 (nI 0) h2 Q))))) : LX11_sum_23 l E (d + 1) bc bs x1 x2 x3 x4 h Q := by
  refine z_iload (pc := 23) dX11_sum_23 rfl ?_
  refine z_bipush (pc := 25) (v := (nI 52)) dX11_sum_25 (by decide) ?_
  refine z_icmp_ge (pc := 27) (tgt := 94) dX11_sum_27 (by decide) (fun c1 => ?_) (fun c1 => ?_)
  · replace H := H.1 c1
    refine z_iload_n (pc := 94) dX11_sum_94 rfl rfl ?_
    exact z_iret (pc := 95) dX11_sum_95 rfl rfl ⟨_, rfl, H⟩
  · replace H := H.2 c1
    refine z_aload_n (pc := 30) dX11_sum_30 rfl rfl ?_
    refine z_getk (pc := 31) dX11_sum_31 fX11_37 rfl (s_0_4 S) ?_
    refine y_VV (pc := 34) (bc := bc) (bs := bs) (mc := 0) (ms := 0) (As := []) (rest := []) dX11_sum_34 kX1_clear lX11_284 ⟨_, _, rfl⟩ rfl rfl (H.use (fun h2 H => ?_))
    have S2 := H.1
    replace H := H.2
    refine z_iconst (pc := 37) (v := (nI 0)) dX11_sum_37 (by decide) ?_
    refine z_istore (pc := 38) (ls' := [some (.inr (some (0, 11, 0))), some (.inl x1), some (.inl x2), some (.inl x3), some (.inl x4), some (.inl (nI 0))]) dX11_sum_38 rfl rfl ?_
    exact H

set_option maxRecDepth 20000 in
theorem bX11_sum_40 {l : Launch} {E : eE} {d bc bs : Nat} {h : aH} {Q : Int32 → aH → Prop} {x1 : Int32} {x2 : Int32} {x3 : Int32} {x4 : Int32} {x5 : Int32} (S : SH h) (H : (((hI h 0 12) ≤ x5 → LX11_sum_23 l E (d + 1) bc bs x1 x2 x3 (x4 + (nI 1)) h Q) ∧ (¬ (hI h 0 12) ≤ x5 → (CI l E d 0 0 mX11_seat [.inr (some (0, 11, 0)), .inl x5, .inl x4, .inl x2, .inl ((nI 1) <<< (x1 &&& 31))] h (fun v2 h2 => SH h2 ∧ ((v2 = 0 → LX11_sum_40 l E (d + 1) bc bs x1 x2 x3 x4 (x5 + (nI 1)) h2 Q) ∧ (¬ v2 = 0 → (vp_in x5 4 ∧ (∃ p5, (hQ h2 4 (x5).toNatClampNeg) = some (0, 10, p5) ∧ isSh p5 ∧ (CI l E d 0 0 mX8_priceFor [.inr (some (0, 8, 26)), .inr (some (0, 10, p5)), .inl x1] h2 (fun v6 h6 => SH h6 ∧ LX11_sum_40 l E (d + 1) bc bs x1 x2 (x3 + v6) x4 (x5 + (nI 1)) h6 Q))))))))))) : LX11_sum_40 l E (d + 1) bc bs x1 x2 x3 x4 x5 h Q := by
  refine z_iload (pc := 40) dX11_sum_40 rfl ?_
  refine z_aload_n (pc := 42) dX11_sum_42 rfl rfl ?_
  refine z_geti (pc := 43) dX11_sum_43 fX11_114 rfl ?_
  refine z_icmp_ge (pc := 46) (tgt := 88) dX11_sum_46 (by decide) (fun c1 => ?_) (fun c1 => ?_)
  · replace H := H.1 c1
    refine z_iinc (pc := 88) (v := (x4 + (nI 1))) (ls' := [some (.inr (some (0, 11, 0))), some (.inl x1), some (.inl x2), some (.inl x3), some (.inl (x4 + (nI 1))), some (.inl x5)]) dX11_sum_88 rfl (by rw [show Int32.ofInt (1) = (nI 1) by decide]) rfl ?_
    refine z_goto (pc := 91) (tgt := 23) dX11_sum_91 (by decide) ?_
    exact z_drop (ls' := [some (.inr (some (0, 11, 0))), some (.inl x1), some (.inl x2), some (.inl x3), some (.inl (x4 + (nI 1))), none]) (by simp [dropL]) H
  · replace H := H.2 c1
    refine z_aload_n (pc := 49) dX11_sum_49 rfl rfl ?_
    refine z_iload (pc := 50) dX11_sum_50 rfl ?_
    refine z_iload (pc := 52) dX11_sum_52 rfl ?_
    refine z_iload_n (pc := 54) dX11_sum_54 rfl rfl ?_
    refine z_iconst (pc := 55) (v := (nI 1)) dX11_sum_55 (by decide) ?_
    refine z_iload_n (pc := 56) dX11_sum_56 rfl rfl ?_
    refine z_ishl (pc := 57) dX11_sum_57 ?_
    refine y_VI (pc := 58) (bc := bc) (bs := bs) (mc := 0) (ms := 0) (As := [.inl x5, .inl x4, .inl x2, .inl ((nI 1) <<< (x1 &&& 31))]) (rest := []) dX11_sum_58 kX11_seat lX11_287 ⟨_, _, rfl⟩ rfl rfl (H.use (fun v2 h2 H => ?_))
    have S2 := H.1
    replace H := H.2
    refine z_if_eq (pc := 61) (tgt := 82) dX11_sum_61 (by decide) (fun c3 => ?_) (fun c3 => ?_)
    · replace H := H.1 c3
      refine z_iinc (pc := 82) (v := (x5 + (nI 1))) (ls' := [some (.inr (some (0, 11, 0))), some (.inl x1), some (.inl x2), some (.inl x3), some (.inl x4), some (.inl (x5 + (nI 1)))]) dX11_sum_82 rfl (by rw [show Int32.ofInt (1) = (nI 1) by decide]) rfl ?_
      refine z_goto (pc := 85) (tgt := 40) dX11_sum_85 (by decide) ?_
      exact H
    · replace H := H.2 c3
      refine z_iload_n (pc := 64) dX11_sum_64 rfl rfl ?_
      refine z_aload_n (pc := 65) dX11_sum_65 rfl rfl ?_
      refine z_getk (pc := 66) dX11_sum_66 fX11_44 rfl (s_0_5 S2) ?_
      refine z_aload_n (pc := 69) dX11_sum_69 rfl rfl ?_
      refine z_getk (pc := 70) dX11_sum_70 fX11_29 rfl (s_0_3 S2) ?_
      refine z_iload (pc := 73) dX11_sum_73 rfl ?_
      have c4 := H.1
      replace H := H.2
      refine z_aald (pc := 75) dX11_sum_75 rfl rfl rfl c4 ?_
      obtain ⟨p5, e5, gp5, H⟩ := H
      refine z_cast e5 ?_
      refine z_iload_n (pc := 76) dX11_sum_76 rfl rfl ?_
      refine y_VI (pc := 77) (bc := bc) (bs := bs) (mc := 0) (ms := 0) (As := [.inr (some (0, 10, p5)), .inl x1]) (rest := [.inl x3]) dX11_sum_77 kX8_priceFor lX11_297 ⟨_, _, rfl⟩ rfl rfl (H.use (fun v6 h6 H => ?_))
      have S6 := H.1
      replace H := H.2
      refine z_iadd (pc := 80) dX11_sum_80 ?_
      refine z_istore_n (pc := 81) (ls' := [some (.inr (some (0, 11, 0))), some (.inl x1), some (.inl x2), some (.inl (x3 + v6)), some (.inl x4), some (.inl x5)]) dX11_sum_81 rfl rfl rfl ?_
      refine z_iinc (pc := 82) (v := (x5 + (nI 1))) (ls' := [some (.inr (some (0, 11, 0))), some (.inl x1), some (.inl x2), some (.inl (x3 + v6)), some (.inl x4), some (.inl (x5 + (nI 1)))]) dX11_sum_82 rfl (by rw [show Int32.ofInt (1) = (nI 1) by decide]) rfl ?_
      refine z_goto (pc := 85) (tgt := 40) dX11_sum_85 (by decide) ?_
      exact H

abbrev LX11_shifted_23 (l : Launch) (E : eE) (d bc bs : Nat) (x1 : Int32) (x2 : Int32) (x3 : Int32) (x4 : Int32) (h : aH) (Q : Int32 → aH → Prop) : Prop := TI l E mX11_shifted d bc bs 23 [some (.inr (some (0, 11, 0))), some (.inl x1), some (.inl x2), some (.inl x3), some (.inl x4), none, none, none] [] h Q

abbrev LX11_shifted_44 (l : Launch) (E : eE) (d bc bs : Nat) (x1 : Int32) (x2 : Int32) (x3 : Int32) (x4 : Int32) (r5 : aR) (x6 : Int32) (h : aH) (Q : Int32 → aH → Prop) : Prop := TI l E mX11_shifted d bc bs 44 [some (.inr (some (0, 11, 0))), some (.inl x1), some (.inl x2), some (.inl x3), some (.inl x4), some (.inr r5), some (.inl x6), none] [] h Q

set_option maxRecDepth 20000 in
theorem bX11_shifted_0 {l : Launch} {E : eE} {d bc bs : Nat} {h : aH} {Q : Int32 → aH → Prop} {x1 : Int32} {x2 : Int32} (S : SH h) (H : (CI l E d 0 0 mX11_isKnown [.inr (some (0, 11, 0)), .inl x1] h (fun v1 h1 => SH h1 ∧ ((v1 = 0 → Q (-1) h1) ∧ (¬ v1 = 0 → (CI l E d 0 0 mX11_isKnown [.inr (some (0, 11, 0)), .inl x2] h1 (fun v3 h3 => SH h3 ∧ ((¬ v3 = 0 → LX11_shifted_23 l E (d + 1) bc bs x1 x2 (nI 0) (nI 0) h3 Q) ∧ (v3 = 0 → Q (-1) h3))))))))) : CI l E (d + 1) bc bs mX11_shifted [.inr (some (0, 11, 0)), .inl x1, .inl x2] h Q := by
  refine CI.of (by decide) rfl ?_
  show TI l E mX11_shifted (d + 1) bc bs 0 [some (.inr (some (0, 11, 0))), some (.inl x1), some (.inl x2), none, none, none, none, none] [] h Q
  refine z_aload_n (pc := 0) dX11_shifted_0 rfl rfl ?_
  refine z_iload_n (pc := 1) dX11_shifted_1 rfl rfl ?_
  refine y_VI (pc := 2) (bc := bc) (bs := bs) (mc := 0) (ms := 0) (As := [.inl x1]) (rest := []) dX11_shifted_2 kX11_isKnown lX11_162 ⟨_, _, rfl⟩ rfl rfl (H.use (fun v1 h1 H => ?_))
  have S1 := H.1
  replace H := H.2
  refine z_if_eq (pc := 5) (tgt := 16) dX11_shifted_5 (by decide) (fun c2 => ?_) (fun c2 => ?_)
  · replace H := H.1 c2
    refine z_iconst (pc := 16) (v := (-1)) dX11_shifted_16 (by decide) ?_
    exact z_iret (pc := 17) dX11_shifted_17 rfl rfl ⟨_, rfl, H⟩
  · replace H := H.2 c2
    refine z_aload_n (pc := 8) dX11_shifted_8 rfl rfl ?_
    refine z_iload_n (pc := 9) dX11_shifted_9 rfl rfl ?_
    refine y_VI (pc := 10) (bc := bc) (bs := bs) (mc := 0) (ms := 0) (As := [.inl x2]) (rest := []) dX11_shifted_10 kX11_isKnown lX11_162 ⟨_, _, rfl⟩ rfl rfl (H.use (fun v3 h3 H => ?_))
    have S3 := H.1
    replace H := H.2
    refine z_if_ne (pc := 13) (tgt := 18) dX11_shifted_13 (by decide) (fun c4 => ?_) (fun c4 => ?_)
    · replace H := H.1 c4
      refine z_iconst (pc := 18) (v := (nI 0)) dX11_shifted_18 (by decide) ?_
      refine z_istore_n (pc := 19) (ls' := [some (.inr (some (0, 11, 0))), some (.inl x1), some (.inl x2), some (.inl (nI 0)), none, none, none, none]) dX11_shifted_19 rfl rfl rfl ?_
      refine z_iconst (pc := 20) (v := (nI 0)) dX11_shifted_20 (by decide) ?_
      refine z_istore (pc := 21) (ls' := [some (.inr (some (0, 11, 0))), some (.inl x1), some (.inl x2), some (.inl (nI 0)), some (.inl (nI 0)), none, none, none]) dX11_shifted_21 rfl rfl ?_
      exact H
    · replace H := H.2 c4
      refine z_iconst (pc := 16) (v := (-1)) dX11_shifted_16 (by decide) ?_
      exact z_iret (pc := 17) dX11_shifted_17 rfl rfl ⟨_, rfl, H⟩

set_option maxRecDepth 20000 in
theorem bX11_shifted_23 {l : Launch} {E : eE} {d bc bs : Nat} {h : aH} {Q : Int32 → aH → Prop} {x1 : Int32} {x2 : Int32} {x3 : Int32} {x4 : Int32} (S : SH h) (H : (((hI h 0 12) ≤ x4 → Q x3 h) ∧ (¬ (hI h 0 12) ≤ x4 → (vp_in x4 4 ∧ LX11_shifted_44 l E (d + 1) bc bs x1 x2 x3 x4 ((hQ h 3 (x4).toNatClampNeg)) (nI 0) h Q)))) : LX11_shifted_23 l E (d + 1) bc bs x1 x2 x3 x4 h Q := by
  refine z_iload (pc := 23) dX11_shifted_23 rfl ?_
  refine z_aload_n (pc := 25) dX11_shifted_25 rfl rfl ?_
  refine z_geti (pc := 26) dX11_shifted_26 fX11_114 rfl ?_
  refine z_icmp_ge (pc := 29) (tgt := 145) dX11_shifted_29 (by decide) (fun c1 => ?_) (fun c1 => ?_)
  · replace H := H.1 c1
    refine z_iload_n (pc := 145) dX11_shifted_145 rfl rfl ?_
    exact z_iret (pc := 146) dX11_shifted_146 rfl rfl ⟨_, rfl, H⟩
  · replace H := H.2 c1
    refine z_aload_n (pc := 32) dX11_shifted_32 rfl rfl ?_
    refine z_getk (pc := 33) dX11_shifted_33 fX11_23 rfl (s_0_2 S) ?_
    refine z_iload (pc := 36) dX11_shifted_36 rfl ?_
    have c2 := H.1
    replace H := H.2
    refine z_aald (pc := 38) dX11_shifted_38 rfl rfl rfl c2 ?_
    refine z_astore (pc := 39) (ls' := [some (.inr (some (0, 11, 0))), some (.inl x1), some (.inl x2), some (.inl x3), some (.inl x4), some (.inr ((hQ h 3 (x4).toNatClampNeg))), none, none]) dX11_shifted_39 rfl rfl ?_
    refine z_iconst (pc := 41) (v := (nI 0)) dX11_shifted_41 (by decide) ?_
    refine z_istore (pc := 42) (ls' := [some (.inr (some (0, 11, 0))), some (.inl x1), some (.inl x2), some (.inl x3), some (.inl x4), some (.inr ((hQ h 3 (x4).toNatClampNeg))), some (.inl (nI 0)), none]) dX11_shifted_42 rfl rfl ?_
    exact H

set_option maxRecDepth 20000 in
theorem bX11_shifted_44 {l : Launch} {E : eE} {d bc bs : Nat} {h : aH} {Q : Int32 → aH → Prop} {x1 : Int32} {x2 : Int32} {x3 : Int32} {x4 : Int32} {r5 : aR} {x6 : Int32} (S : SH h) (H : (((nI 52) ≤ x6 → LX11_shifted_23 l E (d + 1) bc bs x1 x2 x3 (x4 + (nI 1)) h Q) ∧ (¬ (nI 52) ≤ x6 → (∃ p2, r5 = some (0, 9, p2) ∧ (∃ p3, (hR h p2 6) = some (1, 52, p3) ∧ (vp_in x6 52 ∧ (((hA h p3 (x6).toNatClampNeg) = (-1) → LX11_shifted_44 l E (d + 1) bc bs x1 x2 x3 x4 r5 (x6 + (nI 1)) h Q) ∧ (¬ (hA h p3 (x6).toNatClampNeg) = (-1) → (CI l E d 0 0 mX9_firstOf [.inr (some (0, 9, p2)), .inl (hA h p3 (x6).toNatClampNeg)] h (fun v6 h6 => SH h6 ∧ (CI l E d 0 0 mX9_startOf [.inr (some (0, 9, p2)), .inl v6, .inl x6] h6 (fun v7 h7 => SH h7 ∧ (CI l E d 0 0 mX11_isShifted [.inr (some (0, 11, 0)), .inr (some (0, 9, p2)), .inl v7, .inl x1, .inl x2] h7 (fun v8 h8 => SH h8 ∧ ((v8 = 0 → (CI l E d 0 0 mX9_secondOf [.inr (some (0, 9, p2)), .inl (hA h p3 (x6).toNatClampNeg)] h8 (fun v10 h10 => SH h10 ∧ (CI l E d 0 0 mX9_startOf [.inr (some (0, 9, p2)), .inl v10, .inl x6] h10 (fun v11 h11 => SH h11 ∧ (CI l E d 0 0 mX11_isShifted [.inr (some (0, 11, 0)), .inr (some (0, 9, p2)), .inl v11, .inl x1, .inl x2] h11 (fun v12 h12 => SH h12 ∧ ((v12 = 0 → LX11_shifted_44 l E (d + 1) bc bs x1 x2 ((x3 + (nI 0)) + (nI 0)) x4 r5 (x6 + (nI 1)) h12 Q) ∧ (¬ v12 = 0 → LX11_shifted_44 l E (d + 1) bc bs x1 x2 ((x3 + (nI 0)) + (nI 1)) x4 r5 (x6 + (nI 1)) h12 Q))))))))) ∧ (¬ v8 = 0 → (CI l E d 0 0 mX9_secondOf [.inr (some (0, 9, p2)), .inl (hA h p3 (x6).toNatClampNeg)] h8 (fun v14 h14 => SH h14 ∧ (CI l E d 0 0 mX9_startOf [.inr (some (0, 9, p2)), .inl v14, .inl x6] h14 (fun v15 h15 => SH h15 ∧ (CI l E d 0 0 mX11_isShifted [.inr (some (0, 11, 0)), .inr (some (0, 9, p2)), .inl v15, .inl x1, .inl x2] h15 (fun v16 h16 => SH h16 ∧ ((v16 = 0 → LX11_shifted_44 l E (d + 1) bc bs x1 x2 ((x3 + (nI 1)) + (nI 0)) x4 r5 (x6 + (nI 1)) h16 Q) ∧ (¬ v16 = 0 → LX11_shifted_44 l E (d + 1) bc bs x1 x2 ((x3 + (nI 1)) + (nI 1)) x4 r5 (x6 + (nI 1)) h16 Q)))))))))))))))))))))))) : LX11_shifted_44 l E (d + 1) bc bs x1 x2 x3 x4 r5 x6 h Q := by
  refine z_iload (pc := 44) dX11_shifted_44 rfl ?_
  refine z_bipush (pc := 46) (v := (nI 52)) dX11_shifted_46 (by decide) ?_
  refine z_icmp_ge (pc := 48) (tgt := 139) dX11_shifted_48 (by decide) (fun c1 => ?_) (fun c1 => ?_)
  · replace H := H.1 c1
    refine z_iinc (pc := 139) (v := (x4 + (nI 1))) (ls' := [some (.inr (some (0, 11, 0))), some (.inl x1), some (.inl x2), some (.inl x3), some (.inl (x4 + (nI 1))), some (.inr r5), some (.inl x6), none]) dX11_shifted_139 rfl (by rw [show Int32.ofInt (1) = (nI 1) by decide]) rfl ?_
    refine z_goto (pc := 142) (tgt := 23) dX11_shifted_142 (by decide) ?_
    exact z_drop (ls' := [some (.inr (some (0, 11, 0))), some (.inl x1), some (.inl x2), some (.inl x3), some (.inl (x4 + (nI 1))), none, none, none]) (by simp [dropL]) H
  · replace H := H.2 c1
    refine z_aload (pc := 51) dX11_shifted_51 rfl ?_
    obtain ⟨p2, e2, H⟩ := H
    refine z_cast e2 ?_
    refine z_getr (pc := 53) dX11_shifted_53 fX11_246 rfl ?_
    obtain ⟨p3, e3, H⟩ := H
    refine z_cast e3 ?_
    refine z_iload (pc := 56) dX11_shifted_56 rfl ?_
    have c4 := H.1
    replace H := H.2
    refine z_iald (pc := 58) dX11_shifted_58 c4 ?_
    refine z_istore (pc := 59) (ls' := [some (.inr (some (0, 11, 0))), some (.inl x1), some (.inl x2), some (.inl x3), some (.inl x4), some (.inr r5), some (.inl x6), some (.inl (hA h p3 (x6).toNatClampNeg))]) dX11_shifted_59 rfl rfl ?_
    refine z_iload (pc := 61) dX11_shifted_61 rfl ?_
    refine z_iconst (pc := 63) (v := (-1)) dX11_shifted_63 (by decide) ?_
    refine z_icmp_eq (pc := 64) (tgt := 133) dX11_shifted_64 (by decide) (fun c5 => ?_) (fun c5 => ?_)
    · replace H := H.1 c5
      refine z_iinc (pc := 133) (v := (x6 + (nI 1))) (ls' := [some (.inr (some (0, 11, 0))), some (.inl x1), some (.inl x2), some (.inl x3), some (.inl x4), some (.inr r5), some (.inl (x6 + (nI 1))), some (.inl (hA h p3 (x6).toNatClampNeg))]) dX11_shifted_133 rfl (by rw [show Int32.ofInt (1) = (nI 1) by decide]) rfl ?_
      refine z_goto (pc := 136) (tgt := 44) dX11_shifted_136 (by decide) ?_
      exact z_drop (ls' := [some (.inr (some (0, 11, 0))), some (.inl x1), some (.inl x2), some (.inl x3), some (.inl x4), some (.inr r5), some (.inl (x6 + (nI 1))), none]) (by simp [dropL]) H
    · replace H := H.2 c5
      refine z_iload_n (pc := 67) dX11_shifted_67 rfl rfl ?_
      refine z_aload_n (pc := 68) dX11_shifted_68 rfl rfl ?_
      refine z_aload (pc := 69) dX11_shifted_69 rfl ?_
      refine z_cast e2 ?_
      refine z_aload (pc := 71) dX11_shifted_71 rfl ?_
      refine z_cast e2 ?_
      refine z_aload (pc := 73) dX11_shifted_73 rfl ?_
      refine z_cast e2 ?_
      refine z_iload (pc := 75) dX11_shifted_75 rfl ?_
      refine y_VI (pc := 77) (bc := bc) (bs := bs) (mc := 0) (ms := 0) (As := [.inl (hA h p3 (x6).toNatClampNeg)]) (rest := [.inr (some (0, 9, p2)), .inr (some (0, 9, p2)), .inr (some (0, 11, 0)), .inl x3]) dX11_shifted_77 kX9_firstOf lX11_275 ⟨_, _, rfl⟩ rfl rfl (H.use (fun v6 h6 H => ?_))
      have S6 := H.1
      replace H := H.2
      refine z_iload (pc := 80) dX11_shifted_80 rfl ?_
      refine y_VI (pc := 82) (bc := bc) (bs := bs) (mc := 0) (ms := 0) (As := [.inl v6, .inl x6]) (rest := [.inr (some (0, 9, p2)), .inr (some (0, 11, 0)), .inl x3]) dX11_shifted_82 kX9_startOf lX11_281 ⟨_, _, rfl⟩ rfl rfl (H.use (fun v7 h7 H => ?_))
      have S7 := H.1
      replace H := H.2
      refine z_iload_n (pc := 85) dX11_shifted_85 rfl rfl ?_
      refine z_iload_n (pc := 86) dX11_shifted_86 rfl rfl ?_
      refine y_VI (pc := 87) (bc := bc) (bs := bs) (mc := 0) (ms := 0) (As := [.inr (some (0, 9, p2)), .inl v7, .inl x1, .inl x2]) (rest := [.inl x3]) dX11_shifted_87 kX11_isShifted lX11_301 ⟨_, _, rfl⟩ rfl rfl (H.use (fun v8 h8 H => ?_))
      have S8 := H.1
      replace H := H.2
      refine z_if_eq (pc := 90) (tgt := 97) dX11_shifted_90 (by decide) (fun c9 => ?_) (fun c9 => ?_)
      · replace H := H.1 c9
        refine z_iconst (pc := 97) (v := (nI 0)) dX11_shifted_97 (by decide) ?_
        refine z_iadd (pc := 98) dX11_shifted_98 ?_
        refine z_istore_n (pc := 99) (ls' := [some (.inr (some (0, 11, 0))), some (.inl x1), some (.inl x2), some (.inl (x3 + (nI 0))), some (.inl x4), some (.inr r5), some (.inl x6), some (.inl (hA h p3 (x6).toNatClampNeg))]) dX11_shifted_99 rfl rfl rfl ?_
        refine z_iload_n (pc := 100) dX11_shifted_100 rfl rfl ?_
        refine z_aload_n (pc := 101) dX11_shifted_101 rfl rfl ?_
        refine z_aload (pc := 102) dX11_shifted_102 rfl ?_
        refine z_cast e2 ?_
        refine z_aload (pc := 104) dX11_shifted_104 rfl ?_
        refine z_cast e2 ?_
        refine z_aload (pc := 106) dX11_shifted_106 rfl ?_
        refine z_cast e2 ?_
        refine z_iload (pc := 108) dX11_shifted_108 rfl ?_
        refine y_VI (pc := 110) (bc := bc) (bs := bs) (mc := 0) (ms := 0) (As := [.inl (hA h p3 (x6).toNatClampNeg)]) (rest := [.inr (some (0, 9, p2)), .inr (some (0, 9, p2)), .inr (some (0, 11, 0)), .inl (x3 + (nI 0))]) dX11_shifted_110 kX9_secondOf lX11_278 ⟨_, _, rfl⟩ rfl rfl (H.use (fun v10 h10 H => ?_))
        have S10 := H.1
        replace H := H.2
        refine z_iload (pc := 113) dX11_shifted_113 rfl ?_
        refine y_VI (pc := 115) (bc := bc) (bs := bs) (mc := 0) (ms := 0) (As := [.inl v10, .inl x6]) (rest := [.inr (some (0, 9, p2)), .inr (some (0, 11, 0)), .inl (x3 + (nI 0))]) dX11_shifted_115 kX9_startOf lX11_281 ⟨_, _, rfl⟩ rfl rfl (H.use (fun v11 h11 H => ?_))
        have S11 := H.1
        replace H := H.2
        refine z_iload_n (pc := 118) dX11_shifted_118 rfl rfl ?_
        refine z_iload_n (pc := 119) dX11_shifted_119 rfl rfl ?_
        refine y_VI (pc := 120) (bc := bc) (bs := bs) (mc := 0) (ms := 0) (As := [.inr (some (0, 9, p2)), .inl v11, .inl x1, .inl x2]) (rest := [.inl (x3 + (nI 0))]) dX11_shifted_120 kX11_isShifted lX11_301 ⟨_, _, rfl⟩ rfl rfl (H.use (fun v12 h12 H => ?_))
        have S12 := H.1
        replace H := H.2
        refine z_if_eq (pc := 123) (tgt := 130) dX11_shifted_123 (by decide) (fun c13 => ?_) (fun c13 => ?_)
        · replace H := H.1 c13
          refine z_iconst (pc := 130) (v := (nI 0)) dX11_shifted_130 (by decide) ?_
          refine z_iadd (pc := 131) dX11_shifted_131 ?_
          refine z_istore_n (pc := 132) (ls' := [some (.inr (some (0, 11, 0))), some (.inl x1), some (.inl x2), some (.inl ((x3 + (nI 0)) + (nI 0))), some (.inl x4), some (.inr r5), some (.inl x6), some (.inl (hA h p3 (x6).toNatClampNeg))]) dX11_shifted_132 rfl rfl rfl ?_
          refine z_iinc (pc := 133) (v := (x6 + (nI 1))) (ls' := [some (.inr (some (0, 11, 0))), some (.inl x1), some (.inl x2), some (.inl ((x3 + (nI 0)) + (nI 0))), some (.inl x4), some (.inr r5), some (.inl (x6 + (nI 1))), some (.inl (hA h p3 (x6).toNatClampNeg))]) dX11_shifted_133 rfl (by rw [show Int32.ofInt (1) = (nI 1) by decide]) rfl ?_
          refine z_goto (pc := 136) (tgt := 44) dX11_shifted_136 (by decide) ?_
          exact z_drop (ls' := [some (.inr (some (0, 11, 0))), some (.inl x1), some (.inl x2), some (.inl ((x3 + (nI 0)) + (nI 0))), some (.inl x4), some (.inr r5), some (.inl (x6 + (nI 1))), none]) (by simp [dropL]) H
        · replace H := H.2 c13
          refine z_iconst (pc := 126) (v := (nI 1)) dX11_shifted_126 (by decide) ?_
          refine z_goto (pc := 127) (tgt := 131) dX11_shifted_127 (by decide) ?_
          refine z_iadd (pc := 131) dX11_shifted_131 ?_
          refine z_istore_n (pc := 132) (ls' := [some (.inr (some (0, 11, 0))), some (.inl x1), some (.inl x2), some (.inl ((x3 + (nI 0)) + (nI 1))), some (.inl x4), some (.inr r5), some (.inl x6), some (.inl (hA h p3 (x6).toNatClampNeg))]) dX11_shifted_132 rfl rfl rfl ?_
          refine z_iinc (pc := 133) (v := (x6 + (nI 1))) (ls' := [some (.inr (some (0, 11, 0))), some (.inl x1), some (.inl x2), some (.inl ((x3 + (nI 0)) + (nI 1))), some (.inl x4), some (.inr r5), some (.inl (x6 + (nI 1))), some (.inl (hA h p3 (x6).toNatClampNeg))]) dX11_shifted_133 rfl (by rw [show Int32.ofInt (1) = (nI 1) by decide]) rfl ?_
          refine z_goto (pc := 136) (tgt := 44) dX11_shifted_136 (by decide) ?_
          exact z_drop (ls' := [some (.inr (some (0, 11, 0))), some (.inl x1), some (.inl x2), some (.inl ((x3 + (nI 0)) + (nI 1))), some (.inl x4), some (.inr r5), some (.inl (x6 + (nI 1))), none]) (by simp [dropL]) H
      · replace H := H.2 c9
        refine z_iconst (pc := 93) (v := (nI 1)) dX11_shifted_93 (by decide) ?_
        refine z_goto (pc := 94) (tgt := 98) dX11_shifted_94 (by decide) ?_
        refine z_iadd (pc := 98) dX11_shifted_98 ?_
        refine z_istore_n (pc := 99) (ls' := [some (.inr (some (0, 11, 0))), some (.inl x1), some (.inl x2), some (.inl (x3 + (nI 1))), some (.inl x4), some (.inr r5), some (.inl x6), some (.inl (hA h p3 (x6).toNatClampNeg))]) dX11_shifted_99 rfl rfl rfl ?_
        refine z_iload_n (pc := 100) dX11_shifted_100 rfl rfl ?_
        refine z_aload_n (pc := 101) dX11_shifted_101 rfl rfl ?_
        refine z_aload (pc := 102) dX11_shifted_102 rfl ?_
        refine z_cast e2 ?_
        refine z_aload (pc := 104) dX11_shifted_104 rfl ?_
        refine z_cast e2 ?_
        refine z_aload (pc := 106) dX11_shifted_106 rfl ?_
        refine z_cast e2 ?_
        refine z_iload (pc := 108) dX11_shifted_108 rfl ?_
        refine y_VI (pc := 110) (bc := bc) (bs := bs) (mc := 0) (ms := 0) (As := [.inl (hA h p3 (x6).toNatClampNeg)]) (rest := [.inr (some (0, 9, p2)), .inr (some (0, 9, p2)), .inr (some (0, 11, 0)), .inl (x3 + (nI 1))]) dX11_shifted_110 kX9_secondOf lX11_278 ⟨_, _, rfl⟩ rfl rfl (H.use (fun v14 h14 H => ?_))
        have S14 := H.1
        replace H := H.2
        refine z_iload (pc := 113) dX11_shifted_113 rfl ?_
        refine y_VI (pc := 115) (bc := bc) (bs := bs) (mc := 0) (ms := 0) (As := [.inl v14, .inl x6]) (rest := [.inr (some (0, 9, p2)), .inr (some (0, 11, 0)), .inl (x3 + (nI 1))]) dX11_shifted_115 kX9_startOf lX11_281 ⟨_, _, rfl⟩ rfl rfl (H.use (fun v15 h15 H => ?_))
        have S15 := H.1
        replace H := H.2
        refine z_iload_n (pc := 118) dX11_shifted_118 rfl rfl ?_
        refine z_iload_n (pc := 119) dX11_shifted_119 rfl rfl ?_
        refine y_VI (pc := 120) (bc := bc) (bs := bs) (mc := 0) (ms := 0) (As := [.inr (some (0, 9, p2)), .inl v15, .inl x1, .inl x2]) (rest := [.inl (x3 + (nI 1))]) dX11_shifted_120 kX11_isShifted lX11_301 ⟨_, _, rfl⟩ rfl rfl (H.use (fun v16 h16 H => ?_))
        have S16 := H.1
        replace H := H.2
        refine z_if_eq (pc := 123) (tgt := 130) dX11_shifted_123 (by decide) (fun c17 => ?_) (fun c17 => ?_)
        · replace H := H.1 c17
          refine z_iconst (pc := 130) (v := (nI 0)) dX11_shifted_130 (by decide) ?_
          refine z_iadd (pc := 131) dX11_shifted_131 ?_
          refine z_istore_n (pc := 132) (ls' := [some (.inr (some (0, 11, 0))), some (.inl x1), some (.inl x2), some (.inl ((x3 + (nI 1)) + (nI 0))), some (.inl x4), some (.inr r5), some (.inl x6), some (.inl (hA h p3 (x6).toNatClampNeg))]) dX11_shifted_132 rfl rfl rfl ?_
          refine z_iinc (pc := 133) (v := (x6 + (nI 1))) (ls' := [some (.inr (some (0, 11, 0))), some (.inl x1), some (.inl x2), some (.inl ((x3 + (nI 1)) + (nI 0))), some (.inl x4), some (.inr r5), some (.inl (x6 + (nI 1))), some (.inl (hA h p3 (x6).toNatClampNeg))]) dX11_shifted_133 rfl (by rw [show Int32.ofInt (1) = (nI 1) by decide]) rfl ?_
          refine z_goto (pc := 136) (tgt := 44) dX11_shifted_136 (by decide) ?_
          exact z_drop (ls' := [some (.inr (some (0, 11, 0))), some (.inl x1), some (.inl x2), some (.inl ((x3 + (nI 1)) + (nI 0))), some (.inl x4), some (.inr r5), some (.inl (x6 + (nI 1))), none]) (by simp [dropL]) H
        · replace H := H.2 c17
          refine z_iconst (pc := 126) (v := (nI 1)) dX11_shifted_126 (by decide) ?_
          refine z_goto (pc := 127) (tgt := 131) dX11_shifted_127 (by decide) ?_
          refine z_iadd (pc := 131) dX11_shifted_131 ?_
          refine z_istore_n (pc := 132) (ls' := [some (.inr (some (0, 11, 0))), some (.inl x1), some (.inl x2), some (.inl ((x3 + (nI 1)) + (nI 1))), some (.inl x4), some (.inr r5), some (.inl x6), some (.inl (hA h p3 (x6).toNatClampNeg))]) dX11_shifted_132 rfl rfl rfl ?_
          refine z_iinc (pc := 133) (v := (x6 + (nI 1))) (ls' := [some (.inr (some (0, 11, 0))), some (.inl x1), some (.inl x2), some (.inl ((x3 + (nI 1)) + (nI 1))), some (.inl x4), some (.inr r5), some (.inl (x6 + (nI 1))), some (.inl (hA h p3 (x6).toNatClampNeg))]) dX11_shifted_133 rfl (by rw [show Int32.ofInt (1) = (nI 1) by decide]) rfl ?_
          refine z_goto (pc := 136) (tgt := 44) dX11_shifted_136 (by decide) ?_
          exact z_drop (ls' := [some (.inr (some (0, 11, 0))), some (.inl x1), some (.inl x2), some (.inl ((x3 + (nI 1)) + (nI 1))), some (.inl x4), some (.inr r5), some (.inl (x6 + (nI 1))), none]) (by simp [dropL]) H

set_option maxRecDepth 20000 in
theorem bX11_planned_0 {l : Launch} {E : eE} {d bc bs : Nat} {h : aH} {Q : Int32 → aH → Prop} {x1 : Int32} {x2 : Int32} {x3 : Int32} (S : SH h) (H : (CR l E d 0 0 mX11_seriesAt [.inr (some (0, 11, 0)), .inl x1] h (fun v1 h1 => SH h1 ∧ ((v1 = none → Q (-1) h1) ∧ (∀ q2, v1 = some q2 → (CI l E d 0 0 mX11_isWeek [.inl x2] h1 (fun v3 h3 => SH h3 ∧ ((v3 = 0 → Q (-1) h3) ∧ (¬ v3 = 0 → (∃ p5, v1 = some (0, 9, p5) ∧ (∃ p6, (hR h3 p5 6) = some (1, 52, p6) ∧ (vp_in x2 52 ∧ ((¬ (hA h3 p6 (x2).toNatClampNeg) = (-1) → (CI l E d 0 0 mX9_firstOf [.inr (some (0, 9, p5)), .inl (hA h3 p6 (x2).toNatClampNeg)] h3 (fun v9 h9 => SH h9 ∧ (∃ p10, (hR h9 p5 6) = some (1, 52, p10) ∧ (CI l E d 0 0 mX9_secondOf [.inr (some (0, 9, p5)), .inl (hA h9 p10 (x2).toNatClampNeg)] h9 (fun v11 h11 => SH h11 ∧ ((x3 = nI 0 → Q v9 h11) ∧ (x3 = nI 1 → Q v11 h11) ∧ (x3 = nI 2 → (CI l E d 0 0 mX9_startOf [.inr (some (0, 9, p5)), .inl v9, .inl x2] h11 (fun v13 h13 => SH h13 ∧ Q v13 h13))) ∧ (x3 = nI 3 → (CI l E d 0 0 mX9_startOf [.inr (some (0, 9, p5)), .inl v11, .inl x2] h11 (fun v14 h14 => SH h14 ∧ Q v14 h14))) ∧ ((x3).toInt < 0 ∨ 3 < (x3).toInt → Q (-1) h11)))))))) ∧ ((hA h3 p6 (x2).toNatClampNeg) = (-1) → Q (-1) h3)))))))))))))) : CI l E (d + 1) bc bs mX11_planned [.inr (some (0, 11, 0)), .inl x1, .inl x2, .inl x3] h Q := by
  refine CI.of (by decide) rfl ?_
  show TI l E mX11_planned (d + 1) bc bs 0 [some (.inr (some (0, 11, 0))), some (.inl x1), some (.inl x2), some (.inl x3), none, none, none] [] h Q
  refine z_aload_n (pc := 0) dX11_planned_0 rfl rfl ?_
  refine z_iload_n (pc := 1) dX11_planned_1 rfl rfl ?_
  refine y_VR (pc := 2) (bc := bc) (bs := bs) (mc := 0) (ms := 0) (As := [.inl x1]) (rest := []) dX11_planned_2 kX11_seriesAt lX11_110 ⟨_, _, rfl⟩ rfl rfl (H.use (fun v1 h1 H => ?_))
  have S1 := H.1
  replace H := H.2
  refine z_astore (pc := 5) (ls' := [some (.inr (some (0, 11, 0))), some (.inl x1), some (.inl x2), some (.inl x3), some (.inr v1), none, none]) dX11_planned_5 rfl rfl ?_
  refine z_aload (pc := 7) dX11_planned_7 rfl ?_
  refine z_ifnull (pc := 9) (tgt := 30) dX11_planned_9 (by decide) (fun c2 => ?_) (fun q2 c2 => ?_)
  · replace H := H.1 c2
    refine z_iconst (pc := 30) (v := (-1)) dX11_planned_30 (by decide) ?_
    exact z_iret (pc := 31) dX11_planned_31 rfl rfl ⟨_, rfl, H⟩
  · replace H := H.2 q2 c2
    refine z_iload_n (pc := 12) dX11_planned_12 rfl rfl ?_
    refine y_SI (pc := 13) (bc := bc) (bs := bs) (mc := 0) (ms := 0) (As := [.inl x2]) (rest := []) dX11_planned_13 kX11_isWeek lX11_156 rfl rfl (H.use (fun v3 h3 H => ?_))
    have S3 := H.1
    replace H := H.2
    refine z_if_eq (pc := 16) (tgt := 30) dX11_planned_16 (by decide) (fun c4 => ?_) (fun c4 => ?_)
    · replace H := H.1 c4
      refine z_iconst (pc := 30) (v := (-1)) dX11_planned_30 (by decide) ?_
      exact z_iret (pc := 31) dX11_planned_31 rfl rfl ⟨_, rfl, H⟩
    · replace H := H.2 c4
      refine z_aload (pc := 19) dX11_planned_19 rfl ?_
      obtain ⟨p5, e5, H⟩ := H
      refine z_cast e5 ?_
      refine z_getr (pc := 21) dX11_planned_21 fX11_246 rfl ?_
      obtain ⟨p6, e6, H⟩ := H
      refine z_cast e6 ?_
      refine z_iload_n (pc := 24) dX11_planned_24 rfl rfl ?_
      have c7 := H.1
      replace H := H.2
      refine z_iald (pc := 25) dX11_planned_25 c7 ?_
      refine z_iconst (pc := 26) (v := (-1)) dX11_planned_26 (by decide) ?_
      refine z_icmp_ne (pc := 27) (tgt := 32) dX11_planned_27 (by decide) (fun c8 => ?_) (fun c8 => ?_)
      · replace H := H.1 c8
        refine z_aload (pc := 32) dX11_planned_32 rfl ?_
        refine z_cast e5 ?_
        refine z_aload (pc := 34) dX11_planned_34 rfl ?_
        refine z_cast e5 ?_
        refine z_getr (pc := 36) dX11_planned_36 fX11_246 rfl ?_
        refine z_cast e6 ?_
        refine z_iload_n (pc := 39) dX11_planned_39 rfl rfl ?_
        refine z_iald (pc := 40) dX11_planned_40 c7 ?_
        refine y_VI (pc := 41) (bc := bc) (bs := bs) (mc := 0) (ms := 0) (As := [.inl (hA h3 p6 (x2).toNatClampNeg)]) (rest := []) dX11_planned_41 kX9_firstOf lX11_275 ⟨_, _, rfl⟩ rfl rfl (H.use (fun v9 h9 H => ?_))
        have S9 := H.1
        replace H := H.2
        refine z_istore (pc := 44) (ls' := [some (.inr (some (0, 11, 0))), some (.inl x1), some (.inl x2), some (.inl x3), some (.inr v1), some (.inl v9), none]) dX11_planned_44 rfl rfl ?_
        refine z_aload (pc := 46) dX11_planned_46 rfl ?_
        refine z_cast e5 ?_
        refine z_aload (pc := 48) dX11_planned_48 rfl ?_
        refine z_cast e5 ?_
        refine z_getr (pc := 50) dX11_planned_50 fX11_246 rfl ?_
        obtain ⟨p10, e10, H⟩ := H
        refine z_cast e10 ?_
        refine z_iload_n (pc := 53) dX11_planned_53 rfl rfl ?_
        refine z_iald (pc := 54) dX11_planned_54 c7 ?_
        refine y_VI (pc := 55) (bc := bc) (bs := bs) (mc := 0) (ms := 0) (As := [.inl (hA h9 p10 (x2).toNatClampNeg)]) (rest := []) dX11_planned_55 kX9_secondOf lX11_278 ⟨_, _, rfl⟩ rfl rfl (H.use (fun v11 h11 H => ?_))
        have S11 := H.1
        replace H := H.2
        refine z_istore (pc := 58) (ls' := [some (.inr (some (0, 11, 0))), some (.inl x1), some (.inl x2), some (.inl x3), some (.inr v1), some (.inl v9), some (.inl v11)]) dX11_planned_58 rfl rfl ?_
        refine z_iload_n (pc := 60) dX11_planned_60 rfl rfl ?_
        refine z_table (pc := 61) (tgtD := 116) [92, 95, 98, 107] dX11_planned_61 (by decide) (by decide) (by decide) ?_ (fun c12 => ?_)
        · refine And.intro (fun c12 => ?_) (And.intro (fun c12 => ?_) (And.intro (fun c12 => ?_) (And.intro (fun c12 => ?_) (trivial))))
          · replace H := H.1 c12
            refine z_iload (pc := 92) dX11_planned_92 rfl ?_
            exact z_iret (pc := 94) dX11_planned_94 rfl rfl ⟨_, rfl, H⟩
          · replace H := H.2.1 c12
            refine z_iload (pc := 95) dX11_planned_95 rfl ?_
            exact z_iret (pc := 97) dX11_planned_97 rfl rfl ⟨_, rfl, H⟩
          · replace H := H.2.2.1 c12
            refine z_aload (pc := 98) dX11_planned_98 rfl ?_
            refine z_cast e5 ?_
            refine z_iload (pc := 100) dX11_planned_100 rfl ?_
            refine z_iload_n (pc := 102) dX11_planned_102 rfl rfl ?_
            refine y_VI (pc := 103) (bc := bc) (bs := bs) (mc := 0) (ms := 0) (As := [.inl v9, .inl x2]) (rest := []) dX11_planned_103 kX9_startOf lX11_281 ⟨_, _, rfl⟩ rfl rfl (H.use (fun v13 h13 H => ?_))
            have S13 := H.1
            replace H := H.2
            exact z_iret (pc := 106) dX11_planned_106 rfl rfl ⟨_, rfl, H⟩
          · replace H := H.2.2.2.1 c12
            refine z_aload (pc := 107) dX11_planned_107 rfl ?_
            refine z_cast e5 ?_
            refine z_iload (pc := 109) dX11_planned_109 rfl ?_
            refine z_iload_n (pc := 111) dX11_planned_111 rfl rfl ?_
            refine y_VI (pc := 112) (bc := bc) (bs := bs) (mc := 0) (ms := 0) (As := [.inl v11, .inl x2]) (rest := []) dX11_planned_112 kX9_startOf lX11_281 ⟨_, _, rfl⟩ rfl rfl (H.use (fun v14 h14 H => ?_))
            have S14 := H.1
            replace H := H.2
            exact z_iret (pc := 115) dX11_planned_115 rfl rfl ⟨_, rfl, H⟩
        · replace H := H.2.2.2.2 c12
          refine z_iconst (pc := 116) (v := (-1)) dX11_planned_116 (by decide) ?_
          exact z_iret (pc := 117) dX11_planned_117 rfl rfl ⟨_, rfl, H⟩
      · replace H := H.2 c8
        refine z_iconst (pc := 30) (v := (-1)) dX11_planned_30 (by decide) ?_
        exact z_iret (pc := 31) dX11_planned_31 rfl rfl ⟨_, rfl, H⟩

set_option maxRecDepth 20000 in
theorem bX11_local_0 {l : Launch} {E : eE} {d bc bs : Nat} {h : aH} {Q : Int32 → aH → Prop} {x1 : Int32} {x2 : Int32} {x3 : Int32} {x4 : Int32} (S : SH h) (H : (CR l E d 0 0 mX11_landAt [.inr (some (0, 11, 0)), .inl x1] h (fun v1 h1 => SH h1 ∧ ((v1 = none → Q (-1000000) h1) ∧ (∀ q2, v1 = some q2 → (CI l E d 0 0 mX11_isSlot [.inl x2] h1 (fun v3 h3 => SH h3 ∧ ((v3 = 0 → Q (-1000000) h3) ∧ (¬ v3 = 0 → (CI l E d 0 0 mX11_isKnown [.inr (some (0, 11, 0)), .inl x3] h3 (fun v5 h5 => SH h5 ∧ ((¬ v5 = 0 → (∃ p7, v1 = some (0, 4, p7) ∧ (CI l E d 0 0 mX4_offsetAt [.inr (some (0, 4, p7)), .inl x2, .inl x3] h5 (fun v8 h8 => SH h8 ∧ (CI l E d 0 0 mJ9_floorDiv_7cf53 [.inl (x2 + v8), .inl (nI 48)] h8 (fun v9 h9 => SH h9 ∧ ((x4 = nI 0 → Q v9 h9) ∧ (x4 = nI 1 → (CI l E d 0 0 mJ9_floorMod_7cf53 [.inl (x2 + v8), .inl (nI 48)] h9 (fun v11 h11 => SH h11 ∧ Q v11 h11))) ∧ (x4 = nI 2 → (CI l E d 0 0 mJ9_floorMod_7cf53 [.inl v9, .inl (nI 7)] h9 (fun v12 h12 => SH h12 ∧ Q v12 h12))) ∧ (x4 = nI 3 → Q v8 h9) ∧ ((x4).toInt < 0 ∨ 3 < (x4).toInt → Q (-1000000) h9)))))))) ∧ (v5 = 0 → Q (-1000000) h5))))))))))))) : CI l E (d + 1) bc bs mX11_local [.inr (some (0, 11, 0)), .inl x1, .inl x2, .inl x3, .inl x4] h Q := by
  refine CI.of (by decide) rfl ?_
  show TI l E mX11_local (d + 1) bc bs 0 [some (.inr (some (0, 11, 0))), some (.inl x1), some (.inl x2), some (.inl x3), some (.inl x4), none, none, none] [] h Q
  refine z_aload_n (pc := 0) dX11_local_0 rfl rfl ?_
  refine z_iload_n (pc := 1) dX11_local_1 rfl rfl ?_
  refine y_VR (pc := 2) (bc := bc) (bs := bs) (mc := 0) (ms := 0) (As := [.inl x1]) (rest := []) dX11_local_2 kX11_landAt lX11_80 ⟨_, _, rfl⟩ rfl rfl (H.use (fun v1 h1 H => ?_))
  have S1 := H.1
  replace H := H.2
  refine z_astore (pc := 5) (ls' := [some (.inr (some (0, 11, 0))), some (.inl x1), some (.inl x2), some (.inl x3), some (.inl x4), some (.inr v1), none, none]) dX11_local_5 rfl rfl ?_
  refine z_aload (pc := 7) dX11_local_7 rfl ?_
  refine z_ifnull (pc := 9) (tgt := 27) dX11_local_9 (by decide) (fun c2 => ?_) (fun q2 c2 => ?_)
  · replace H := H.1 c2
    refine z_ldc (pc := 27) (v := (-1000000)) dX11_local_27 tX11_165 ?_
    exact z_iret (pc := 29) dX11_local_29 rfl rfl ⟨_, rfl, H⟩
  · replace H := H.2 q2 c2
    refine z_iload_n (pc := 12) dX11_local_12 rfl rfl ?_
    refine y_SI (pc := 13) (bc := bc) (bs := bs) (mc := 0) (ms := 0) (As := [.inl x2]) (rest := []) dX11_local_13 kX11_isSlot lX11_138 rfl rfl (H.use (fun v3 h3 H => ?_))
    have S3 := H.1
    replace H := H.2
    refine z_if_eq (pc := 16) (tgt := 27) dX11_local_16 (by decide) (fun c4 => ?_) (fun c4 => ?_)
    · replace H := H.1 c4
      refine z_ldc (pc := 27) (v := (-1000000)) dX11_local_27 tX11_165 ?_
      exact z_iret (pc := 29) dX11_local_29 rfl rfl ⟨_, rfl, H⟩
    · replace H := H.2 c4
      refine z_aload_n (pc := 19) dX11_local_19 rfl rfl ?_
      refine z_iload_n (pc := 20) dX11_local_20 rfl rfl ?_
      refine y_VI (pc := 21) (bc := bc) (bs := bs) (mc := 0) (ms := 0) (As := [.inl x3]) (rest := []) dX11_local_21 kX11_isKnown lX11_162 ⟨_, _, rfl⟩ rfl rfl (H.use (fun v5 h5 H => ?_))
      have S5 := H.1
      replace H := H.2
      refine z_if_ne (pc := 24) (tgt := 30) dX11_local_24 (by decide) (fun c6 => ?_) (fun c6 => ?_)
      · replace H := H.1 c6
        refine z_aload (pc := 30) dX11_local_30 rfl ?_
        obtain ⟨p7, e7, H⟩ := H
        refine z_cast e7 ?_
        refine z_iload_n (pc := 32) dX11_local_32 rfl rfl ?_
        refine z_iload_n (pc := 33) dX11_local_33 rfl rfl ?_
        refine y_VI (pc := 34) (bc := bc) (bs := bs) (mc := 0) (ms := 0) (As := [.inl x2, .inl x3]) (rest := []) dX11_local_34 kX4_offsetAt lX11_166 ⟨_, _, rfl⟩ rfl rfl (H.use (fun v8 h8 H => ?_))
        have S8 := H.1
        replace H := H.2
        refine z_istore (pc := 37) (ls' := [some (.inr (some (0, 11, 0))), some (.inl x1), some (.inl x2), some (.inl x3), some (.inl x4), some (.inr v1), some (.inl v8), none]) dX11_local_37 rfl rfl ?_
        refine z_iload_n (pc := 39) dX11_local_39 rfl rfl ?_
        refine z_iload (pc := 40) dX11_local_40 rfl ?_
        refine z_iadd (pc := 42) dX11_local_42 ?_
        refine z_bipush (pc := 43) (v := (nI 48)) dX11_local_43 (by decide) ?_
        refine y_SI (pc := 45) (bc := bc) (bs := bs) (mc := 0) (ms := 0) (As := [.inl (x2 + v8), .inl (nI 48)]) (rest := []) dX11_local_45 kJ9_floorDiv_7cf53 lX11_169 rfl rfl (H.use (fun v9 h9 H => ?_))
        have S9 := H.1
        replace H := H.2
        refine z_istore (pc := 48) (ls' := [some (.inr (some (0, 11, 0))), some (.inl x1), some (.inl x2), some (.inl x3), some (.inl x4), some (.inr v1), some (.inl v8), some (.inl v9)]) dX11_local_48 rfl rfl ?_
        refine z_iload (pc := 50) dX11_local_50 rfl ?_
        refine z_table (pc := 52) (tgtD := 108) [84, 87, 97, 105] dX11_local_52 (by decide) (by decide) (by decide) ?_ (fun c10 => ?_)
        · refine And.intro (fun c10 => ?_) (And.intro (fun c10 => ?_) (And.intro (fun c10 => ?_) (And.intro (fun c10 => ?_) (trivial))))
          · replace H := H.1 c10
            refine z_iload (pc := 84) dX11_local_84 rfl ?_
            exact z_iret (pc := 86) dX11_local_86 rfl rfl ⟨_, rfl, H⟩
          · replace H := H.2.1 c10
            refine z_iload_n (pc := 87) dX11_local_87 rfl rfl ?_
            refine z_iload (pc := 88) dX11_local_88 rfl ?_
            refine z_iadd (pc := 90) dX11_local_90 ?_
            refine z_bipush (pc := 91) (v := (nI 48)) dX11_local_91 (by decide) ?_
            refine y_SI (pc := 93) (bc := bc) (bs := bs) (mc := 0) (ms := 0) (As := [.inl (x2 + v8), .inl (nI 48)]) (rest := []) dX11_local_93 kJ9_floorMod_7cf53 lX11_172 rfl rfl (H.use (fun v11 h11 H => ?_))
            have S11 := H.1
            replace H := H.2
            exact z_iret (pc := 96) dX11_local_96 rfl rfl ⟨_, rfl, H⟩
          · replace H := H.2.2.1 c10
            refine z_iload (pc := 97) dX11_local_97 rfl ?_
            refine z_bipush (pc := 99) (v := (nI 7)) dX11_local_99 (by decide) ?_
            refine y_SI (pc := 101) (bc := bc) (bs := bs) (mc := 0) (ms := 0) (As := [.inl v9, .inl (nI 7)]) (rest := []) dX11_local_101 kJ9_floorMod_7cf53 lX11_172 rfl rfl (H.use (fun v12 h12 H => ?_))
            have S12 := H.1
            replace H := H.2
            exact z_iret (pc := 104) dX11_local_104 rfl rfl ⟨_, rfl, H⟩
          · replace H := H.2.2.2.1 c10
            refine z_iload (pc := 105) dX11_local_105 rfl ?_
            exact z_iret (pc := 107) dX11_local_107 rfl rfl ⟨_, rfl, H⟩
        · replace H := H.2.2.2.2 c10
          refine z_ldc (pc := 108) (v := (-1000000)) dX11_local_108 tX11_165 ?_
          exact z_iret (pc := 110) dX11_local_110 rfl rfl ⟨_, rfl, H⟩
      · replace H := H.2 c6
        refine z_ldc (pc := 27) (v := (-1000000)) dX11_local_27 tX11_165 ?_
        exact z_iret (pc := 29) dX11_local_29 rfl rfl ⟨_, rfl, H⟩
