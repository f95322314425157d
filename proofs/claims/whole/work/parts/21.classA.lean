set_option maxRecDepth 20000 in
theorem bX9_isSplit_0 {l : Launch} {E : eE} {d bc bs : Nat} {h : aH} {Q : Int32 → aH → Prop} {o0 : Nat} (S : SH h) (H : (((hI h o0 3) = (-1) → Q (nI 0) h) ∧ (¬ (hI h o0 3) = (-1) → Q (nI 1) h))) : CI l E d bc bs mX9_isSplit [.inr (some (0, 9, o0))] h Q := by
  refine CI.of (by decide) rfl ?_
  show TI l E mX9_isSplit d bc bs 0 [some (.inr (some (0, 9, o0)))] [] h Q
  refine z_aload_n (pc := 0) dX9_isSplit_0 rfl rfl ?_
  refine z_geti (pc := 1) dX9_isSplit_1 fX9_22 rfl ?_
  refine z_iconst (pc := 4) (v := (-1)) dX9_isSplit_4 (by decide) ?_
  refine z_icmp_eq (pc := 5) (tgt := 12) dX9_isSplit_5 (by decide) (fun c1 => ?_) (fun c1 => ?_)
  · replace H := H.1 c1
    refine z_iconst (pc := 12) (v := (nI 0)) dX9_isSplit_12 (by decide) ?_
    exact z_iret (pc := 13) dX9_isSplit_13 rfl rfl ⟨_, rfl, H⟩
  · replace H := H.2 c1
    refine z_iconst (pc := 8) (v := (nI 1)) dX9_isSplit_8 (by decide) ?_
    refine z_goto (pc := 9) (tgt := 13) dX9_isSplit_9 (by decide) ?_
    exact z_iret (pc := 13) dX9_isSplit_13 rfl rfl ⟨_, rfl, H⟩

set_option maxRecDepth 20000 in
theorem bX9_chairAlone_0 {l : Launch} {E : eE} {d bc bs : Nat} {h : aH} {Q : Int32 → aH → Prop} {o0 : Nat} (S : SH h) (H : (CI l E d 0 0 mX9_isSplit [.inr (some (0, 9, o0))] h (fun v1 h1 => SH h1 ∧ ((v1 = 0 → Q (nI 0) h1) ∧ (¬ v1 = 0 → Q ((nI 1) <<< ((hI h1 o0 3) &&& 31)) h1))))) : CI l E (d + 1) bc bs mX9_chairAlone [.inr (some (0, 9, o0))] h Q := by
  refine CI.of (by decide) rfl ?_
  show TI l E mX9_chairAlone (d + 1) bc bs 0 [some (.inr (some (0, 9, o0)))] [] h Q
  refine z_aload_n (pc := 0) dX9_chairAlone_0 rfl rfl ?_
  refine y_VI (pc := 1) (bc := bc) (bs := bs) (mc := 0) (ms := 0) (As := []) (rest := []) dX9_chairAlone_1 kX9_isSplit lX9_35 ⟨_, _, rfl⟩ rfl rfl (H.use (fun v1 h1 H => ?_))
  have S1 := H.1
  replace H := H.2
  refine z_if_eq (pc := 4) (tgt := 16) dX9_chairAlone_4 (by decide) (fun c2 => ?_) (fun c2 => ?_)
  · replace H := H.1 c2
    refine z_iconst (pc := 16) (v := (nI 0)) dX9_chairAlone_16 (by decide) ?_
    exact z_iret (pc := 17) dX9_chairAlone_17 rfl rfl ⟨_, rfl, H⟩
  · replace H := H.2 c2
    refine z_iconst (pc := 7) (v := (nI 1)) dX9_chairAlone_7 (by decide) ?_
    refine z_aload_n (pc := 8) dX9_chairAlone_8 rfl rfl ?_
    refine z_geti (pc := 9) dX9_chairAlone_9 fX9_22 rfl ?_
    refine z_ishl (pc := 12) dX9_chairAlone_12 ?_
    refine z_goto (pc := 13) (tgt := 17) dX9_chairAlone_13 (by decide) ?_
    exact z_iret (pc := 17) dX9_chairAlone_17 rfl rfl ⟨_, rfl, H⟩

abbrev LX0_listSuspects_19 (l : Launch) (E : eE) (d bc bs : Nat) (o1 : Nat) (x2 : Int32) (x3 : Int32) (h : aH) (Q : aH → Prop) : Prop := TV l E mX0_listSuspects d bc bs 19 [some (.inr (some (0, 0, 59))), some (.inr (some (0, 9, o1))), some (.inl x2), some (.inl x3)] [] h Q

set_option maxRecDepth 20000 in
theorem bX0_listSuspects_0 {l : Launch} {E : eE} {d bc bs : Nat} {h : aH} {Q : aH → Prop} {o1 : Nat} (S : SH h) (H : (∃ p1, (hR h o1 5) = some (1, 6, p1) ∧ (CI l E d 0 0 mX9_chairAlone [.inr (some (0, 9, o1))] h (fun v2 h2 => SH h2 ∧ LX0_listSuspects_19 l E (d + 1) bc bs o1 ((hA h p1 ((nI 1)).toNatClampNeg) ||| v2) (nI 0) (stI h2 59 3 (nI 0)) Q)))) : CV l E (d + 1) bc bs mX0_listSuspects [.inr (some (0, 0, 59)), .inr (some (0, 9, o1))] h Q := by
  refine CV.of (by decide) rfl ?_
  show TV l E mX0_listSuspects (d + 1) bc bs 0 [some (.inr (some (0, 0, 59))), some (.inr (some (0, 9, o1))), none, none] [] h Q
  refine z_aload_n (pc := 0) dX0_listSuspects_0 rfl rfl ?_
  refine z_getr (pc := 1) dX0_listSuspects_1 fX0_51 rfl ?_
  obtain ⟨p1, e1, H⟩ := H
  refine z_cast e1 ?_
  refine z_iconst (pc := 4) (v := (nI 1)) dX0_listSuspects_4 (by decide) ?_
  refine z_iald (pc := 5) dX0_listSuspects_5 (vp_in_nI (by decide) (by decide)) ?_
  refine z_aload_n (pc := 6) dX0_listSuspects_6 rfl rfl ?_
  refine y_VI (pc := 7) (bc := bc) (bs := bs) (mc := 0) (ms := 0) (As := []) (rest := [.inl (hA h p1 ((nI 1)).toNatClampNeg)]) dX0_listSuspects_7 kX9_chairAlone lX0_54 ⟨_, _, rfl⟩ rfl rfl (H.use (fun v2 h2 H => ?_))
  have S2 := H.1
  replace H := H.2
  refine z_ior (pc := 10) dX0_listSuspects_10 ?_
  refine z_istore_n (pc := 11) (ls' := [some (.inr (some (0, 0, 59))), some (.inr (some (0, 9, o1))), some (.inl ((hA h p1 ((nI 1)).toNatClampNeg) ||| v2)), none]) dX0_listSuspects_11 rfl rfl rfl ?_
  refine z_aload_n (pc := 12) dX0_listSuspects_12 rfl rfl ?_
  refine z_iconst (pc := 13) (v := (nI 0)) dX0_listSuspects_13 (by decide) ?_
  refine z_puti (pc := 14) dX0_listSuspects_14 fX0_57 (uX0_3 _) rfl rfl rfl ?_
  refine z_iconst (pc := 17) (v := (nI 0)) dX0_listSuspects_17 (by decide) ?_
  refine z_istore_n (pc := 18) (ls' := [some (.inr (some (0, 0, 59))), some (.inr (some (0, 9, o1))), some (.inl ((hA h p1 ((nI 1)).toNatClampNeg) ||| v2)), some (.inl (nI 0))]) dX0_listSuspects_18 rfl rfl rfl ?_
  exact H

set_option maxRecDepth 20000 in
theorem bX0_listSuspects_19 {l : Launch} {E : eE} {d bc bs : Nat} {h : aH} {Q : aH → Prop} {o1 : Nat} {x2 : Int32} {x3 : Int32} (S : SH h) (H : (((nI 12) ≤ x3 → Q h) ∧ (¬ (nI 12) ≤ x3 → (CI l E d 0 0 mX11_isIn [.inl x2, .inl x3] h (fun v2 h2 => SH h2 ∧ ((v2 = 0 → LX0_listSuspects_19 l E (d + 1) bc bs o1 x2 (x3 + (nI 1)) h2 Q) ∧ (¬ v2 = 0 → (vp_in (hI h2 59 3) 12 ∧ LX0_listSuspects_19 l E (d + 1) bc bs o1 x2 (x3 + (nI 1)) (stI (stA (stA h2 61 ((hI h2 59 3)).toNatClampNeg x3) 62 ((hI h2 59 3)).toNatClampNeg (nI 0)) 59 3 ((hI h2 59 3) + (nI 1))) Q)))))))) : LX0_listSuspects_19 l E (d + 1) bc bs o1 x2 x3 h Q := by
  refine z_iload_n (pc := 19) dX0_listSuspects_19 rfl rfl ?_
  refine z_bipush (pc := 20) (v := (nI 12)) dX0_listSuspects_20 (by decide) ?_
  refine z_icmp_ge (pc := 22) (tgt := 69) dX0_listSuspects_22 (by decide) (fun c1 => ?_) (fun c1 => ?_)
  · replace H := H.1 c1
    exact z_ret (pc := 69) dX0_listSuspects_69 rfl ⟨rfl, H⟩
  · replace H := H.2 c1
    refine z_iload_n (pc := 25) dX0_listSuspects_25 rfl rfl ?_
    refine z_iload_n (pc := 26) dX0_listSuspects_26 rfl rfl ?_
    refine y_NI (pc := 27) (bc := bc) (bs := bs) (mc := 0) (ms := 0) (As := [.inl x2, .inl x3]) (rest := []) dX0_listSuspects_27 kX11_isIn lX0_61 rfl rfl (H.use (fun v2 h2 H => ?_))
    have S2 := H.1
    replace H := H.2
    refine z_if_eq (pc := 30) (tgt := 63) dX0_listSuspects_30 (by decide) (fun c3 => ?_) (fun c3 => ?_)
    · replace H := H.1 c3
      refine z_iinc (pc := 63) (v := (x3 + (nI 1))) (ls' := [some (.inr (some (0, 0, 59))), some (.inr (some (0, 9, o1))), some (.inl x2), some (.inl (x3 + (nI 1)))]) dX0_listSuspects_63 rfl (by rw [show Int32.ofInt (1) = (nI 1) by decide]) rfl ?_
      refine z_goto (pc := 66) (tgt := 19) dX0_listSuspects_66 (by decide) ?_
      exact H
    · replace H := H.2 c3
      refine z_aload_n (pc := 33) dX0_listSuspects_33 rfl rfl ?_
      refine z_getk (pc := 34) dX0_listSuspects_34 fX0_18 rfl (s_59_1 S2) ?_
      refine z_aload_n (pc := 37) dX0_listSuspects_37 rfl rfl ?_
      refine z_geti (pc := 38) dX0_listSuspects_38 fX0_57 rfl ?_
      refine z_iload_n (pc := 41) dX0_listSuspects_41 rfl rfl ?_
      have c4 := H.1
      replace H := H.2
      refine z_iast (pc := 42) dX0_listSuspects_42 c4 ?_
      refine z_aload_n (pc := 43) dX0_listSuspects_43 rfl rfl ?_
      refine z_getk (pc := 44) dX0_listSuspects_44 fX0_22 rfl (s_59_2 S2) ?_
      refine z_aload_n (pc := 47) dX0_listSuspects_47 rfl rfl ?_
      refine z_geti (pc := 48) dX0_listSuspects_48 fX0_57 rfl ?_
      refine z_iconst (pc := 51) (v := (nI 0)) dX0_listSuspects_51 (by decide) ?_
      refine z_iast (pc := 52) dX0_listSuspects_52 c4 ?_
      refine z_aload_n (pc := 53) dX0_listSuspects_53 rfl rfl ?_
      refine z_dup (pc := 54) dX0_listSuspects_54 ?_
      refine z_geti (pc := 55) dX0_listSuspects_55 fX0_57 rfl ?_
      refine z_iconst (pc := 58) (v := (nI 1)) dX0_listSuspects_58 (by decide) ?_
      refine z_iadd (pc := 59) dX0_listSuspects_59 ?_
      refine z_puti (pc := 60) dX0_listSuspects_60 fX0_57 (uX0_3 _) rfl rfl rfl ?_
      refine z_iinc (pc := 63) (v := (x3 + (nI 1))) (ls' := [some (.inr (some (0, 0, 59))), some (.inr (some (0, 9, o1))), some (.inl x2), some (.inl (x3 + (nI 1)))]) dX0_listSuspects_63 rfl (by rw [show Int32.ofInt (1) = (nI 1) by decide]) rfl ?_
      refine z_goto (pc := 66) (tgt := 19) dX0_listSuspects_66 (by decide) ?_
      exact H

set_option maxRecDepth 20000 in
theorem bX9_choices_0 {l : Launch} {E : eE} {d bc bs : Nat} {h : aH} {Q : Int32 → aH → Prop} {o0 : Nat} (S : SH h) (H : (CI l E d 0 0 mX9_isSplit [.inr (some (0, 9, o0))] h (fun v1 h1 => SH h1 ∧ ((v1 = 0 → Q (nI 6) h1) ∧ (¬ v1 = 0 → Q (nI 15) h1))))) : CI l E (d + 1) bc bs mX9_choices [.inr (some (0, 9, o0))] h Q := by
  refine CI.of (by decide) rfl ?_
  show TI l E mX9_choices (d + 1) bc bs 0 [some (.inr (some (0, 9, o0)))] [] h Q
  refine z_aload_n (pc := 0) dX9_choices_0 rfl rfl ?_
  refine y_VI (pc := 1) (bc := bc) (bs := bs) (mc := 0) (ms := 0) (As := []) (rest := []) dX9_choices_1 kX9_isSplit lX9_35 ⟨_, _, rfl⟩ rfl rfl (H.use (fun v1 h1 H => ?_))
  have S1 := H.1
  replace H := H.2
  refine z_if_eq (pc := 4) (tgt := 12) dX9_choices_4 (by decide) (fun c2 => ?_) (fun c2 => ?_)
  · replace H := H.1 c2
    refine z_bipush (pc := 12) (v := (nI 6)) dX9_choices_12 (by decide) ?_
    exact z_iret (pc := 14) dX9_choices_14 rfl rfl ⟨_, rfl, H⟩
  · replace H := H.2 c2
    refine z_bipush (pc := 7) (v := (nI 15)) dX9_choices_7 (by decide) ?_
    refine z_goto (pc := 9) (tgt := 14) dX9_choices_9 (by decide) ?_
    exact z_iret (pc := 14) dX9_choices_14 rfl rfl ⟨_, rfl, H⟩

set_option maxRecDepth 20000 in
theorem bX9_firstOf_0 {l : Launch} {E : eE} {d bc bs : Nat} {h : aH} {Q : Int32 → aH → Prop} {o0 : Nat} {x1 : Int32} (S : SH h) (H : (CI l E d 0 0 mX9_isSplit [.inr (some (0, 9, o0))] h (fun v1 h1 => SH h1 ∧ ((v1 = 0 → Q x1 h1) ∧ (¬ v1 = 0 → (vp_in x1 (exL E 1) ∧ Q (exF E 1 (x1).toNatClampNeg) h1)))))) : CI l E (d + 1) bc bs mX9_firstOf [.inr (some (0, 9, o0)), .inl x1] h Q := by
  refine CI.of (by decide) rfl ?_
  show TI l E mX9_firstOf (d + 1) bc bs 0 [some (.inr (some (0, 9, o0))), some (.inl x1)] [] h Q
  refine z_aload_n (pc := 0) dX9_firstOf_0 rfl rfl ?_
  refine y_VI (pc := 1) (bc := bc) (bs := bs) (mc := 0) (ms := 0) (As := []) (rest := []) dX9_firstOf_1 kX9_isSplit lX9_35 ⟨_, _, rfl⟩ rfl rfl (H.use (fun v1 h1 H => ?_))
  have S1 := H.1
  replace H := H.2
  refine z_if_eq (pc := 4) (tgt := 15) dX9_firstOf_4 (by decide) (fun c2 => ?_) (fun c2 => ?_)
  · replace H := H.1 c2
    refine z_iload_n (pc := 15) dX9_firstOf_15 rfl rfl ?_
    exact z_iret (pc := 16) dX9_firstOf_16 rfl rfl ⟨_, rfl, H⟩
  · replace H := H.2 c2
    refine z_gets1 (pc := 7) dX9_firstOf_7 (mt3 121 rfl) ?_
    refine z_iload_n (pc := 10) dX9_firstOf_10 rfl rfl ?_
    have c0 := H.1
    replace H := H.2
    refine z_xald (pc := 11) dX9_firstOf_11 rfl c0 ?_
    refine z_goto (pc := 12) (tgt := 16) dX9_firstOf_12 (by decide) ?_
    exact z_iret (pc := 16) dX9_firstOf_16 rfl rfl ⟨_, rfl, H⟩

set_option maxRecDepth 20000 in
theorem bX9_secondOf_0 {l : Launch} {E : eE} {d bc bs : Nat} {h : aH} {Q : Int32 → aH → Prop} {o0 : Nat} {x1 : Int32} (S : SH h) (H : (CI l E d 0 0 mX9_isSplit [.inr (some (0, 9, o0))] h (fun v1 h1 => SH h1 ∧ ((v1 = 0 → Q (-1) h1) ∧ (¬ v1 = 0 → (vp_in x1 (exL E 2) ∧ Q (exF E 2 (x1).toNatClampNeg) h1)))))) : CI l E (d + 1) bc bs mX9_secondOf [.inr (some (0, 9, o0)), .inl x1] h Q := by
  refine CI.of (by decide) rfl ?_
  show TI l E mX9_secondOf (d + 1) bc bs 0 [some (.inr (some (0, 9, o0))), some (.inl x1)] [] h Q
  refine z_aload_n (pc := 0) dX9_secondOf_0 rfl rfl ?_
  refine y_VI (pc := 1) (bc := bc) (bs := bs) (mc := 0) (ms := 0) (As := []) (rest := []) dX9_secondOf_1 kX9_isSplit lX9_35 ⟨_, _, rfl⟩ rfl rfl (H.use (fun v1 h1 H => ?_))
  have S1 := H.1
  replace H := H.2
  refine z_if_eq (pc := 4) (tgt := 15) dX9_secondOf_4 (by decide) (fun c2 => ?_) (fun c2 => ?_)
  · replace H := H.1 c2
    refine z_iconst (pc := 15) (v := (-1)) dX9_secondOf_15 (by decide) ?_
    exact z_iret (pc := 16) dX9_secondOf_16 rfl rfl ⟨_, rfl, H⟩
  · replace H := H.2 c2
    refine z_gets2 (pc := 7) dX9_secondOf_7 (mt3 127 rfl) ?_
    refine z_iload_n (pc := 10) dX9_secondOf_10 rfl rfl ?_
    have c0 := H.1
    replace H := H.2
    refine z_xald (pc := 11) dX9_secondOf_11 rfl c0 ?_
    refine z_goto (pc := 12) (tgt := 16) dX9_secondOf_12 (by decide) ?_
    exact z_iret (pc := 16) dX9_secondOf_16 rfl rfl ⟨_, rfl, H⟩

set_option maxRecDepth 20000 in
theorem bX9_has_0 {l : Launch} {E : eE} {d bc bs : Nat} {h : aH} {Q : Int32 → aH → Prop} {o0 : Nat} {x1 : Int32} (S : SH h) (H : (CI l E d 0 0 mX9_firstOf [.inr (some (0, 9, o0)), .inl x1] h (fun v1 h1 => SH h1 ∧ (CI l E d 0 0 mX9_secondOf [.inr (some (0, 9, o0)), .inl x1] h1 (fun v2 h2 => SH h2 ∧ (CI l E d 0 0 mJ9_max_7cf53 [.inl v1, .inl v2] h2 (fun v3 h3 => SH h3 ∧ (((hI h3 o0 7) ≤ v3 → Q (nI 0) h3) ∧ (¬ (hI h3 o0 7) ≤ v3 → Q (nI 1) h3))))))))) : CI l E (d + 1) bc bs mX9_has [.inr (some (0, 9, o0)), .inl x1] h Q := by
  refine CI.of (by decide) rfl ?_
  show TI l E mX9_has (d + 1) bc bs 0 [some (.inr (some (0, 9, o0))), some (.inl x1)] [] h Q
  refine z_aload_n (pc := 0) dX9_has_0 rfl rfl ?_
  refine z_iload_n (pc := 1) dX9_has_1 rfl rfl ?_
  refine y_VI (pc := 2) (bc := bc) (bs := bs) (mc := 0) (ms := 0) (As := [.inl x1]) (rest := []) dX9_has_2 kX9_firstOf lX9_45 ⟨_, _, rfl⟩ rfl rfl (H.use (fun v1 h1 H => ?_))
  have S1 := H.1
  replace H := H.2
  refine z_aload_n (pc := 5) dX9_has_5 rfl rfl ?_
  refine z_iload_n (pc := 6) dX9_has_6 rfl rfl ?_
  refine y_VI (pc := 7) (bc := bc) (bs := bs) (mc := 0) (ms := 0) (As := [.inl x1]) (rest := [.inl v1]) dX9_has_7 kX9_secondOf lX9_49 ⟨_, _, rfl⟩ rfl rfl (H.use (fun v2 h2 H => ?_))
  have S2 := H.1
  replace H := H.2
  refine y_SI (pc := 10) (bc := bc) (bs := bs) (mc := 0) (ms := 0) (As := [.inl v1, .inl v2]) (rest := []) dX9_has_10 kJ9_max_7cf53 lX9_52 rfl rfl (H.use (fun v3 h3 H => ?_))
  have S3 := H.1
  replace H := H.2
  refine z_aload_n (pc := 13) dX9_has_13 rfl rfl ?_
  refine z_geti (pc := 14) dX9_has_14 fX9_58 rfl ?_
  refine z_icmp_ge (pc := 17) (tgt := 24) dX9_has_17 (by decide) (fun c4 => ?_) (fun c4 => ?_)
  · replace H := H.1 c4
    refine z_iconst (pc := 24) (v := (nI 0)) dX9_has_24 (by decide) ?_
    exact z_iret (pc := 25) dX9_has_25 rfl rfl ⟨_, rfl, H⟩
  · replace H := H.2 c4
    refine z_iconst (pc := 20) (v := (nI 1)) dX9_has_20 (by decide) ?_
    refine z_goto (pc := 21) (tgt := 25) dX9_has_21 (by decide) ?_
    exact z_iret (pc := 25) dX9_has_25 rfl rfl ⟨_, rfl, H⟩

set_option maxRecDepth 20000 in
theorem bX8_stands_0 {l : Launch} {E : eE} {d bc bs : Nat} {h : aH} {Q : Int32 → aH → Prop} {o0 : Nat} {o1 : Nat} {x2 : Int32} (S : SH h) (g1 : isSh o1) (H : (CI l E d 0 0 mX9_has [.inr (some (0, 9, o0)), .inl x2] h (fun v1 h1 => SH h1 ∧ ((¬ v1 = 0 → (CI l E d 0 0 mX9_firstOf [.inr (some (0, 9, o0)), .inl x2] h1 (fun v3 h3 => SH h3 ∧ (vp_in v3 6 ∧ (CI l E d 0 0 mX9_isSplit [.inr (some (0, 9, o0))] h3 (fun v5 h5 => SH h5 ∧ ((¬ v5 = 0 → (CI l E d 0 0 mX9_secondOf [.inr (some (0, 9, o0)), .inl x2] h5 (fun v7 h7 => SH h7 ∧ (vp_in v7 6 ∧ (((hA h3 (o1 + 1) (v3).toNatClampNeg) = (-1) → Q (nI 0) h7) ∧ (¬ (hA h3 (o1 + 1) (v3).toNatClampNeg) = (-1) → (((hA h7 (o1 + 1) (v7).toNatClampNeg) = (-1) → Q (nI 0) h7) ∧ (¬ (hA h7 (o1 + 1) (v7).toNatClampNeg) = (-1) → (CI l E d 0 0 mJ9_abs_0f7a4 [.inl ((hA h3 (o1 + 1) (v3).toNatClampNeg) - (hA h7 (o1 + 1) (v7).toNatClampNeg))] h7 (fun v11 h11 => SH h11 ∧ ((v11 < (hI h11 o0 1) → Q (nI 0) h11) ∧ (¬ v11 < (hI h11 o0 1) → Q (nI 1) h11)))))))))))) ∧ (v5 = 0 → (((hA h3 (o1 + 1) (v3).toNatClampNeg) = (-1) → Q (nI 0) h5) ∧ (¬ (hA h3 (o1 + 1) (v3).toNatClampNeg) = (-1) → Q (nI 1) h5)))))))))) ∧ (v1 = 0 → Q (nI 0) h1))))) : CI l E (d + 1) bc bs mX8_stands [.inr (some (0, 9, o0)), .inr (some (0, 10, o1)), .inl x2] h Q := by
  refine CI.of (by decide) rfl ?_
  show TI l E mX8_stands (d + 1) bc bs 0 [some (.inr (some (0, 9, o0))), some (.inr (some (0, 10, o1))), some (.inl x2), none, none] [] h Q
  refine z_aload_n (pc := 0) dX8_stands_0 rfl rfl ?_
  refine z_iload_n (pc := 1) dX8_stands_1 rfl rfl ?_
  refine y_VI (pc := 2) (bc := bc) (bs := bs) (mc := 0) (ms := 0) (As := [.inl x2]) (rest := []) dX8_stands_2 kX9_has lX8_76 ⟨_, _, rfl⟩ rfl rfl (H.use (fun v1 h1 H => ?_))
  have S1 := H.1
  replace H := H.2
  refine z_if_ne (pc := 5) (tgt := 10) dX8_stands_5 (by decide) (fun c2 => ?_) (fun c2 => ?_)
  · replace H := H.1 c2
    refine z_aload_n (pc := 10) dX8_stands_10 rfl rfl ?_
    refine z_getk (pc := 11) dX8_stands_11 fX8_51 rfl (sS_0 S1 g1) ?_
    refine z_aload_n (pc := 14) dX8_stands_14 rfl rfl ?_
    refine z_iload_n (pc := 15) dX8_stands_15 rfl rfl ?_
    refine y_VI (pc := 16) (bc := bc) (bs := bs) (mc := 0) (ms := 0) (As := [.inl x2]) (rest := [.inr (some (1, 6, (o1 + 1)))]) dX8_stands_16 kX9_firstOf lX8_9 ⟨_, _, rfl⟩ rfl rfl (H.use (fun v3 h3 H => ?_))
    have S3 := H.1
    replace H := H.2
    have c4 := H.1
    replace H := H.2
    refine z_iald (pc := 19) dX8_stands_19 c4 ?_
    refine z_istore_n (pc := 20) (ls' := [some (.inr (some (0, 9, o0))), some (.inr (some (0, 10, o1))), some (.inl x2), some (.inl (hA h3 (o1 + 1) (v3).toNatClampNeg)), none]) dX8_stands_20 rfl rfl rfl ?_
    refine z_aload_n (pc := 21) dX8_stands_21 rfl rfl ?_
    refine y_VI (pc := 22) (bc := bc) (bs := bs) (mc := 0) (ms := 0) (As := []) (rest := []) dX8_stands_22 kX9_isSplit lX8_80 ⟨_, _, rfl⟩ rfl rfl (H.use (fun v5 h5 H => ?_))
    have S5 := H.1
    replace H := H.2
    refine z_if_ne (pc := 25) (tgt := 39) dX8_stands_25 (by decide) (fun c6 => ?_) (fun c6 => ?_)
    · replace H := H.1 c6
      refine z_aload_n (pc := 39) dX8_stands_39 rfl rfl ?_
      refine z_getk (pc := 40) dX8_stands_40 fX8_51 rfl (sS_0 S5 g1) ?_
      refine z_aload_n (pc := 43) dX8_stands_43 rfl rfl ?_
      refine z_iload_n (pc := 44) dX8_stands_44 rfl rfl ?_
      refine y_VI (pc := 45) (bc := bc) (bs := bs) (mc := 0) (ms := 0) (As := [.inl x2]) (rest := [.inr (some (1, 6, (o1 + 1)))]) dX8_stands_45 kX9_secondOf lX8_21 ⟨_, _, rfl⟩ rfl rfl (H.use (fun v7 h7 H => ?_))
      have S7 := H.1
      replace H := H.2
      have c8 := H.1
      replace H := H.2
      refine z_iald (pc := 48) dX8_stands_48 c8 ?_
      refine z_istore (pc := 49) (ls' := [some (.inr (some (0, 9, o0))), some (.inr (some (0, 10, o1))), some (.inl x2), some (.inl (hA h3 (o1 + 1) (v3).toNatClampNeg)), some (.inl (hA h7 (o1 + 1) (v7).toNatClampNeg))]) dX8_stands_49 rfl rfl ?_
      refine z_iload_n (pc := 51) dX8_stands_51 rfl rfl ?_
      refine z_iconst (pc := 52) (v := (-1)) dX8_stands_52 (by decide) ?_
      refine z_icmp_eq (pc := 53) (tgt := 80) dX8_stands_53 (by decide) (fun c9 => ?_) (fun c9 => ?_)
      · replace H := H.1 c9
        refine z_iconst (pc := 80) (v := (nI 0)) dX8_stands_80 (by decide) ?_
        exact z_iret (pc := 81) dX8_stands_81 rfl rfl ⟨_, rfl, H⟩
      · replace H := H.2 c9
        refine z_iload (pc := 56) dX8_stands_56 rfl ?_
        refine z_iconst (pc := 58) (v := (-1)) dX8_stands_58 (by decide) ?_
        refine z_icmp_eq (pc := 59) (tgt := 80) dX8_stands_59 (by decide) (fun c10 => ?_) (fun c10 => ?_)
        · replace H := H.1 c10
          refine z_iconst (pc := 80) (v := (nI 0)) dX8_stands_80 (by decide) ?_
          exact z_iret (pc := 81) dX8_stands_81 rfl rfl ⟨_, rfl, H⟩
        · replace H := H.2 c10
          refine z_iload_n (pc := 62) dX8_stands_62 rfl rfl ?_
          refine z_iload (pc := 63) dX8_stands_63 rfl ?_
          refine z_isub (pc := 65) dX8_stands_65 ?_
          refine y_SI (pc := 66) (bc := bc) (bs := bs) (mc := 0) (ms := 0) (As := [.inl ((hA h3 (o1 + 1) (v3).toNatClampNeg) - (hA h7 (o1 + 1) (v7).toNatClampNeg))]) (rest := []) dX8_stands_66 kJ9_abs_0f7a4 lX8_84 rfl rfl (H.use (fun v11 h11 H => ?_))
          have S11 := H.1
          replace H := H.2
          refine z_aload_n (pc := 69) dX8_stands_69 rfl rfl ?_
          refine z_geti (pc := 70) dX8_stands_70 fX8_60 rfl ?_
          refine z_icmp_lt (pc := 73) (tgt := 80) dX8_stands_73 (by decide) (fun c12 => ?_) (fun c12 => ?_)
          · replace H := H.1 c12
            refine z_iconst (pc := 80) (v := (nI 0)) dX8_stands_80 (by decide) ?_
            exact z_iret (pc := 81) dX8_stands_81 rfl rfl ⟨_, rfl, H⟩
          · replace H := H.2 c12
            refine z_iconst (pc := 76) (v := (nI 1)) dX8_stands_76 (by decide) ?_
            refine z_goto (pc := 77) (tgt := 81) dX8_stands_77 (by decide) ?_
            exact z_iret (pc := 81) dX8_stands_81 rfl rfl ⟨_, rfl, H⟩
    · replace H := H.2 c6
      refine z_iload_n (pc := 28) dX8_stands_28 rfl rfl ?_
      refine z_iconst (pc := 29) (v := (-1)) dX8_stands_29 (by decide) ?_
      refine z_icmp_eq (pc := 30) (tgt := 37) dX8_stands_30 (by decide) (fun c13 => ?_) (fun c13 => ?_)
      · replace H := H.1 c13
        refine z_iconst (pc := 37) (v := (nI 0)) dX8_stands_37 (by decide) ?_
        exact z_iret (pc := 38) dX8_stands_38 rfl rfl ⟨_, rfl, H⟩
      · replace H := H.2 c13
        refine z_iconst (pc := 33) (v := (nI 1)) dX8_stands_33 (by decide) ?_
        refine z_goto (pc := 34) (tgt := 38) dX8_stands_34 (by decide) ?_
        exact z_iret (pc := 38) dX8_stands_38 rfl rfl ⟨_, rfl, H⟩
  · replace H := H.2 c2
    refine z_iconst (pc := 8) (v := (nI 0)) dX8_stands_8 (by decide) ?_
    exact z_iret (pc := 9) dX8_stands_9 rfl rfl ⟨_, rfl, H⟩

abbrev LX1_engaged_5 (l : Launch) (E : eE) (d bc bs : Nat) (o0 : Nat) (x1 : Int32) (x2 : Int32) (x3 : Int32) (x4 : Int32) (h : aH) (Q : Int32 → aH → Prop) : Prop := TI l E mX1_engaged d bc bs 5 [some (.inr (some (0, 1, o0))), some (.inl x1), some (.inl x2), some (.inl x3), some (.inl x4)] [] h Q

set_option maxRecDepth 20000 in
theorem bX1_engaged_0 {l : Launch} {E : eE} {d bc bs : Nat} {h : aH} {Q : Int32 → aH → Prop} {o0 : Nat} {x1 : Int32} {x2 : Int32} (S : SH h) (g0 : isBd o0) (H : LX1_engaged_5 l E d bc bs o0 x1 x2 (nI 0) (nI 0) h Q) : CI l E d bc bs mX1_engaged [.inr (some (0, 1, o0)), .inl x1, .inl x2] h Q := by
  refine CI.of (by decide) rfl ?_
  show TI l E mX1_engaged d bc bs 0 [some (.inr (some (0, 1, o0))), some (.inl x1), some (.inl x2), none, none] [] h Q
  refine z_iconst (pc := 0) (v := (nI 0)) dX1_engaged_0 (by decide) ?_
  refine z_istore_n (pc := 1) (ls' := [some (.inr (some (0, 1, o0))), some (.inl x1), some (.inl x2), some (.inl (nI 0)), none]) dX1_engaged_1 rfl rfl rfl ?_
  refine z_iconst (pc := 2) (v := (nI 0)) dX1_engaged_2 (by decide) ?_
  refine z_istore (pc := 3) (ls' := [some (.inr (some (0, 1, o0))), some (.inl x1), some (.inl x2), some (.inl (nI 0)), some (.inl (nI 0))]) dX1_engaged_3 rfl rfl ?_
  exact H

set_option maxRecDepth 20000 in
theorem bX1_engaged_5 {l : Launch} {E : eE} {d bc bs : Nat} {h : aH} {Q : Int32 → aH → Prop} {o0 : Nat} {x1 : Int32} {x2 : Int32} {x3 : Int32} {x4 : Int32} (S : SH h) (g0 : isBd o0) (H : (((hI h o0 4) ≤ x4 → Q x3 h) ∧ (¬ (hI h o0 4) ≤ x4 → (vp_in x4 8 ∧ ((x2 ≤ (hA h (o0 + 1) (x4).toNatClampNeg) → LX1_engaged_5 l E d bc bs o0 x1 x2 x3 (x4 + (nI 1)) h Q) ∧ (¬ x2 ≤ (hA h (o0 + 1) (x4).toNatClampNeg) → (((hA h (o0 + 2) (x4).toNatClampNeg) ≤ x1 → LX1_engaged_5 l E d bc bs o0 x1 x2 x3 (x4 + (nI 1)) h Q) ∧ (¬ (hA h (o0 + 2) (x4).toNatClampNeg) ≤ x1 → LX1_engaged_5 l E d bc bs o0 x1 x2 (x3 ||| (hA h (o0 + 3) (x4).toNatClampNeg)) (x4 + (nI 1)) h Q)))))))) : LX1_engaged_5 l E d bc bs o0 x1 x2 x3 x4 h Q := by
  refine z_iload (pc := 5) dX1_engaged_5 rfl ?_
  refine z_aload_n (pc := 7) dX1_engaged_7 rfl rfl ?_
  refine z_geti (pc := 8) dX1_engaged_8 fX1_24 rfl ?_
  refine z_icmp_ge (pc := 11) (tgt := 52) dX1_engaged_11 (by decide) (fun c1 => ?_) (fun c1 => ?_)
  · replace H := H.1 c1
    refine z_iload_n (pc := 52) dX1_engaged_52 rfl rfl ?_
    exact z_iret (pc := 53) dX1_engaged_53 rfl rfl ⟨_, rfl, H⟩
  · replace H := H.2 c1
    refine z_aload_n (pc := 14) dX1_engaged_14 rfl rfl ?_
    refine z_getk (pc := 15) dX1_engaged_15 fX1_9 rfl (sB_0 S g0) ?_
    refine z_iload (pc := 18) dX1_engaged_18 rfl ?_
    have c2 := H.1
    replace H := H.2
    refine z_iald (pc := 20) dX1_engaged_20 c2 ?_
    refine z_iload_n (pc := 21) dX1_engaged_21 rfl rfl ?_
    refine z_icmp_ge (pc := 22) (tgt := 46) dX1_engaged_22 (by decide) (fun c3 => ?_) (fun c3 => ?_)
    · replace H := H.1 c3
      refine z_iinc (pc := 46) (v := (x4 + (nI 1))) (ls' := [some (.inr (some (0, 1, o0))), some (.inl x1), some (.inl x2), some (.inl x3), some (.inl (x4 + (nI 1)))]) dX1_engaged_46 rfl (by rw [show Int32.ofInt (1) = (nI 1) by decide]) rfl ?_
      refine z_goto (pc := 49) (tgt := 5) dX1_engaged_49 (by decide) ?_
      exact H
    · replace H := H.2 c3
      refine z_iload_n (pc := 25) dX1_engaged_25 rfl rfl ?_
      refine z_aload_n (pc := 26) dX1_engaged_26 rfl rfl ?_
      refine z_getk (pc := 27) dX1_engaged_27 fX1_15 rfl (sB_1 S g0) ?_
      refine z_iload (pc := 30) dX1_engaged_30 rfl ?_
      refine z_iald (pc := 32) dX1_engaged_32 c2 ?_
      refine z_icmp_ge (pc := 33) (tgt := 46) dX1_engaged_33 (by decide) (fun c4 => ?_) (fun c4 => ?_)
      · replace H := H.1 c4
        refine z_iinc (pc := 46) (v := (x4 + (nI 1))) (ls' := [some (.inr (some (0, 1, o0))), some (.inl x1), some (.inl x2), some (.inl x3), some (.inl (x4 + (nI 1)))]) dX1_engaged_46 rfl (by rw [show Int32.ofInt (1) = (nI 1) by decide]) rfl ?_
        refine z_goto (pc := 49) (tgt := 5) dX1_engaged_49 (by decide) ?_
        exact H
      · replace H := H.2 c4
        refine z_iload_n (pc := 36) dX1_engaged_36 rfl rfl ?_
        refine z_aload_n (pc := 37) dX1_engaged_37 rfl rfl ?_
        refine z_getk (pc := 38) dX1_engaged_38 fX1_18 rfl (sB_2 S g0) ?_
        refine z_iload (pc := 41) dX1_engaged_41 rfl ?_
        refine z_iald (pc := 43) dX1_engaged_43 c2 ?_
        refine z_ior (pc := 44) dX1_engaged_44 ?_
        refine z_istore_n (pc := 45) (ls' := [some (.inr (some (0, 1, o0))), some (.inl x1), some (.inl x2), some (.inl (x3 ||| (hA h (o0 + 3) (x4).toNatClampNeg))), some (.inl x4)]) dX1_engaged_45 rfl rfl rfl ?_
        refine z_iinc (pc := 46) (v := (x4 + (nI 1))) (ls' := [some (.inr (some (0, 1, o0))), some (.inl x1), some (.inl x2), some (.inl (x3 ||| (hA h (o0 + 3) (x4).toNatClampNeg))), some (.inl (x4 + (nI 1)))]) dX1_engaged_46 rfl (by rw [show Int32.ofInt (1) = (nI 1) by decide]) rfl ?_
        refine z_goto (pc := 49) (tgt := 5) dX1_engaged_49 (by decide) ?_
        exact H

set_option maxRecDepth 20000 in
theorem bX8_freeAt_0 {l : Launch} {E : eE} {d bc bs : Nat} {h : aH} {Q : Int32 → aH → Prop} {o0 : Nat} {o1 : Nat} {o2 : Nat} {x3 : Int32} (S : SH h) (g1 : isSh o1) (g2 : isBd o2) (H : (vp_in x3 6 ∧ (CI l E d 0 0 mX1_engaged [.inr (some (0, 1, o2)), .inl (hA h (o1 + 1) (x3).toNatClampNeg), .inl ((hA h (o1 + 1) (x3).toNatClampNeg) + (hI h o0 1))] h (fun v2 h2 => SH h2 ∧ Q ((hA h (o1 + 2) (x3).toNatClampNeg) &&& (v2 ^^^ (-1))) h2)))) : CI l E (d + 1) bc bs mX8_freeAt [.inr (some (0, 9, o0)), .inr (some (0, 10, o1)), .inr (some (0, 1, o2)), .inl x3] h Q := by
  refine CI.of (by decide) rfl ?_
  show TI l E mX8_freeAt (d + 1) bc bs 0 [some (.inr (some (0, 9, o0))), some (.inr (some (0, 10, o1))), some (.inr (some (0, 1, o2))), some (.inl x3), none] [] h Q
  refine z_aload_n (pc := 0) dX8_freeAt_0 rfl rfl ?_
  refine z_getk (pc := 1) dX8_freeAt_1 fX8_51 rfl (sS_0 S g1) ?_
  refine z_iload_n (pc := 4) dX8_freeAt_4 rfl rfl ?_
  have c1 := H.1
  replace H := H.2
  refine z_iald (pc := 5) dX8_freeAt_5 c1 ?_
  refine z_istore (pc := 6) (ls' := [some (.inr (some (0, 9, o0))), some (.inr (some (0, 10, o1))), some (.inr (some (0, 1, o2))), some (.inl x3), some (.inl (hA h (o1 + 1) (x3).toNatClampNeg))]) dX8_freeAt_6 rfl rfl ?_
  refine z_aload_n (pc := 8) dX8_freeAt_8 rfl rfl ?_
  refine z_getk (pc := 9) dX8_freeAt_9 fX8_57 rfl (sS_1 S g1) ?_
  refine z_iload_n (pc := 12) dX8_freeAt_12 rfl rfl ?_
  refine z_iald (pc := 13) dX8_freeAt_13 c1 ?_
  refine z_aload_n (pc := 14) dX8_freeAt_14 rfl rfl ?_
  refine z_iload (pc := 15) dX8_freeAt_15 rfl ?_
  refine z_iload (pc := 17) dX8_freeAt_17 rfl ?_
  refine z_aload_n (pc := 19) dX8_freeAt_19 rfl rfl ?_
  refine z_geti (pc := 20) dX8_freeAt_20 fX8_60 rfl ?_
  refine z_iadd (pc := 23) dX8_freeAt_23 ?_
  refine y_VI (pc := 24) (bc := bc) (bs := bs) (mc := 0) (ms := 0) (As := [.inl (hA h (o1 + 1) (x3).toNatClampNeg), .inl ((hA h (o1 + 1) (x3).toNatClampNeg) + (hI h o0 1))]) (rest := [.inl (hA h (o1 + 2) (x3).toNatClampNeg)]) dX8_freeAt_24 kX1_engaged lX8_63 ⟨_, _, rfl⟩ rfl rfl (H.use (fun v2 h2 H => ?_))
  have S2 := H.1
  replace H := H.2
  refine z_iconst (pc := 27) (v := (-1)) dX8_freeAt_27 (by decide) ?_
  refine z_ixor (pc := 28) dX8_freeAt_28 ?_
  refine z_iand (pc := 29) dX8_freeAt_29 ?_
  exact z_iret (pc := 30) dX8_freeAt_30 rfl rfl ⟨_, rfl, H⟩

abbrev LX8_preferSecond_5 (l : Launch) (E : eE) (d bc bs : Nat) (o0 : Nat) (o1 : Nat) (x2 : Int32) (x3 : Int32) (x4 : Int32) (h : aH) (Q : Int32 → aH → Prop) : Prop := TI l E mX8_preferSecond d bc bs 5 [some (.inr (some (0, 8, o0))), some (.inr (some (0, 10, o1))), some (.inl x2), some (.inl x3), some (.inl x4)] [] h Q

set_option maxRecDepth 20000 in
theorem bX8_preferSecond_0 {l : Launch} {E : eE} {d bc bs : Nat} {h : aH} {Q : Int32 → aH → Prop} {o0 : Nat} {o1 : Nat} {x2 : Int32} (S : SH h) (g1 : isSh o1) (H : LX8_preferSecond_5 l E (d + 1) bc bs o0 o1 x2 (nI 0) (nI 0) h Q) : CI l E (d + 1) bc bs mX8_preferSecond [.inr (some (0, 8, o0)), .inr (some (0, 10, o1)), .inl x2] h Q := by
  refine CI.of (by decide) rfl ?_
  show TI l E mX8_preferSecond (d + 1) bc bs 0 [some (.inr (some (0, 8, o0))), some (.inr (some (0, 10, o1))), some (.inl x2), none, none] [] h Q
  refine z_iconst (pc := 0) (v := (nI 0)) dX8_preferSecond_0 (by decide) ?_
  refine z_istore_n (pc := 1) (ls' := [some (.inr (some (0, 8, o0))), some (.inr (some (0, 10, o1))), some (.inl x2), some (.inl (nI 0)), none]) dX8_preferSecond_1 rfl rfl rfl ?_
  refine z_iconst (pc := 2) (v := (nI 0)) dX8_preferSecond_2 (by decide) ?_
  refine z_istore (pc := 3) (ls' := [some (.inr (some (0, 8, o0))), some (.inr (some (0, 10, o1))), some (.inl x2), some (.inl (nI 0)), some (.inl (nI 0))]) dX8_preferSecond_3 rfl rfl ?_
  exact H

set_option maxRecDepth 20000 in
theorem bX8_preferSecond_5 {l : Launch} {E : eE} {d bc bs : Nat} {h : aH} {Q : Int32 → aH → Prop} {o0 : Nat} {o1 : Nat} {x2 : Int32} {x3 : Int32} {x4 : Int32} (S : SH h) (g1 : isSh o1) (H : (((nI 12) ≤ x4 → Q x3 h) ∧ (¬ (nI 12) ≤ x4 → (((x2 >>> (x4 &&& 31)) = 0 → Q x3 h) ∧ (¬ (x2 >>> (x4 &&& 31)) = 0 → (CI l E d 0 0 mX11_isIn [.inl x2, .inl x4] h (fun v3 h3 => SH h3 ∧ ((v3 = 0 → LX8_preferSecond_5 l E (d + 1) bc bs o0 o1 x2 x3 (x4 + (nI 1)) h3 Q) ∧ (¬ v3 = 0 → (vp_in (((hI h3 o0 1) * (nI 12)) + x4) 72 ∧ (vp_in (((hI h3 o0 0) * (nI 12)) + x4) 72 ∧ (((hA h3 (o1 + 3) ((((hI h3 o0 0) * (nI 12)) + x4)).toNatClampNeg) ≤ (hA h3 (o1 + 3) ((((hI h3 o0 1) * (nI 12)) + x4)).toNatClampNeg) → LX8_preferSecond_5 l E (d + 1) bc bs o0 o1 x2 x3 (x4 + (nI 1)) h3 Q) ∧ (¬ (hA h3 (o1 + 3) ((((hI h3 o0 0) * (nI 12)) + x4)).toNatClampNeg) ≤ (hA h3 (o1 + 3) ((((hI h3 o0 1) * (nI 12)) + x4)).toNatClampNeg) → LX8_preferSecond_5 l E (d + 1) bc bs o0 o1 x2 (x3 ||| ((nI 1) <<< (x4 &&& 31))) (x4 + (nI 1)) h3 Q))))))))))))) : LX8_preferSecond_5 l E (d + 1) bc bs o0 o1 x2 x3 x4 h Q := by
  refine z_iload (pc := 5) dX8_preferSecond_5 rfl ?_
  refine z_bipush (pc := 7) (v := (nI 12)) dX8_preferSecond_7 (by decide) ?_
  refine z_icmp_ge (pc := 9) (tgt := 74) dX8_preferSecond_9 (by decide) (fun c1 => ?_) (fun c1 => ?_)
  · replace H := H.1 c1
    refine z_iload_n (pc := 74) dX8_preferSecond_74 rfl rfl ?_
    exact z_iret (pc := 75) dX8_preferSecond_75 rfl rfl ⟨_, rfl, H⟩
  · replace H := H.2 c1
    refine z_iload_n (pc := 12) dX8_preferSecond_12 rfl rfl ?_
    refine z_iload (pc := 13) dX8_preferSecond_13 rfl ?_
    refine z_ishr (pc := 15) dX8_preferSecond_15 ?_
    refine z_if_eq (pc := 16) (tgt := 74) dX8_preferSecond_16 (by decide) (fun c2 => ?_) (fun c2 => ?_)
    · replace H := H.1 c2
      refine z_iload_n (pc := 74) dX8_preferSecond_74 rfl rfl ?_
      exact z_iret (pc := 75) dX8_preferSecond_75 rfl rfl ⟨_, rfl, H⟩
    · replace H := H.2 c2
      refine z_iload_n (pc := 19) dX8_preferSecond_19 rfl rfl ?_
      refine z_iload (pc := 20) dX8_preferSecond_20 rfl ?_
      refine y_NI (pc := 22) (bc := bc) (bs := bs) (mc := 0) (ms := 0) (As := [.inl x2, .inl x4]) (rest := []) dX8_preferSecond_22 kX11_isIn lX8_69 rfl rfl (H.use (fun v3 h3 H => ?_))
      have S3 := H.1
      replace H := H.2
      refine z_if_eq (pc := 25) (tgt := 68) dX8_preferSecond_25 (by decide) (fun c4 => ?_) (fun c4 => ?_)
      · replace H := H.1 c4
        refine z_iinc (pc := 68) (v := (x4 + (nI 1))) (ls' := [some (.inr (some (0, 8, o0))), some (.inr (some (0, 10, o1))), some (.inl x2), some (.inl x3), some (.inl (x4 + (nI 1)))]) dX8_preferSecond_68 rfl (by rw [show Int32.ofInt (1) = (nI 1) by decide]) rfl ?_
        refine z_goto (pc := 71) (tgt := 5) dX8_preferSecond_71 (by decide) ?_
        exact H
      · replace H := H.2 c4
        refine z_aload_n (pc := 28) dX8_preferSecond_28 rfl rfl ?_
        refine z_getk (pc := 29) dX8_preferSecond_29 fX8_73 rfl (sS_2 S3 g1) ?_
        refine z_aload_n (pc := 32) dX8_preferSecond_32 rfl rfl ?_
        refine z_geti (pc := 33) dX8_preferSecond_33 fX8_24 rfl ?_
        refine z_bipush (pc := 36) (v := (nI 12)) dX8_preferSecond_36 (by decide) ?_
        refine z_imul (pc := 38) dX8_preferSecond_38 ?_
        refine z_iload (pc := 39) dX8_preferSecond_39 rfl ?_
        refine z_iadd (pc := 41) dX8_preferSecond_41 ?_
        have c5 := H.1
        replace H := H.2
        refine z_iald (pc := 42) dX8_preferSecond_42 c5 ?_
        refine z_aload_n (pc := 43) dX8_preferSecond_43 rfl rfl ?_
        refine z_getk (pc := 44) dX8_preferSecond_44 fX8_73 rfl (sS_2 S3 g1) ?_
        refine z_aload_n (pc := 47) dX8_preferSecond_47 rfl rfl ?_
        refine z_geti (pc := 48) dX8_preferSecond_48 fX8_15 rfl ?_
        refine z_bipush (pc := 51) (v := (nI 12)) dX8_preferSecond_51 (by decide) ?_
        refine z_imul (pc := 53) dX8_preferSecond_53 ?_
        refine z_iload (pc := 54) dX8_preferSecond_54 rfl ?_
        refine z_iadd (pc := 56) dX8_preferSecond_56 ?_
        have c6 := H.1
        replace H := H.2
        refine z_iald (pc := 57) dX8_preferSecond_57 c6 ?_
        refine z_icmp_ge (pc := 58) (tgt := 68) dX8_preferSecond_58 (by decide) (fun c7 => ?_) (fun c7 => ?_)
        · replace H := H.1 c7
          refine z_iinc (pc := 68) (v := (x4 + (nI 1))) (ls' := [some (.inr (some (0, 8, o0))), some (.inr (some (0, 10, o1))), some (.inl x2), some (.inl x3), some (.inl (x4 + (nI 1)))]) dX8_preferSecond_68 rfl (by rw [show Int32.ofInt (1) = (nI 1) by decide]) rfl ?_
          refine z_goto (pc := 71) (tgt := 5) dX8_preferSecond_71 (by decide) ?_
          exact H
        · replace H := H.2 c7
          refine z_iload_n (pc := 61) dX8_preferSecond_61 rfl rfl ?_
          refine z_iconst (pc := 62) (v := (nI 1)) dX8_preferSecond_62 (by decide) ?_
          refine z_iload (pc := 63) dX8_preferSecond_63 rfl ?_
          refine z_ishl (pc := 65) dX8_preferSecond_65 ?_
          refine z_ior (pc := 66) dX8_preferSecond_66 ?_
          refine z_istore_n (pc := 67) (ls' := [some (.inr (some (0, 8, o0))), some (.inr (some (0, 10, o1))), some (.inl x2), some (.inl (x3 ||| ((nI 1) <<< (x4 &&& 31)))), some (.inl x4)]) dX8_preferSecond_67 rfl rfl rfl ?_
          refine z_iinc (pc := 68) (v := (x4 + (nI 1))) (ls' := [some (.inr (some (0, 8, o0))), some (.inr (some (0, 10, o1))), some (.inl x2), some (.inl (x3 ||| ((nI 1) <<< (x4 &&& 31)))), some (.inl (x4 + (nI 1)))]) dX8_preferSecond_68 rfl (by rw [show Int32.ofInt (1) = (nI 1) by decide]) rfl ?_
          refine z_goto (pc := 71) (tgt := 5) dX8_preferSecond_71 (by decide) ?_
          exact H

set_option maxRecDepth 20000 in
theorem bX8_seat_0 {l : Launch} {E : eE} {d bc bs : Nat} {h : aH} {Q : aH → Prop} {o0 : Nat} {o1 : Nat} {o2 : Nat} {o3 : Nat} {x4 : Int32} (S : SH h) (g2 : isSh o2) (g3 : isBd o3) (H : (CI l E d 0 0 mX9_firstOf [.inr (some (0, 9, o1)), .inl x4] h (fun v1 h1 => SH h1 ∧ (CI l E d 0 0 mX9_secondOf [.inr (some (0, 9, o1)), .inl x4] (stI h1 o0 0 v1) (fun v2 h2 => SH h2 ∧ (CI l E d 0 0 mX8_freeAt [.inr (some (0, 9, o1)), .inr (some (0, 10, o2)), .inr (some (0, 1, o3)), .inl (hI (stI h2 o0 1 v2) o0 0)] (stI h2 o0 1 v2) (fun v3 h3 => SH h3 ∧ ((¬ (hI (stI h3 o0 2 v3) o0 1) = (-1) → (CI l E d 0 0 mX8_freeAt [.inr (some (0, 9, o1)), .inr (some (0, 10, o2)), .inr (some (0, 1, o3)), .inl (hI (stI h3 o0 2 v3) o0 1)] (stI h3 o0 2 v3) (fun v5 h5 => SH h5 ∧ (CI l E d 0 0 mX9_chairAlone [.inr (some (0, 9, o1))] (stI h5 o0 3 v5) (fun v6 h6 => SH h6 ∧ (CI l E d 0 0 mX8_preferSecond [.inr (some (0, 8, o0)), .inr (some (0, 10, o2)), .inl (((hI (stI h5 o0 3 v5) o0 2) &&& (hI (stI h5 o0 3 v5) o0 3)) &&& (v6 ^^^ (-1)))] h6 (fun v7 h7 => SH h7 ∧ Q (stI (stI h7 o0 4 ((hI h7 o0 2) &&& (v7 ^^^ (-1)))) o0 5 ((hI (stI h7 o0 4 ((hI h7 o0 2) &&& (v7 ^^^ (-1)))) o0 3) &&& (((((hI (stI h5 o0 3 v5) o0 2) &&& (hI (stI h5 o0 3 v5) o0 3)) &&& (v6 ^^^ (-1))) &&& (v7 ^^^ (-1))) ^^^ (-1))))))))))) ∧ ((hI (stI h3 o0 2 v3) o0 1) = (-1) → (CI l E d 0 0 mX9_chairAlone [.inr (some (0, 9, o1))] (stI (stI h3 o0 2 v3) o0 3 (nI 0)) (fun v8 h8 => SH h8 ∧ (CI l E d 0 0 mX8_preferSecond [.inr (some (0, 8, o0)), .inr (some (0, 10, o2)), .inl (((hI (stI (stI h3 o0 2 v3) o0 3 (nI 0)) o0 2) &&& (hI (stI (stI h3 o0 2 v3) o0 3 (nI 0)) o0 3)) &&& (v8 ^^^ (-1)))] h8 (fun v9 h9 => SH h9 ∧ Q (stI (stI h9 o0 4 ((hI h9 o0 2) &&& (v9 ^^^ (-1)))) o0 5 ((hI (stI h9 o0 4 ((hI h9 o0 2) &&& (v9 ^^^ (-1)))) o0 3) &&& (((((hI (stI (stI h3 o0 2 v3) o0 3 (nI 0)) o0 2) &&& (hI (stI (stI h3 o0 2 v3) o0 3 (nI 0)) o0 3)) &&& (v8 ^^^ (-1))) &&& (v9 ^^^ (-1))) ^^^ (-1))))))))))))))))) : CV l E (d + 1) bc bs mX8_seat [.inr (some (0, 8, o0)), .inr (some (0, 9, o1)), .inr (some (0, 10, o2)), .inr (some (0, 1, o3)), .inl x4] h Q := by
  refine CV.of (by decide) rfl ?_
  show TV l E mX8_seat (d + 1) bc bs 0 [some (.inr (some (0, 8, o0))), some (.inr (some (0, 9, o1))), some (.inr (some (0, 10, o2))), some (.inr (some (0, 1, o3))), some (.inl x4), none, none] [] h Q
  refine z_aload_n (pc := 0) dX8_seat_0 rfl rfl ?_
  refine z_aload_n (pc := 1) dX8_seat_1 rfl rfl ?_
  refine z_iload (pc := 2) dX8_seat_2 rfl ?_
  refine y_VI (pc := 4) (bc := bc) (bs := bs) (mc := 0) (ms := 0) (As := [.inl x4]) (rest := [.inr (some (0, 8, o0))]) dX8_seat_4 kX9_firstOf lX8_9 ⟨_, _, rfl⟩ rfl rfl (H.use (fun v1 h1 H => ?_))
  have S1 := H.1
  replace H := H.2
  refine z_puti (pc := 7) dX8_seat_7 fX8_15 (uX8_0 _) rfl rfl rfl ?_
  refine z_aload_n (pc := 10) dX8_seat_10 rfl rfl ?_
  refine z_aload_n (pc := 11) dX8_seat_11 rfl rfl ?_
  refine z_iload (pc := 12) dX8_seat_12 rfl ?_
  refine y_VI (pc := 14) (bc := bc) (bs := bs) (mc := 0) (ms := 0) (As := [.inl x4]) (rest := [.inr (some (0, 8, o0))]) dX8_seat_14 kX9_secondOf lX8_21 ⟨_, _, rfl⟩ rfl rfl (H.use (fun v2 h2 H => ?_))
  have S2 := H.1
  replace H := H.2
  refine z_puti (pc := 17) dX8_seat_17 fX8_24 (uX8_1 _) rfl rfl rfl ?_
  refine z_aload_n (pc := 20) dX8_seat_20 rfl rfl ?_
  refine z_aload_n (pc := 21) dX8_seat_21 rfl rfl ?_
  refine z_aload_n (pc := 22) dX8_seat_22 rfl rfl ?_
  refine z_aload_n (pc := 23) dX8_seat_23 rfl rfl ?_
  refine z_aload_n (pc := 24) dX8_seat_24 rfl rfl ?_
  refine z_geti (pc := 25) dX8_seat_25 fX8_15 rfl ?_
  refine y_SI (pc := 28) (bc := bc) (bs := bs) (mc := 0) (ms := 0) (As := [.inr (some (0, 9, o1)), .inr (some (0, 10, o2)), .inr (some (0, 1, o3)), .inl (hI (stI h2 o0 1 v2) o0 0)]) (rest := [.inr (some (0, 8, o0))]) dX8_seat_28 kX8_freeAt lX8_27 rfl rfl (H.use (fun v3 h3 H => ?_))
  have S3 := H.1
  replace H := H.2
  refine z_puti (pc := 31) dX8_seat_31 fX8_31 (uX8_2 _) rfl rfl rfl ?_
  refine z_aload_n (pc := 34) dX8_seat_34 rfl rfl ?_
  refine z_aload_n (pc := 35) dX8_seat_35 rfl rfl ?_
  refine z_geti (pc := 36) dX8_seat_36 fX8_24 rfl ?_
  refine z_iconst (pc := 39) (v := (-1)) dX8_seat_39 (by decide) ?_
  refine z_icmp_ne (pc := 40) (tgt := 47) dX8_seat_40 (by decide) (fun c4 => ?_) (fun c4 => ?_)
  · replace H := H.1 c4
    refine z_aload_n (pc := 47) dX8_seat_47 rfl rfl ?_
    refine z_aload_n (pc := 48) dX8_seat_48 rfl rfl ?_
    refine z_aload_n (pc := 49) dX8_seat_49 rfl rfl ?_
    refine z_aload_n (pc := 50) dX8_seat_50 rfl rfl ?_
    refine z_geti (pc := 51) dX8_seat_51 fX8_24 rfl ?_
    refine y_SI (pc := 54) (bc := bc) (bs := bs) (mc := 0) (ms := 0) (As := [.inr (some (0, 9, o1)), .inr (some (0, 10, o2)), .inr (some (0, 1, o3)), .inl (hI (stI h3 o0 2 v3) o0 1)]) (rest := [.inr (some (0, 8, o0))]) dX8_seat_54 kX8_freeAt lX8_27 rfl rfl (H.use (fun v5 h5 H => ?_))
    have S5 := H.1
    replace H := H.2
    refine z_puti (pc := 57) dX8_seat_57 fX8_34 (uX8_3 _) rfl rfl rfl ?_
    refine z_aload_n (pc := 60) dX8_seat_60 rfl rfl ?_
    refine z_geti (pc := 61) dX8_seat_61 fX8_31 rfl ?_
    refine z_aload_n (pc := 64) dX8_seat_64 rfl rfl ?_
    refine z_geti (pc := 65) dX8_seat_65 fX8_34 rfl ?_
    refine z_iand (pc := 68) dX8_seat_68 ?_
    refine z_aload_n (pc := 69) dX8_seat_69 rfl rfl ?_
    refine y_VI (pc := 70) (bc := bc) (bs := bs) (mc := 0) (ms := 0) (As := []) (rest := [.inl ((hI (stI h5 o0 3 v5) o0 2) &&& (hI (stI h5 o0 3 v5) o0 3))]) dX8_seat_70 kX9_chairAlone lX8_37 ⟨_, _, rfl⟩ rfl rfl (H.use (fun v6 h6 H => ?_))
    have S6 := H.1
    replace H := H.2
    refine z_iconst (pc := 73) (v := (-1)) dX8_seat_73 (by decide) ?_
    refine z_ixor (pc := 74) dX8_seat_74 ?_
    refine z_iand (pc := 75) dX8_seat_75 ?_
    refine z_istore (pc := 76) (ls' := [some (.inr (some (0, 8, o0))), some (.inr (some (0, 9, o1))), some (.inr (some (0, 10, o2))), some (.inr (some (0, 1, o3))), some (.inl x4), some (.inl (((hI (stI h5 o0 3 v5) o0 2) &&& (hI (stI h5 o0 3 v5) o0 3)) &&& (v6 ^^^ (-1)))), none]) dX8_seat_76 rfl rfl ?_
    refine z_aload_n (pc := 78) dX8_seat_78 rfl rfl ?_
    refine z_aload_n (pc := 79) dX8_seat_79 rfl rfl ?_
    refine z_iload (pc := 80) dX8_seat_80 rfl ?_
    refine y_VI (pc := 82) (bc := bc) (bs := bs) (mc := 0) (ms := 0) (As := [.inr (some (0, 10, o2)), .inl (((hI (stI h5 o0 3 v5) o0 2) &&& (hI (stI h5 o0 3 v5) o0 3)) &&& (v6 ^^^ (-1)))]) (rest := []) dX8_seat_82 kX8_preferSecond lX8_41 ⟨_, _, rfl⟩ rfl rfl (H.use (fun v7 h7 H => ?_))
    have S7 := H.1
    replace H := H.2
    refine z_istore (pc := 85) (ls' := [some (.inr (some (0, 8, o0))), some (.inr (some (0, 9, o1))), some (.inr (some (0, 10, o2))), some (.inr (some (0, 1, o3))), some (.inl x4), some (.inl (((hI (stI h5 o0 3 v5) o0 2) &&& (hI (stI h5 o0 3 v5) o0 3)) &&& (v6 ^^^ (-1)))), some (.inl v7)]) dX8_seat_85 rfl rfl ?_
    refine z_aload_n (pc := 87) dX8_seat_87 rfl rfl ?_
    refine z_aload_n (pc := 88) dX8_seat_88 rfl rfl ?_
    refine z_geti (pc := 89) dX8_seat_89 fX8_31 rfl ?_
    refine z_iload (pc := 92) dX8_seat_92 rfl ?_
    refine z_iconst (pc := 94) (v := (-1)) dX8_seat_94 (by decide) ?_
    refine z_ixor (pc := 95) dX8_seat_95 ?_
    refine z_iand (pc := 96) dX8_seat_96 ?_
    refine z_puti (pc := 97) dX8_seat_97 fX8_45 (uX8_4 _) rfl rfl rfl ?_
    refine z_aload_n (pc := 100) dX8_seat_100 rfl rfl ?_
    refine z_aload_n (pc := 101) dX8_seat_101 rfl rfl ?_
    refine z_geti (pc := 102) dX8_seat_102 fX8_34 rfl ?_
    refine z_iload (pc := 105) dX8_seat_105 rfl ?_
    refine z_iload (pc := 107) dX8_seat_107 rfl ?_
    refine z_iconst (pc := 109) (v := (-1)) dX8_seat_109 (by decide) ?_
    refine z_ixor (pc := 110) dX8_seat_110 ?_
    refine z_iand (pc := 111) dX8_seat_111 ?_
    refine z_iconst (pc := 112) (v := (-1)) dX8_seat_112 (by decide) ?_
    refine z_ixor (pc := 113) dX8_seat_113 ?_
    refine z_iand (pc := 114) dX8_seat_114 ?_
    refine z_puti (pc := 115) dX8_seat_115 fX8_48 (uX8_5 _) rfl rfl rfl ?_
    exact z_ret (pc := 118) dX8_seat_118 rfl ⟨rfl, H⟩
  · replace H := H.2 c4
    refine z_iconst (pc := 43) (v := (nI 0)) dX8_seat_43 (by decide) ?_
    refine z_goto (pc := 44) (tgt := 57) dX8_seat_44 (by decide) ?_
    refine z_puti (pc := 57) dX8_seat_57 fX8_34 (uX8_3 _) rfl rfl rfl ?_
    refine z_aload_n (pc := 60) dX8_seat_60 rfl rfl ?_
    refine z_geti (pc := 61) dX8_seat_61 fX8_31 rfl ?_
    refine z_aload_n (pc := 64) dX8_seat_64 rfl rfl ?_
    refine z_geti (pc := 65) dX8_seat_65 fX8_34 rfl ?_
    refine z_iand (pc := 68) dX8_seat_68 ?_
    refine z_aload_n (pc := 69) dX8_seat_69 rfl rfl ?_
    refine y_VI (pc := 70) (bc := bc) (bs := bs) (mc := 0) (ms := 0) (As := []) (rest := [.inl ((hI (stI (stI h3 o0 2 v3) o0 3 (nI 0)) o0 2) &&& (hI (stI (stI h3 o0 2 v3) o0 3 (nI 0)) o0 3))]) dX8_seat_70 kX9_chairAlone lX8_37 ⟨_, _, rfl⟩ rfl rfl (H.use (fun v8 h8 H => ?_))
    have S8 := H.1
    replace H := H.2
    refine z_iconst (pc := 73) (v := (-1)) dX8_seat_73 (by decide) ?_
    refine z_ixor (pc := 74) dX8_seat_74 ?_
    refine z_iand (pc := 75) dX8_seat_75 ?_
    refine z_istore (pc := 76) (ls' := [some (.inr (some (0, 8, o0))), some (.inr (some (0, 9, o1))), some (.inr (some (0, 10, o2))), some (.inr (some (0, 1, o3))), some (.inl x4), some (.inl (((hI (stI (stI h3 o0 2 v3) o0 3 (nI 0)) o0 2) &&& (hI (stI (stI h3 o0 2 v3) o0 3 (nI 0)) o0 3)) &&& (v8 ^^^ (-1)))), none]) dX8_seat_76 rfl rfl ?_
    refine z_aload_n (pc := 78) dX8_seat_78 rfl rfl ?_
    refine z_aload_n (pc := 79) dX8_seat_79 rfl rfl ?_
    refine z_iload (pc := 80) dX8_seat_80 rfl ?_
    refine y_VI (pc := 82) (bc := bc) (bs := bs) (mc := 0) (ms := 0) (As := [.inr (some (0, 10, o2)), .inl (((hI (stI (stI h3 o0 2 v3) o0 3 (nI 0)) o0 2) &&& (hI (stI (stI h3 o0 2 v3) o0 3 (nI 0)) o0 3)) &&& (v8 ^^^ (-1)))]) (rest := []) dX8_seat_82 kX8_preferSecond lX8_41 ⟨_, _, rfl⟩ rfl rfl (H.use (fun v9 h9 H => ?_))
    have S9 := H.1
    replace H := H.2
    refine z_istore (pc := 85) (ls' := [some (.inr (some (0, 8, o0))), some (.inr (some (0, 9, o1))), some (.inr (some (0, 10, o2))), some (.inr (some (0, 1, o3))), some (.inl x4), some (.inl (((hI (stI (stI h3 o0 2 v3) o0 3 (nI 0)) o0 2) &&& (hI (stI (stI h3 o0 2 v3) o0 3 (nI 0)) o0 3)) &&& (v8 ^^^ (-1)))), some (.inl v9)]) dX8_seat_85 rfl rfl ?_
    refine z_aload_n (pc := 87) dX8_seat_87 rfl rfl ?_
    refine z_aload_n (pc := 88) dX8_seat_88 rfl rfl ?_
    refine z_geti (pc := 89) dX8_seat_89 fX8_31 rfl ?_
    refine z_iload (pc := 92) dX8_seat_92 rfl ?_
    refine z_iconst (pc := 94) (v := (-1)) dX8_seat_94 (by decide) ?_
    refine z_ixor (pc := 95) dX8_seat_95 ?_
    refine z_iand (pc := 96) dX8_seat_96 ?_
    refine z_puti (pc := 97) dX8_seat_97 fX8_45 (uX8_4 _) rfl rfl rfl ?_
    refine z_aload_n (pc := 100) dX8_seat_100 rfl rfl ?_
    refine z_aload_n (pc := 101) dX8_seat_101 rfl rfl ?_
    refine z_geti (pc := 102) dX8_seat_102 fX8_34 rfl ?_
    refine z_iload (pc := 105) dX8_seat_105 rfl ?_
    refine z_iload (pc := 107) dX8_seat_107 rfl ?_
    refine z_iconst (pc := 109) (v := (-1)) dX8_seat_109 (by decide) ?_
    refine z_ixor (pc := 110) dX8_seat_110 ?_
    refine z_iand (pc := 111) dX8_seat_111 ?_
    refine z_iconst (pc := 112) (v := (-1)) dX8_seat_112 (by decide) ?_
    refine z_ixor (pc := 113) dX8_seat_113 ?_
    refine z_iand (pc := 114) dX8_seat_114 ?_
    refine z_puti (pc := 115) dX8_seat_115 fX8_48 (uX8_5 _) rfl rfl rfl ?_
    exact z_ret (pc := 118) dX8_seat_118 rfl ⟨rfl, H⟩

abbrev LX0_noteHindered_2 (l : Launch) (E : eE) (d bc bs : Nat) (o1 : Nat) (x2 : Int32) (x3 : Int32) (h : aH) (Q : aH → Prop) : Prop := TV l E mX0_noteHindered d bc bs 2 [some (.inr (some (0, 0, 59))), some (.inr (some (0, 9, o1))), some (.inl x2), some (.inl x3), none, none] [] h Q

set_option maxRecDepth 20000 in
theorem bX0_noteHindered_0 {l : Launch} {E : eE} {d bc bs : Nat} {h : aH} {Q : aH → Prop} {o1 : Nat} {x2 : Int32} (S : SH h) (H : LX0_noteHindered_2 l E (d + 1) bc bs o1 x2 (nI 0) h Q) : CV l E (d + 1) bc bs mX0_noteHindered [.inr (some (0, 0, 59)), .inr (some (0, 9, o1)), .inl x2] h Q := by
  refine CV.of (by decide) rfl ?_
  show TV l E mX0_noteHindered (d + 1) bc bs 0 [some (.inr (some (0, 0, 59))), some (.inr (some (0, 9, o1))), some (.inl x2), none, none, none] [] h Q
  refine z_iconst (pc := 0) (v := (nI 0)) dX0_noteHindered_0 (by decide) ?_
  refine z_istore_n (pc := 1) (ls' := [some (.inr (some (0, 0, 59))), some (.inr (some (0, 9, o1))), some (.inl x2), some (.inl (nI 0)), none, none]) dX0_noteHindered_1 rfl rfl rfl ?_
  exact H

set_option maxRecDepth 20000 in
theorem bX0_noteHindered_2 {l : Launch} {E : eE} {d bc bs : Nat} {h : aH} {Q : aH → Prop} {o1 : Nat} {x2 : Int32} {x3 : Int32} (S : SH h) (H : (((hI h 59 3) ≤ x3 → Q h) ∧ (¬ (hI h 59 3) ≤ x3 → (vp_in x3 12 ∧ ((¬ (hA h 61 (x3).toNatClampNeg) = (hI h o1 3) → (CI l E d 0 0 mX11_isIn [.inl ((hI h 60 2) ||| (hI h 60 3)), .inl (hA h 61 (x3).toNatClampNeg)] h (fun v4 h4 => SH h4 ∧ ((¬ v4 = 0 → LX0_noteHindered_2 l E (d + 1) bc bs o1 x2 (x3 + (nI 1)) h4 Q) ∧ (v4 = 0 → LX0_noteHindered_2 l E (d + 1) bc bs o1 x2 (x3 + (nI 1)) (stA h4 62 (x3).toNatClampNeg ((hA h4 62 (x3).toNatClampNeg) ||| ((nI 1) <<< (x2 &&& 31)))) Q))))) ∧ ((hA h 61 (x3).toNatClampNeg) = (hI h o1 3) → (CI l E d 0 0 mX11_isIn [.inl ((hI h 60 2) &&& (hI h 60 3)), .inl (hA h 61 (x3).toNatClampNeg)] h (fun v6 h6 => SH h6 ∧ ((¬ v6 = 0 → LX0_noteHindered_2 l E (d + 1) bc bs o1 x2 (x3 + (nI 1)) h6 Q) ∧ (v6 = 0 → LX0_noteHindered_2 l E (d + 1) bc bs o1 x2 (x3 + (nI 1)) (stA h6 62 (x3).toNatClampNeg ((hA h6 62 (x3).toNatClampNeg) ||| ((nI 1) <<< (x2 &&& 31)))) Q)))))))))) : LX0_noteHindered_2 l E (d + 1) bc bs o1 x2 x3 h Q := by
  refine z_iload_n (pc := 2) dX0_noteHindered_2 rfl rfl ?_
  refine z_aload_n (pc := 3) dX0_noteHindered_3 rfl rfl ?_
  refine z_geti (pc := 4) dX0_noteHindered_4 fX0_57 rfl ?_
  refine z_icmp_ge (pc := 7) (tgt := 90) dX0_noteHindered_7 (by decide) (fun c1 => ?_) (fun c1 => ?_)
  · replace H := H.1 c1
    exact z_ret (pc := 90) dX0_noteHindered_90 rfl ⟨rfl, H⟩
  · replace H := H.2 c1
    refine z_aload_n (pc := 10) dX0_noteHindered_10 rfl rfl ?_
    refine z_getk (pc := 11) dX0_noteHindered_11 fX0_18 rfl (s_59_1 S) ?_
    refine z_iload_n (pc := 14) dX0_noteHindered_14 rfl rfl ?_
    have c2 := H.1
    replace H := H.2
    refine z_iald (pc := 15) dX0_noteHindered_15 c2 ?_
    refine z_istore (pc := 16) (ls' := [some (.inr (some (0, 0, 59))), some (.inr (some (0, 9, o1))), some (.inl x2), some (.inl x3), some (.inl (hA h 61 (x3).toNatClampNeg)), none]) dX0_noteHindered_16 rfl rfl ?_
    refine z_iload (pc := 18) dX0_noteHindered_18 rfl ?_
    refine z_aload_n (pc := 20) dX0_noteHindered_20 rfl rfl ?_
    refine z_geti (pc := 21) dX0_noteHindered_21 fX0_65 rfl ?_
    refine z_icmp_ne (pc := 24) (tgt := 45) dX0_noteHindered_24 (by decide) (fun c3 => ?_) (fun c3 => ?_)
    · replace H := H.1 c3
      refine z_aload_n (pc := 45) dX0_noteHindered_45 rfl rfl ?_
      refine z_getk (pc := 46) dX0_noteHindered_46 fX0_12 rfl (s_59_0 S) ?_
      refine z_geti (pc := 49) dX0_noteHindered_49 fX0_68 rfl ?_
      refine z_aload_n (pc := 52) dX0_noteHindered_52 rfl rfl ?_
      refine z_getk (pc := 53) dX0_noteHindered_53 fX0_12 rfl (s_59_0 S) ?_
      refine z_geti (pc := 56) dX0_noteHindered_56 fX0_71 rfl ?_
      refine z_ior (pc := 59) dX0_noteHindered_59 ?_
      refine z_istore (pc := 60) (ls' := [some (.inr (some (0, 0, 59))), some (.inr (some (0, 9, o1))), some (.inl x2), some (.inl x3), some (.inl (hA h 61 (x3).toNatClampNeg)), some (.inl ((hI h 60 2) ||| (hI h 60 3)))]) dX0_noteHindered_60 rfl rfl ?_
      refine z_iload (pc := 62) dX0_noteHindered_62 rfl ?_
      refine z_iload (pc := 64) dX0_noteHindered_64 rfl ?_
      refine y_NI (pc := 66) (bc := bc) (bs := bs) (mc := 0) (ms := 0) (As := [.inl ((hI h 60 2) ||| (hI h 60 3)), .inl (hA h 61 (x3).toNatClampNeg)]) (rest := []) dX0_noteHindered_66 kX11_isIn lX0_61 rfl rfl (H.use (fun v4 h4 H => ?_))
      have S4 := H.1
      replace H := H.2
      refine z_if_ne (pc := 69) (tgt := 84) dX0_noteHindered_69 (by decide) (fun c5 => ?_) (fun c5 => ?_)
      · replace H := H.1 c5
        refine z_iinc (pc := 84) (v := (x3 + (nI 1))) (ls' := [some (.inr (some (0, 0, 59))), some (.inr (some (0, 9, o1))), some (.inl x2), some (.inl (x3 + (nI 1))), some (.inl (hA h 61 (x3).toNatClampNeg)), some (.inl ((hI h 60 2) ||| (hI h 60 3)))]) dX0_noteHindered_84 rfl (by rw [show Int32.ofInt (1) = (nI 1) by decide]) rfl ?_
        refine z_goto (pc := 87) (tgt := 2) dX0_noteHindered_87 (by decide) ?_
        exact z_drop (ls' := [some (.inr (some (0, 0, 59))), some (.inr (some (0, 9, o1))), some (.inl x2), some (.inl (x3 + (nI 1))), none, none]) (by simp [dropL]) H
      · replace H := H.2 c5
        refine z_aload_n (pc := 72) dX0_noteHindered_72 rfl rfl ?_
        refine z_getk (pc := 73) dX0_noteHindered_73 fX0_22 rfl (s_59_2 S4) ?_
        refine z_iload_n (pc := 76) dX0_noteHindered_76 rfl rfl ?_
        refine z_dup2 (pc := 77) dX0_noteHindered_77 ?_
        refine z_iald (pc := 78) dX0_noteHindered_78 c2 ?_
        refine z_iconst (pc := 79) (v := (nI 1)) dX0_noteHindered_79 (by decide) ?_
        refine z_iload_n (pc := 80) dX0_noteHindered_80 rfl rfl ?_
        refine z_ishl (pc := 81) dX0_noteHindered_81 ?_
        refine z_ior (pc := 82) dX0_noteHindered_82 ?_
        refine z_iast (pc := 83) dX0_noteHindered_83 c2 ?_
        refine z_iinc (pc := 84) (v := (x3 + (nI 1))) (ls' := [some (.inr (some (0, 0, 59))), some (.inr (some (0, 9, o1))), some (.inl x2), some (.inl (x3 + (nI 1))), some (.inl (hA h 61 (x3).toNatClampNeg)), some (.inl ((hI h 60 2) ||| (hI h 60 3)))]) dX0_noteHindered_84 rfl (by rw [show Int32.ofInt (1) = (nI 1) by decide]) rfl ?_
        refine z_goto (pc := 87) (tgt := 2) dX0_noteHindered_87 (by decide) ?_
        exact z_drop (ls' := [some (.inr (some (0, 0, 59))), some (.inr (some (0, 9, o1))), some (.inl x2), some (.inl (x3 + (nI 1))), none, none]) (by simp [dropL]) H
    · replace H := H.2 c3
      refine z_aload_n (pc := 27) dX0_noteHindered_27 rfl rfl ?_
      refine z_getk (pc := 28) dX0_noteHindered_28 fX0_12 rfl (s_59_0 S) ?_
      refine z_geti (pc := 31) dX0_noteHindered_31 fX0_68 rfl ?_
      refine z_aload_n (pc := 34) dX0_noteHindered_34 rfl rfl ?_
      refine z_getk (pc := 35) dX0_noteHindered_35 fX0_12 rfl (s_59_0 S) ?_
      refine z_geti (pc := 38) dX0_noteHindered_38 fX0_71 rfl ?_
      refine z_iand (pc := 41) dX0_noteHindered_41 ?_
      refine z_goto (pc := 42) (tgt := 60) dX0_noteHindered_42 (by decide) ?_
      refine z_istore (pc := 60) (ls' := [some (.inr (some (0, 0, 59))), some (.inr (some (0, 9, o1))), some (.inl x2), some (.inl x3), some (.inl (hA h 61 (x3).toNatClampNeg)), some (.inl ((hI h 60 2) &&& (hI h 60 3)))]) dX0_noteHindered_60 rfl rfl ?_
      refine z_iload (pc := 62) dX0_noteHindered_62 rfl ?_
      refine z_iload (pc := 64) dX0_noteHindered_64 rfl ?_
      refine y_NI (pc := 66) (bc := bc) (bs := bs) (mc := 0) (ms := 0) (As := [.inl ((hI h 60 2) &&& (hI h 60 3)), .inl (hA h 61 (x3).toNatClampNeg)]) (rest := []) dX0_noteHindered_66 kX11_isIn lX0_61 rfl rfl (H.use (fun v6 h6 H => ?_))
      have S6 := H.1
      replace H := H.2
      refine z_if_ne (pc := 69) (tgt := 84) dX0_noteHindered_69 (by decide) (fun c7 => ?_) (fun c7 => ?_)
      · replace H := H.1 c7
        refine z_iinc (pc := 84) (v := (x3 + (nI 1))) (ls' := [some (.inr (some (0, 0, 59))), some (.inr (some (0, 9, o1))), some (.inl x2), some (.inl (x3 + (nI 1))), some (.inl (hA h 61 (x3).toNatClampNeg)), some (.inl ((hI h 60 2) &&& (hI h 60 3)))]) dX0_noteHindered_84 rfl (by rw [show Int32.ofInt (1) = (nI 1) by decide]) rfl ?_
        refine z_goto (pc := 87) (tgt := 2) dX0_noteHindered_87 (by decide) ?_
        exact z_drop (ls' := [some (.inr (some (0, 0, 59))), some (.inr (some (0, 9, o1))), some (.inl x2), some (.inl (x3 + (nI 1))), none, none]) (by simp [dropL]) H
      · replace H := H.2 c7
        refine z_aload_n (pc := 72) dX0_noteHindered_72 rfl rfl ?_
        refine z_getk (pc := 73) dX0_noteHindered_73 fX0_22 rfl (s_59_2 S6) ?_
        refine z_iload_n (pc := 76) dX0_noteHindered_76 rfl rfl ?_
        refine z_dup2 (pc := 77) dX0_noteHindered_77 ?_
        refine z_iald (pc := 78) dX0_noteHindered_78 c2 ?_
        refine z_iconst (pc := 79) (v := (nI 1)) dX0_noteHindered_79 (by decide) ?_
        refine z_iload_n (pc := 80) dX0_noteHindered_80 rfl rfl ?_
        refine z_ishl (pc := 81) dX0_noteHindered_81 ?_
        refine z_ior (pc := 82) dX0_noteHindered_82 ?_
        refine z_iast (pc := 83) dX0_noteHindered_83 c2 ?_
        refine z_iinc (pc := 84) (v := (x3 + (nI 1))) (ls' := [some (.inr (some (0, 0, 59))), some (.inr (some (0, 9, o1))), some (.inl x2), some (.inl (x3 + (nI 1))), some (.inl (hA h 61 (x3).toNatClampNeg)), some (.inl ((hI h 60 2) &&& (hI h 60 3)))]) dX0_noteHindered_84 rfl (by rw [show Int32.ofInt (1) = (nI 1) by decide]) rfl ?_
        refine z_goto (pc := 87) (tgt := 2) dX0_noteHindered_87 (by decide) ?_
        exact z_drop (ls' := [some (.inr (some (0, 0, 59))), some (.inr (some (0, 9, o1))), some (.inl x2), some (.inl (x3 + (nI 1))), none, none]) (by simp [dropL]) H

abbrev LX0_hinderedBy_4 (l : Launch) (E : eE) (d bc bs : Nat) (x1 : Int32) (x2 : Int32) (x3 : Int32) (h : aH) (Q : Int32 → aH → Prop) : Prop := TI l E mX0_hinderedBy d bc bs 4 [some (.inr (some (0, 0, 59))), some (.inl x1), some (.inl x2), some (.inl x3)] [] h Q

set_option maxRecDepth 20000 in
theorem bX0_hinderedBy_0 {l : Launch} {E : eE} {d bc bs : Nat} {h : aH} {Q : Int32 → aH → Prop} {x1 : Int32} (S : SH h) (H : LX0_hinderedBy_4 l E (d + 1) bc bs x1 (nI 0) (nI 0) h Q) : CI l E (d + 1) bc bs mX0_hinderedBy [.inr (some (0, 0, 59)), .inl x1] h Q := by
  refine CI.of (by decide) rfl ?_
  show TI l E mX0_hinderedBy (d + 1) bc bs 0 [some (.inr (some (0, 0, 59))), some (.inl x1), none, none] [] h Q
  refine z_iconst (pc := 0) (v := (nI 0)) dX0_hinderedBy_0 (by decide) ?_
  refine z_istore_n (pc := 1) (ls' := [some (.inr (some (0, 0, 59))), some (.inl x1), some (.inl (nI 0)), none]) dX0_hinderedBy_1 rfl rfl rfl ?_
  refine z_iconst (pc := 2) (v := (nI 0)) dX0_hinderedBy_2 (by decide) ?_
  refine z_istore_n (pc := 3) (ls' := [some (.inr (some (0, 0, 59))), some (.inl x1), some (.inl (nI 0)), some (.inl (nI 0))]) dX0_hinderedBy_3 rfl rfl rfl ?_
  exact H

set_option maxRecDepth 20000 in
theorem bX0_hinderedBy_4 {l : Launch} {E : eE} {d bc bs : Nat} {h : aH} {Q : Int32 → aH → Prop} {x1 : Int32} {x2 : Int32} {x3 : Int32} (S : SH h) (H : (((hI h 59 3) ≤ x3 → Q x2 h) ∧ (¬ (hI h 59 3) ≤ x3 → (CI l E d 0 0 mX11_isIn [.inl x1, .inl (((hI h 59 3) - (nI 1)) - x3)] h (fun v2 h2 => SH h2 ∧ ((v2 = 0 → LX0_hinderedBy_4 l E (d + 1) bc bs x1 x2 (x3 + (nI 1)) h2 Q) ∧ (¬ v2 = 0 → (vp_in x3 12 ∧ LX0_hinderedBy_4 l E (d + 1) bc bs x1 (x2 ||| (hA h2 62 (x3).toNatClampNeg)) (x3 + (nI 1)) h2 Q)))))))) : LX0_hinderedBy_4 l E (d + 1) bc bs x1 x2 x3 h Q := by
  refine z_iload_n (pc := 4) dX0_hinderedBy_4 rfl rfl ?_
  refine z_aload_n (pc := 5) dX0_hinderedBy_5 rfl rfl ?_
  refine z_geti (pc := 6) dX0_hinderedBy_6 fX0_57 rfl ?_
  refine z_icmp_ge (pc := 9) (tgt := 42) dX0_hinderedBy_9 (by decide) (fun c1 => ?_) (fun c1 => ?_)
  · replace H := H.1 c1
    refine z_iload_n (pc := 42) dX0_hinderedBy_42 rfl rfl ?_
    exact z_iret (pc := 43) dX0_hinderedBy_43 rfl rfl ⟨_, rfl, H⟩
  · replace H := H.2 c1
    refine z_iload_n (pc := 12) dX0_hinderedBy_12 rfl rfl ?_
    refine z_aload_n (pc := 13) dX0_hinderedBy_13 rfl rfl ?_
    refine z_geti (pc := 14) dX0_hinderedBy_14 fX0_57 rfl ?_
    refine z_iconst (pc := 17) (v := (nI 1)) dX0_hinderedBy_17 (by decide) ?_
    refine z_isub (pc := 18) dX0_hinderedBy_18 ?_
    refine z_iload_n (pc := 19) dX0_hinderedBy_19 rfl rfl ?_
    refine z_isub (pc := 20) dX0_hinderedBy_20 ?_
    refine y_NI (pc := 21) (bc := bc) (bs := bs) (mc := 0) (ms := 0) (As := [.inl x1, .inl (((hI h 59 3) - (nI 1)) - x3)]) (rest := []) dX0_hinderedBy_21 kX11_isIn lX0_61 rfl rfl (H.use (fun v2 h2 H => ?_))
    have S2 := H.1
    replace H := H.2
    refine z_if_eq (pc := 24) (tgt := 36) dX0_hinderedBy_24 (by decide) (fun c3 => ?_) (fun c3 => ?_)
    · replace H := H.1 c3
      refine z_iinc (pc := 36) (v := (x3 + (nI 1))) (ls' := [some (.inr (some (0, 0, 59))), some (.inl x1), some (.inl x2), some (.inl (x3 + (nI 1)))]) dX0_hinderedBy_36 rfl (by rw [show Int32.ofInt (1) = (nI 1) by decide]) rfl ?_
      refine z_goto (pc := 39) (tgt := 4) dX0_hinderedBy_39 (by decide) ?_
      exact H
    · replace H := H.2 c3
      refine z_iload_n (pc := 27) dX0_hinderedBy_27 rfl rfl ?_
      refine z_aload_n (pc := 28) dX0_hinderedBy_28 rfl rfl ?_
      refine z_getk (pc := 29) dX0_hinderedBy_29 fX0_22 rfl (s_59_2 S2) ?_
      refine z_iload_n (pc := 32) dX0_hinderedBy_32 rfl rfl ?_
      have c4 := H.1
      replace H := H.2
      refine z_iald (pc := 33) dX0_hinderedBy_33 c4 ?_
      refine z_ior (pc := 34) dX0_hinderedBy_34 ?_
      refine z_istore_n (pc := 35) (ls' := [some (.inr (some (0, 0, 59))), some (.inl x1), some (.inl (x2 ||| (hA h2 62 (x3).toNatClampNeg))), some (.inl x3)]) dX0_hinderedBy_35 rfl rfl rfl ?_
      refine z_iinc (pc := 36) (v := (x3 + (nI 1))) (ls' := [some (.inr (some (0, 0, 59))), some (.inl x1), some (.inl (x2 ||| (hA h2 62 (x3).toNatClampNeg))), some (.inl (x3 + (nI 1)))]) dX0_hinderedBy_36 rfl (by rw [show Int32.ofInt (1) = (nI 1) by decide]) rfl ?_
      refine z_goto (pc := 39) (tgt := 4) dX0_hinderedBy_39 (by decide) ?_
      exact H

abbrev LX0_personsOf_4 (l : Launch) (E : eE) (d bc bs : Nat) (x1 : Int32) (x2 : Int32) (x3 : Int32) (h : aH) (Q : Int32 → aH → Prop) : Prop := TI l E mX0_personsOf d bc bs 4 [some (.inr (some (0, 0, 59))), some (.inl x1), some (.inl x2), some (.inl x3)] [] h Q

set_option maxRecDepth 20000 in
theorem bX0_personsOf_0 {l : Launch} {E : eE} {d bc bs : Nat} {h : aH} {Q : Int32 → aH → Prop} {x1 : Int32} (S : SH h) (H : LX0_personsOf_4 l E (d + 1) bc bs x1 (nI 0) (nI 0) h Q) : CI l E (d + 1) bc bs mX0_personsOf [.inr (some (0, 0, 59)), .inl x1] h Q := by
  refine CI.of (by decide) rfl ?_
  show TI l E mX0_personsOf (d + 1) bc bs 0 [some (.inr (some (0, 0, 59))), some (.inl x1), none, none] [] h Q
  refine z_iconst (pc := 0) (v := (nI 0)) dX0_personsOf_0 (by decide) ?_
  refine z_istore_n (pc := 1) (ls' := [some (.inr (some (0, 0, 59))), some (.inl x1), some (.inl (nI 0)), none]) dX0_personsOf_1 rfl rfl rfl ?_
  refine z_iconst (pc := 2) (v := (nI 0)) dX0_personsOf_2 (by decide) ?_
  refine z_istore_n (pc := 3) (ls' := [some (.inr (some (0, 0, 59))), some (.inl x1), some (.inl (nI 0)), some (.inl (nI 0))]) dX0_personsOf_3 rfl rfl rfl ?_
  exact H

set_option maxRecDepth 20000 in
theorem bX0_personsOf_4 {l : Launch} {E : eE} {d bc bs : Nat} {h : aH} {Q : Int32 → aH → Prop} {x1 : Int32} {x2 : Int32} {x3 : Int32} (S : SH h) (H : (((hI h 59 3) ≤ x3 → Q x2 h) ∧ (¬ (hI h 59 3) ≤ x3 → (CI l E d 0 0 mX11_isIn [.inl x1, .inl (((hI h 59 3) - (nI 1)) - x3)] h (fun v2 h2 => SH h2 ∧ ((v2 = 0 → LX0_personsOf_4 l E (d + 1) bc bs x1 x2 (x3 + (nI 1)) h2 Q) ∧ (¬ v2 = 0 → (vp_in x3 12 ∧ LX0_personsOf_4 l E (d + 1) bc bs x1 (x2 ||| ((nI 1) <<< ((hA h2 61 (x3).toNatClampNeg) &&& 31))) (x3 + (nI 1)) h2 Q)))))))) : LX0_personsOf_4 l E (d + 1) bc bs x1 x2 x3 h Q := by
  refine z_iload_n (pc := 4) dX0_personsOf_4 rfl rfl ?_
  refine z_aload_n (pc := 5) dX0_personsOf_5 rfl rfl ?_
  refine z_geti (pc := 6) dX0_personsOf_6 fX0_57 rfl ?_
  refine z_icmp_ge (pc := 9) (tgt := 44) dX0_personsOf_9 (by decide) (fun c1 => ?_) (fun c1 => ?_)
  · replace H := H.1 c1
    refine z_iload_n (pc := 44) dX0_personsOf_44 rfl rfl ?_
    exact z_iret (pc := 45) dX0_personsOf_45 rfl rfl ⟨_, rfl, H⟩
  · replace H := H.2 c1
    refine z_iload_n (pc := 12) dX0_personsOf_12 rfl rfl ?_
    refine z_aload_n (pc := 13) dX0_personsOf_13 rfl rfl ?_
    refine z_geti (pc := 14) dX0_personsOf_14 fX0_57 rfl ?_
    refine z_iconst (pc := 17) (v := (nI 1)) dX0_personsOf_17 (by decide) ?_
    refine z_isub (pc := 18) dX0_personsOf_18 ?_
    refine z_iload_n (pc := 19) dX0_personsOf_19 rfl rfl ?_
    refine z_isub (pc := 20) dX0_personsOf_20 ?_
    refine y_NI (pc := 21) (bc := bc) (bs := bs) (mc := 0) (ms := 0) (As := [.inl x1, .inl (((hI h 59 3) - (nI 1)) - x3)]) (rest := []) dX0_personsOf_21 kX11_isIn lX0_61 rfl rfl (H.use (fun v2 h2 H => ?_))
    have S2 := H.1
    replace H := H.2
    refine z_if_eq (pc := 24) (tgt := 38) dX0_personsOf_24 (by decide) (fun c3 => ?_) (fun c3 => ?_)
    · replace H := H.1 c3
      refine z_iinc (pc := 38) (v := (x3 + (nI 1))) (ls' := [some (.inr (some (0, 0, 59))), some (.inl x1), some (.inl x2), some (.inl (x3 + (nI 1)))]) dX0_personsOf_38 rfl (by rw [show Int32.ofInt (1) = (nI 1) by decide]) rfl ?_
      refine z_goto (pc := 41) (tgt := 4) dX0_personsOf_41 (by decide) ?_
      exact H
    · replace H := H.2 c3
      refine z_iload_n (pc := 27) dX0_personsOf_27 rfl rfl ?_
      refine z_iconst (pc := 28) (v := (nI 1)) dX0_personsOf_28 (by decide) ?_
      refine z_aload_n (pc := 29) dX0_personsOf_29 rfl rfl ?_
      refine z_getk (pc := 30) dX0_personsOf_30 fX0_18 rfl (s_59_1 S2) ?_
      refine z_iload_n (pc := 33) dX0_personsOf_33 rfl rfl ?_
      have c4 := H.1
      replace H := H.2
      refine z_iald (pc := 34) dX0_personsOf_34 c4 ?_
      refine z_ishl (pc := 35) dX0_personsOf_35 ?_
      refine z_ior (pc := 36) dX0_personsOf_36 ?_
      refine z_istore_n (pc := 37) (ls' := [some (.inr (some (0, 0, 59))), some (.inl x1), some (.inl (x2 ||| ((nI 1) <<< ((hA h2 61 (x3).toNatClampNeg) &&& 31)))), some (.inl x3)]) dX0_personsOf_37 rfl rfl rfl ?_
      refine z_iinc (pc := 38) (v := (x3 + (nI 1))) (ls' := [some (.inr (some (0, 0, 59))), some (.inl x1), some (.inl (x2 ||| ((nI 1) <<< ((hA h2 61 (x3).toNatClampNeg) &&& 31)))), some (.inl (x3 + (nI 1)))]) dX0_personsOf_38 rfl (by rw [show Int32.ofInt (1) = (nI 1) by decide]) rfl ?_
      refine z_goto (pc := 41) (tgt := 4) dX0_personsOf_41 (by decide) ?_
      exact H

abbrev LX0_leastSet_24 (l : Launch) (E : eE) (d bc bs : Nat) (x1 : Int32) (x2 : Int32) (x3 : Int32) (h : aH) (Q : Int32 → aH → Prop) : Prop := TI l E mX0_leastSet d bc bs 24 [some (.inr (some (0, 0, 59))), some (.inl x1), some (.inl x2), some (.inl x3)] [] h Q

set_option maxRecDepth 20000 in
theorem bX0_leastSet_0 {l : Launch} {E : eE} {d bc bs : Nat} {h : aH} {Q : Int32 → aH → Prop} {x1 : Int32} (S : SH h) (H : (CI l E d 0 0 mX0_hinderedBy [.inr (some (0, 0, 59)), .inl (((nI 1) <<< ((hI h 59 3) &&& 31)) - (nI 1))] h (fun v1 h1 => SH h1 ∧ ((v1 = x1 → LX0_leastSet_24 l E (d + 1) bc bs x1 (((nI 1) <<< ((hI h 59 3) &&& 31)) - (nI 1)) ((((nI 1) <<< ((hI h 59 3) &&& 31)) - (nI 1)) - (nI 1)) h1 Q) ∧ (¬ v1 = x1 → Q (nI 0) h1))))) : CI l E (d + 1) bc bs mX0_leastSet [.inr (some (0, 0, 59)), .inl x1] h Q := by
  refine CI.of (by decide) rfl ?_
  show TI l E mX0_leastSet (d + 1) bc bs 0 [some (.inr (some (0, 0, 59))), some (.inl x1), none, none] [] h Q
  refine z_iconst (pc := 0) (v := (nI 1)) dX0_leastSet_0 (by decide) ?_
  refine z_aload_n (pc := 1) dX0_leastSet_1 rfl rfl ?_
  refine z_geti (pc := 2) dX0_leastSet_2 fX0_57 rfl ?_
  refine z_ishl (pc := 5) dX0_leastSet_5 ?_
  refine z_iconst (pc := 6) (v := (nI 1)) dX0_leastSet_6 (by decide) ?_
  refine z_isub (pc := 7) dX0_leastSet_7 ?_
  refine z_istore_n (pc := 8) (ls' := [some (.inr (some (0, 0, 59))), some (.inl x1), some (.inl (((nI 1) <<< ((hI h 59 3) &&& 31)) - (nI 1))), none]) dX0_leastSet_8 rfl rfl rfl ?_
  refine z_aload_n (pc := 9) dX0_leastSet_9 rfl rfl ?_
  refine z_iload_n (pc := 10) dX0_leastSet_10 rfl rfl ?_
  refine y_VI (pc := 11) (bc := bc) (bs := bs) (mc := 0) (ms := 0) (As := [.inl (((nI 1) <<< ((hI h 59 3) &&& 31)) - (nI 1))]) (rest := []) dX0_leastSet_11 kX0_hinderedBy lX0_74 ⟨_, _, rfl⟩ rfl rfl (H.use (fun v1 h1 H => ?_))
  have S1 := H.1
  replace H := H.2
  refine z_iload_n (pc := 14) dX0_leastSet_14 rfl rfl ?_
  refine z_icmp_eq (pc := 15) (tgt := 20) dX0_leastSet_15 (by decide) (fun c2 => ?_) (fun c2 => ?_)
  · replace H := H.1 c2
    refine z_iload_n (pc := 20) dX0_leastSet_20 rfl rfl ?_
    refine z_iconst (pc := 21) (v := (nI 1)) dX0_leastSet_21 (by decide) ?_
    refine z_isub (pc := 22) dX0_leastSet_22 ?_
    refine z_istore_n (pc := 23) (ls' := [some (.inr (some (0, 0, 59))), some (.inl x1), some (.inl (((nI 1) <<< ((hI h 59 3) &&& 31)) - (nI 1))), some (.inl ((((nI 1) <<< ((hI h 59 3) &&& 31)) - (nI 1)) - (nI 1)))]) dX0_leastSet_23 rfl rfl rfl ?_
    exact H
  · replace H := H.2 c2
    refine z_iconst (pc := 18) (v := (nI 0)) dX0_leastSet_18 (by decide) ?_
    exact z_iret (pc := 19) dX0_leastSet_19 rfl rfl ⟨_, rfl, H⟩

set_option maxRecDepth 20000 in
theorem bX0_leastSet_24 {l : Launch} {E : eE} {d bc bs : Nat} {h : aH} {Q : Int32 → aH → Prop} {x1 : Int32} {x2 : Int32} {x3 : Int32} (S : SH h) (H : ((x3 < 0 → (CI l E d 0 0 mX0_personsOf [.inr (some (0, 0, 59)), .inl x2] h (fun v2 h2 => SH h2 ∧ Q v2 h2))) ∧ (¬ x3 < 0 → (CI l E d 0 0 mJ6_bitCount_0f7a4 [.inl x3] h (fun v3 h3 => SH h3 ∧ (CI l E d 0 0 mJ6_bitCount_0f7a4 [.inl x2] h3 (fun v4 h4 => SH h4 ∧ ((v4 ≤ v3 → LX0_leastSet_24 l E (d + 1) bc bs x1 x2 (x3 + (-1)) h4 Q) ∧ (¬ v4 ≤ v3 → (CI l E d 0 0 mX0_hinderedBy [.inr (some (0, 0, 59)), .inl x3] h4 (fun v6 h6 => SH h6 ∧ ((¬ v6 = x1 → LX0_leastSet_24 l E (d + 1) bc bs x1 x2 (x3 + (-1)) h6 Q) ∧ (v6 = x1 → LX0_leastSet_24 l E (d + 1) bc bs x1 x3 (x3 + (-1)) h6 Q))))))))))))) : LX0_leastSet_24 l E (d + 1) bc bs x1 x2 x3 h Q := by
  refine z_iload_n (pc := 24) dX0_leastSet_24 rfl rfl ?_
  refine z_if_lt (pc := 25) (tgt := 56) dX0_leastSet_25 (by decide) (fun c1 => ?_) (fun c1 => ?_)
  · replace H := H.1 c1
    refine z_aload_n (pc := 56) dX0_leastSet_56 rfl rfl ?_
    refine z_iload_n (pc := 57) dX0_leastSet_57 rfl rfl ?_
    refine y_VI (pc := 58) (bc := bc) (bs := bs) (mc := 0) (ms := 0) (As := [.inl x2]) (rest := []) dX0_leastSet_58 kX0_personsOf lX0_82 ⟨_, _, rfl⟩ rfl rfl (H.use (fun v2 h2 H => ?_))
    have S2 := H.1
    replace H := H.2
    exact z_iret (pc := 61) dX0_leastSet_61 rfl rfl ⟨_, rfl, H⟩
  · replace H := H.2 c1
    refine z_iload_n (pc := 28) dX0_leastSet_28 rfl rfl ?_
    refine y_SI (pc := 29) (bc := bc) (bs := bs) (mc := 0) (ms := 0) (As := [.inl x3]) (rest := []) dX0_leastSet_29 kJ6_bitCount_0f7a4 lX0_77 rfl rfl (H.use (fun v3 h3 H => ?_))
    have S3 := H.1
    replace H := H.2
    refine z_iload_n (pc := 32) dX0_leastSet_32 rfl rfl ?_
    refine y_SI (pc := 33) (bc := bc) (bs := bs) (mc := 0) (ms := 0) (As := [.inl x2]) (rest := [.inl v3]) dX0_leastSet_33 kJ6_bitCount_0f7a4 lX0_77 rfl rfl (H.use (fun v4 h4 H => ?_))
    have S4 := H.1
    replace H := H.2
    refine z_icmp_ge (pc := 36) (tgt := 50) dX0_leastSet_36 (by decide) (fun c5 => ?_) (fun c5 => ?_)
    · replace H := H.1 c5
      refine z_iinc (pc := 50) (v := (x3 + (-1))) (ls' := [some (.inr (some (0, 0, 59))), some (.inl x1), some (.inl x2), some (.inl (x3 + (-1)))]) dX0_leastSet_50 rfl (by rw [show Int32.ofInt (-1) = (-1) by decide]) rfl ?_
      refine z_goto (pc := 53) (tgt := 24) dX0_leastSet_53 (by decide) ?_
      exact H
    · replace H := H.2 c5
      refine z_aload_n (pc := 39) dX0_leastSet_39 rfl rfl ?_
      refine z_iload_n (pc := 40) dX0_leastSet_40 rfl rfl ?_
      refine y_VI (pc := 41) (bc := bc) (bs := bs) (mc := 0) (ms := 0) (As := [.inl x3]) (rest := []) dX0_leastSet_41 kX0_hinderedBy lX0_74 ⟨_, _, rfl⟩ rfl rfl (H.use (fun v6 h6 H => ?_))
      have S6 := H.1
      replace H := H.2
      refine z_iload_n (pc := 44) dX0_leastSet_44 rfl rfl ?_
      refine z_icmp_ne (pc := 45) (tgt := 50) dX0_leastSet_45 (by decide) (fun c7 => ?_) (fun c7 => ?_)
      · replace H := H.1 c7
        refine z_iinc (pc := 50) (v := (x3 + (-1))) (ls' := [some (.inr (some (0, 0, 59))), some (.inl x1), some (.inl x2), some (.inl (x3 + (-1)))]) dX0_leastSet_50 rfl (by rw [show Int32.ofInt (-1) = (-1) by decide]) rfl ?_
        refine z_goto (pc := 53) (tgt := 24) dX0_leastSet_53 (by decide) ?_
        exact H
      · replace H := H.2 c7
        refine z_iload_n (pc := 48) dX0_leastSet_48 rfl rfl ?_
        refine z_istore_n (pc := 49) (ls' := [some (.inr (some (0, 0, 59))), some (.inl x1), some (.inl x3), some (.inl x3)]) dX0_leastSet_49 rfl rfl rfl ?_
        refine z_iinc (pc := 50) (v := (x3 + (-1))) (ls' := [some (.inr (some (0, 0, 59))), some (.inl x1), some (.inl x3), some (.inl (x3 + (-1)))]) dX0_leastSet_50 rfl (by rw [show Int32.ofInt (-1) = (-1) by decide]) rfl ?_
        refine z_goto (pc := 53) (tgt := 24) dX0_leastSet_53 (by decide) ?_
        exact H

abbrev LX0_find_11 (l : Launch) (E : eE) (d bc bs : Nat) (o1 : Nat) (o2 : Nat) (o3 : Nat) (x4 : Int32) (x5 : Int32) (h : aH) (Q : Int32 → aH → Prop) : Prop := TI l E mX0_find d bc bs 11 [some (.inr (some (0, 0, 59))), some (.inr (some (0, 9, o1))), some (.inr (some (0, 10, o2))), some (.inr (some (0, 1, o3))), some (.inl x4), some (.inl x5)] [] h Q

set_option maxRecDepth 20000 in
theorem bX0_find_0 {l : Launch} {E : eE} {d bc bs : Nat} {h : aH} {Q : Int32 → aH → Prop} {o1 : Nat} {o2 : Nat} {o3 : Nat} (S : SH h) (g2 : isSh o2) (g3 : isBd o3) (H : (CV l E d 0 0 mX0_listSuspects [.inr (some (0, 0, 59)), .inr (some (0, 9, o1))] h (fun h1 => SH h1 ∧ LX0_find_11 l E (d + 1) bc bs o1 o2 o3 (nI 0) (nI 0) h1 Q))) : CI l E (d + 1) bc bs mX0_find [.inr (some (0, 0, 59)), .inr (some (0, 9, o1)), .inr (some (0, 10, o2)), .inr (some (0, 1, o3))] h Q := by
  refine CI.of (by decide) rfl ?_
  show TI l E mX0_find (d + 1) bc bs 0 [some (.inr (some (0, 0, 59))), some (.inr (some (0, 9, o1))), some (.inr (some (0, 10, o2))), some (.inr (some (0, 1, o3))), none, none] [] h Q
  refine z_iconst (pc := 0) (v := (nI 0)) dX0_find_0 (by decide) ?_
  refine z_istore (pc := 1) (ls' := [some (.inr (some (0, 0, 59))), some (.inr (some (0, 9, o1))), some (.inr (some (0, 10, o2))), some (.inr (some (0, 1, o3))), some (.inl (nI 0)), none]) dX0_find_1 rfl rfl ?_
  refine z_aload_n (pc := 3) dX0_find_3 rfl rfl ?_
  refine z_aload_n (pc := 4) dX0_find_4 rfl rfl ?_
  refine y_VV (pc := 5) (bc := bc) (bs := bs) (mc := 0) (ms := 0) (As := [.inr (some (0, 9, o1))]) (rest := []) dX0_find_5 kX0_listSuspects lX0_25 ⟨_, _, rfl⟩ rfl rfl (H.use (fun h1 H => ?_))
  have S1 := H.1
  replace H := H.2
  refine z_iconst (pc := 8) (v := (nI 0)) dX0_find_8 (by decide) ?_
  refine z_istore (pc := 9) (ls' := [some (.inr (some (0, 0, 59))), some (.inr (some (0, 9, o1))), some (.inr (some (0, 10, o2))), some (.inr (some (0, 1, o3))), some (.inl (nI 0)), some (.inl (nI 0))]) dX0_find_9 rfl rfl ?_
  exact H

set_option maxRecDepth 20000 in
theorem bX0_find_11 {l : Launch} {E : eE} {d bc bs : Nat} {h : aH} {Q : Int32 → aH → Prop} {o1 : Nat} {o2 : Nat} {o3 : Nat} {x4 : Int32} {x5 : Int32} (S : SH h) (g2 : isSh o2) (g3 : isBd o3) (H : (CI l E d 0 0 mX9_choices [.inr (some (0, 9, o1))] h (fun v1 h1 => SH h1 ∧ ((v1 ≤ x5 → (CI l E d 0 0 mX0_leastSet [.inr (some (0, 0, 59)), .inl x4] h1 (fun v3 h3 => SH h3 ∧ Q v3 h3))) ∧ (¬ v1 ≤ x5 → (CI l E d 0 0 mX8_stands [.inr (some (0, 9, o1)), .inr (some (0, 10, o2)), .inl x5] h1 (fun v4 h4 => SH h4 ∧ ((v4 = 0 → LX0_find_11 l E (d + 1) bc bs o1 o2 o3 x4 (x5 + (nI 1)) h4 Q) ∧ (¬ v4 = 0 → (CV l E d 0 0 mX8_seat [.inr (some (0, 8, 60)), .inr (some (0, 9, o1)), .inr (some (0, 10, o2)), .inr (some (0, 1, o3)), .inl x5] h4 (fun h6 => SH h6 ∧ (CV l E d 0 0 mX0_noteHindered [.inr (some (0, 0, 59)), .inr (some (0, 9, o1)), .inl x5] h6 (fun h7 => SH h7 ∧ LX0_find_11 l E (d + 1) bc bs o1 o2 o3 (x4 ||| ((nI 1) <<< (x5 &&& 31))) (x5 + (nI 1)) h7 Q))))))))))))) : LX0_find_11 l E (d + 1) bc bs o1 o2 o3 x4 x5 h Q := by
  refine z_iload (pc := 11) dX0_find_11 rfl ?_
  refine z_aload_n (pc := 13) dX0_find_13 rfl rfl ?_
  refine y_VI (pc := 14) (bc := bc) (bs := bs) (mc := 0) (ms := 0) (As := []) (rest := [.inl x5]) dX0_find_14 kX9_choices lX0_29 ⟨_, _, rfl⟩ rfl rfl (H.use (fun v1 h1 H => ?_))
  have S1 := H.1
  replace H := H.2
  refine z_icmp_ge (pc := 17) (tgt := 64) dX0_find_17 (by decide) (fun c2 => ?_) (fun c2 => ?_)
  · replace H := H.1 c2
    refine z_aload_n (pc := 64) dX0_find_64 rfl rfl ?_
    refine z_iload (pc := 65) dX0_find_65 rfl ?_
    refine y_VI (pc := 67) (bc := bc) (bs := bs) (mc := 0) (ms := 0) (As := [.inl x4]) (rest := []) dX0_find_67 kX0_leastSet lX0_47 ⟨_, _, rfl⟩ rfl rfl (H.use (fun v3 h3 H => ?_))
    have S3 := H.1
    replace H := H.2
    exact z_iret (pc := 70) dX0_find_70 rfl rfl ⟨_, rfl, H⟩
  · replace H := H.2 c2
    refine z_aload_n (pc := 20) dX0_find_20 rfl rfl ?_
    refine z_aload_n (pc := 21) dX0_find_21 rfl rfl ?_
    refine z_iload (pc := 22) dX0_find_22 rfl ?_
    refine y_SI (pc := 24) (bc := bc) (bs := bs) (mc := 0) (ms := 0) (As := [.inr (some (0, 9, o1)), .inr (some (0, 10, o2)), .inl x5]) (rest := []) dX0_find_24 kX8_stands lX0_35 rfl rfl (H.use (fun v4 h4 H => ?_))
    have S4 := H.1
    replace H := H.2
    refine z_if_eq (pc := 27) (tgt := 58) dX0_find_27 (by decide) (fun c5 => ?_) (fun c5 => ?_)
    · replace H := H.1 c5
      refine z_iinc (pc := 58) (v := (x5 + (nI 1))) (ls' := [some (.inr (some (0, 0, 59))), some (.inr (some (0, 9, o1))), some (.inr (some (0, 10, o2))), some (.inr (some (0, 1, o3))), some (.inl x4), some (.inl (x5 + (nI 1)))]) dX0_find_58 rfl (by rw [show Int32.ofInt (1) = (nI 1) by decide]) rfl ?_
      refine z_goto (pc := 61) (tgt := 11) dX0_find_61 (by decide) ?_
      exact H
    · replace H := H.2 c5
      refine z_iload (pc := 30) dX0_find_30 rfl ?_
      refine z_iconst (pc := 32) (v := (nI 1)) dX0_find_32 (by decide) ?_
      refine z_iload (pc := 33) dX0_find_33 rfl ?_
      refine z_ishl (pc := 35) dX0_find_35 ?_
      refine z_ior (pc := 36) dX0_find_36 ?_
      refine z_istore (pc := 37) (ls' := [some (.inr (some (0, 0, 59))), some (.inr (some (0, 9, o1))), some (.inr (some (0, 10, o2))), some (.inr (some (0, 1, o3))), some (.inl (x4 ||| ((nI 1) <<< (x5 &&& 31)))), some (.inl x5)]) dX0_find_37 rfl rfl ?_
      refine z_aload_n (pc := 39) dX0_find_39 rfl rfl ?_
      refine z_getk (pc := 40) dX0_find_40 fX0_12 rfl (s_59_0 S4) ?_
      refine z_aload_n (pc := 43) dX0_find_43 rfl rfl ?_
      refine z_aload_n (pc := 44) dX0_find_44 rfl rfl ?_
      refine z_aload_n (pc := 45) dX0_find_45 rfl rfl ?_
      refine z_iload (pc := 46) dX0_find_46 rfl ?_
      refine y_VV (pc := 48) (bc := bc) (bs := bs) (mc := 0) (ms := 0) (As := [.inr (some (0, 9, o1)), .inr (some (0, 10, o2)), .inr (some (0, 1, o3)), .inl x5]) (rest := []) dX0_find_48 kX8_seat lX0_39 ⟨_, _, rfl⟩ rfl rfl (H.use (fun h6 H => ?_))
      have S6 := H.1
      replace H := H.2
      refine z_aload_n (pc := 51) dX0_find_51 rfl rfl ?_
      refine z_aload_n (pc := 52) dX0_find_52 rfl rfl ?_
      refine z_iload (pc := 53) dX0_find_53 rfl ?_
      refine y_VV (pc := 55) (bc := bc) (bs := bs) (mc := 0) (ms := 0) (As := [.inr (some (0, 9, o1)), .inl x5]) (rest := []) dX0_find_55 kX0_noteHindered lX0_43 ⟨_, _, rfl⟩ rfl rfl (H.use (fun h7 H => ?_))
      have S7 := H.1
      replace H := H.2
      refine z_iinc (pc := 58) (v := (x5 + (nI 1))) (ls' := [some (.inr (some (0, 0, 59))), some (.inr (some (0, 9, o1))), some (.inr (some (0, 10, o2))), some (.inr (some (0, 1, o3))), some (.inl (x4 ||| ((nI 1) <<< (x5 &&& 31)))), some (.inl (x5 + (nI 1)))]) dX0_find_58 rfl (by rw [show Int32.ofInt (1) = (nI 1) by decide]) rfl ?_
      refine z_goto (pc := 61) (tgt := 11) dX0_find_61 (by decide) ?_
      exact H

set_option maxRecDepth 20000 in
theorem bX1_clear_0 {l : Launch} {E : eE} {d bc bs : Nat} {h : aH} {Q : aH → Prop} {o0 : Nat} (S : SH h) (g0 : isBd o0) (H : (CV l E d 0 0 mJ7_fill_53178 [.inr (some (1, 4, (o0 + 4))), .inl (nI 0)] (stI h o0 4 (nI 0)) (fun h1 => SH h1 ∧ Q h1))) : CV l E (d + 1) bc bs mX1_clear [.inr (some (0, 1, o0))] h Q := by
  refine CV.of (by decide) rfl ?_
  show TV l E mX1_clear (d + 1) bc bs 0 [some (.inr (some (0, 1, o0)))] [] h Q
  refine z_aload_n (pc := 0) dX1_clear_0 rfl rfl ?_
  refine z_iconst (pc := 1) (v := (nI 0)) dX1_clear_1 (by decide) ?_
  refine z_puti (pc := 2) dX1_clear_2 fX1_24 (uX1_4 _) rfl rfl rfl ?_
  refine z_aload_n (pc := 5) dX1_clear_5 rfl rfl ?_
  refine z_getk (pc := 6) dX1_clear_6 fX1_21 rfl (sB_3 S g0) ?_
  refine z_iconst (pc := 9) (v := (nI 0)) dX1_clear_9 (by decide) ?_
  refine y_SV (pc := 10) (bc := bc) (bs := bs) (mc := 0) (ms := 0) (As := [.inr (some (1, 4, (o0 + 4))), .inl (nI 0)]) (rest := []) dX1_clear_10 kJ7_fill_53178 lX1_28 rfl rfl (H.use (fun h1 H => ?_))
  have S1 := H.1
  replace H := H.2
  exact z_ret (pc := 13) dX1_clear_13 rfl ⟨rfl, H⟩

set_option maxRecDepth 20000 in
theorem bX1_add_0 {l : Launch} {E : eE} {d bc bs : Nat} {h : aH} {Q : aH → Prop} {o0 : Nat} {o1 : Nat} {x2 : Int32} {x3 : Int32} (S : SH h) (g0 : isBd o0) (H : (vp_in (hI h o1 0) 4 ∧ (CI l E d 0 0 mJ9_max_7cf53 [.inl (hA h (o0 + 4) ((hI h o1 0)).toNatClampNeg), .inl (x2 + (hI h o1 1))] h (fun v2 h2 => SH h2 ∧ (((nI 8) ≤ (hI h2 o0 4) → Q (stA h2 (o0 + 4) ((hI h o1 0)).toNatClampNeg v2)) ∧ (¬ (nI 8) ≤ (hI h2 o0 4) → (vp_in (hI h2 o0 4) 8 ∧ Q (stI (stA (stA (stA (stA h2 (o0 + 4) ((hI h o1 0)).toNatClampNeg v2) (o0 + 1) ((hI h2 o0 4)).toNatClampNeg x2) (o0 + 2) ((hI h2 o0 4)).toNatClampNeg (x2 + (hI h2 o1 1))) (o0 + 3) ((hI h2 o0 4)).toNatClampNeg x3) o0 4 ((hI h2 o0 4) + (nI 1)))))))))) : CV l E (d + 1) bc bs mX1_add [.inr (some (0, 1, o0)), .inr (some (0, 9, o1)), .inl x2, .inl x3] h Q := by
  refine CV.of (by decide) rfl ?_
  show TV l E mX1_add (d + 1) bc bs 0 [some (.inr (some (0, 1, o0))), some (.inr (some (0, 9, o1))), some (.inl x2), some (.inl x3)] [] h Q
  refine z_aload_n (pc := 0) dX1_add_0 rfl rfl ?_
  refine z_getk (pc := 1) dX1_add_1 fX1_21 rfl (sB_3 S g0) ?_
  refine z_aload_n (pc := 4) dX1_add_4 rfl rfl ?_
  refine z_geti (pc := 5) dX1_add_5 fX1_34 rfl ?_
  refine z_aload_n (pc := 8) dX1_add_8 rfl rfl ?_
  refine z_getk (pc := 9) dX1_add_9 fX1_21 rfl (sB_3 S g0) ?_
  refine z_aload_n (pc := 12) dX1_add_12 rfl rfl ?_
  refine z_geti (pc := 13) dX1_add_13 fX1_34 rfl ?_
  have c1 := H.1
  replace H := H.2
  refine z_iald (pc := 16) dX1_add_16 c1 ?_
  refine z_iload_n (pc := 17) dX1_add_17 rfl rfl ?_
  refine z_aload_n (pc := 18) dX1_add_18 rfl rfl ?_
  refine z_geti (pc := 19) dX1_add_19 fX1_62 rfl ?_
  refine z_iadd (pc := 22) dX1_add_22 ?_
  refine y_SI (pc := 23) (bc := bc) (bs := bs) (mc := 0) (ms := 0) (As := [.inl (hA h (o0 + 4) ((hI h o1 0)).toNatClampNeg), .inl (x2 + (hI h o1 1))]) (rest := [.inl (hI h o1 0), .inr (some (1, 4, (o0 + 4)))]) dX1_add_23 kJ9_max_7cf53 lX1_65 rfl rfl (H.use (fun v2 h2 H => ?_))
  have S2 := H.1
  replace H := H.2
  refine z_iast (pc := 26) dX1_add_26 c1 ?_
  refine z_aload_n (pc := 27) dX1_add_27 rfl rfl ?_
  refine z_geti (pc := 28) dX1_add_28 fX1_24 rfl ?_
  refine z_bipush (pc := 31) (v := (nI 8)) dX1_add_31 (by decide) ?_
  refine z_icmp_ge (pc := 33) (tgt := 81) dX1_add_33 (by decide) (fun c3 => ?_) (fun c3 => ?_)
  · replace H := H.1 c3
    exact z_ret (pc := 81) dX1_add_81 rfl ⟨rfl, H⟩
  · replace H := H.2 c3
    refine z_aload_n (pc := 36) dX1_add_36 rfl rfl ?_
    refine z_getk (pc := 37) dX1_add_37 fX1_9 rfl (sB_0 S2 g0) ?_
    refine z_aload_n (pc := 40) dX1_add_40 rfl rfl ?_
    refine z_geti (pc := 41) dX1_add_41 fX1_24 rfl ?_
    refine z_iload_n (pc := 44) dX1_add_44 rfl rfl ?_
    have c4 := H.1
    replace H := H.2
    refine z_iast (pc := 45) dX1_add_45 c4 ?_
    refine z_aload_n (pc := 46) dX1_add_46 rfl rfl ?_
    refine z_getk (pc := 47) dX1_add_47 fX1_15 rfl (sB_1 S2 g0) ?_
    refine z_aload_n (pc := 50) dX1_add_50 rfl rfl ?_
    refine z_geti (pc := 51) dX1_add_51 fX1_24 rfl ?_
    refine z_iload_n (pc := 54) dX1_add_54 rfl rfl ?_
    refine z_aload_n (pc := 55) dX1_add_55 rfl rfl ?_
    refine z_geti (pc := 56) dX1_add_56 fX1_62 rfl ?_
    refine z_iadd (pc := 59) dX1_add_59 ?_
    refine z_iast (pc := 60) dX1_add_60 c4 ?_
    refine z_aload_n (pc := 61) dX1_add_61 rfl rfl ?_
    refine z_getk (pc := 62) dX1_add_62 fX1_18 rfl (sB_2 S2 g0) ?_
    refine z_aload_n (pc := 65) dX1_add_65 rfl rfl ?_
    refine z_geti (pc := 66) dX1_add_66 fX1_24 rfl ?_
    refine z_iload_n (pc := 69) dX1_add_69 rfl rfl ?_
    refine z_iast (pc := 70) dX1_add_70 c4 ?_
    refine z_aload_n (pc := 71) dX1_add_71 rfl rfl ?_
    refine z_dup (pc := 72) dX1_add_72 ?_
    refine z_geti (pc := 73) dX1_add_73 fX1_24 rfl ?_
    refine z_iconst (pc := 76) (v := (nI 1)) dX1_add_76 (by decide) ?_
    refine z_iadd (pc := 77) dX1_add_77 ?_
    refine z_puti (pc := 78) dX1_add_78 fX1_24 (uX1_4 _) rfl rfl rfl ?_
    exact z_ret (pc := 81) dX1_add_81 rfl ⟨rfl, H⟩

set_option maxRecDepth 20000 in
theorem bX1_put_0 {l : Launch} {E : eE} {d bc bs : Nat} {h : aH} {Q : aH → Prop} {o0 : Nat} {o1 : Nat} {o2 : Nat} {o3 : Nat} (S : SH h) (g0 : isBd o0) (g2 : isSh o2) (H : (vp_in (hI h o1 0) 4 ∧ (vp_in (hI h o3 0) 6 ∧ (CV l E d 0 0 mX1_add [.inr (some (0, 1, o0)), .inr (some (0, 9, o1)), .inl (hA (stA h (o0 + 4) ((hI h o1 0)).toNatClampNeg (nI 0)) (o2 + 1) ((hI h o3 0)).toNatClampNeg), .inl (hI h o3 4)] (stA h (o0 + 4) ((hI h o1 0)).toNatClampNeg (nI 0)) (fun h3 => SH h3 ∧ (((hI h3 o3 1) = (-1) → Q h3) ∧ (¬ (hI h3 o3 1) = (-1) → (vp_in (hI h3 o3 1) 6 ∧ (CV l E d 0 0 mX1_add [.inr (some (0, 1, o0)), .inr (some (0, 9, o1)), .inl (hA h3 (o2 + 1) ((hI h3 o3 1)).toNatClampNeg), .inl (hI h3 o3 5)] h3 (fun h6 => SH h6 ∧ Q h6)))))))))) : CV l E (d + 1) bc bs mX1_put [.inr (some (0, 1, o0)), .inr (some (0, 9, o1)), .inr (some (0, 10, o2)), .inr (some (0, 8, o3))] h Q := by
  refine CV.of (by decide) rfl ?_
  show TV l E mX1_put (d + 1) bc bs 0 [some (.inr (some (0, 1, o0))), some (.inr (some (0, 9, o1))), some (.inr (some (0, 10, o2))), some (.inr (some (0, 8, o3)))] [] h Q
  refine z_aload_n (pc := 0) dX1_put_0 rfl rfl ?_
  refine z_getk (pc := 1) dX1_put_1 fX1_21 rfl (sB_3 S g0) ?_
  refine z_aload_n (pc := 4) dX1_put_4 rfl rfl ?_
  refine z_geti (pc := 5) dX1_put_5 fX1_34 rfl ?_
  refine z_iconst (pc := 8) (v := (nI 0)) dX1_put_8 (by decide) ?_
  have c1 := H.1
  replace H := H.2
  refine z_iast (pc := 9) dX1_put_9 c1 ?_
  refine z_aload_n (pc := 10) dX1_put_10 rfl rfl ?_
  refine z_aload_n (pc := 11) dX1_put_11 rfl rfl ?_
  refine z_aload_n (pc := 12) dX1_put_12 rfl rfl ?_
  refine z_getk (pc := 13) dX1_put_13 fX1_39 rfl (sS_0 S g2) ?_
  refine z_aload_n (pc := 16) dX1_put_16 rfl rfl ?_
  refine z_geti (pc := 17) dX1_put_17 fX1_44 rfl ?_
  have c2 := H.1
  replace H := H.2
  refine z_iald (pc := 20) dX1_put_20 c2 ?_
  refine z_aload_n (pc := 21) dX1_put_21 rfl rfl ?_
  refine z_geti (pc := 22) dX1_put_22 fX1_49 rfl ?_
  refine y_VV (pc := 25) (bc := bc) (bs := bs) (mc := 0) (ms := 0) (As := [.inr (some (0, 9, o1)), .inl (hA (stA h (o0 + 4) ((hI h o1 0)).toNatClampNeg (nI 0)) (o2 + 1) ((hI h o3 0)).toNatClampNeg), .inl (hI h o3 4)]) (rest := []) dX1_put_25 kX1_add lX1_52 ⟨_, _, rfl⟩ rfl rfl (H.use (fun h3 H => ?_))
  have S3 := H.1
  replace H := H.2
  refine z_aload_n (pc := 28) dX1_put_28 rfl rfl ?_
  refine z_geti (pc := 29) dX1_put_29 fX1_56 rfl ?_
  refine z_iconst (pc := 32) (v := (-1)) dX1_put_32 (by decide) ?_
  refine z_icmp_eq (pc := 33) (tgt := 54) dX1_put_33 (by decide) (fun c4 => ?_) (fun c4 => ?_)
  · replace H := H.1 c4
    exact z_ret (pc := 54) dX1_put_54 rfl ⟨rfl, H⟩
  · replace H := H.2 c4
    refine z_aload_n (pc := 36) dX1_put_36 rfl rfl ?_
    refine z_aload_n (pc := 37) dX1_put_37 rfl rfl ?_
    refine z_aload_n (pc := 38) dX1_put_38 rfl rfl ?_
    refine z_getk (pc := 39) dX1_put_39 fX1_39 rfl (sS_0 S3 g2) ?_
    refine z_aload_n (pc := 42) dX1_put_42 rfl rfl ?_
    refine z_geti (pc := 43) dX1_put_43 fX1_56 rfl ?_
    have c5 := H.1
    replace H := H.2
    refine z_iald (pc := 46) dX1_put_46 c5 ?_
    refine z_aload_n (pc := 47) dX1_put_47 rfl rfl ?_
    refine z_geti (pc := 48) dX1_put_48 fX1_59 rfl ?_
    refine y_VV (pc := 51) (bc := bc) (bs := bs) (mc := 0) (ms := 0) (As := [.inr (some (0, 9, o1)), .inl (hA h3 (o2 + 1) ((hI h3 o3 1)).toNatClampNeg), .inl (hI h3 o3 5)]) (rest := []) dX1_put_51 kX1_add lX1_52 ⟨_, _, rfl⟩ rfl rfl (H.use (fun h6 H => ?_))
    have S6 := H.1
    replace H := H.2
    exact z_ret (pc := 54) dX1_put_54 rfl ⟨rfl, H⟩

set_option maxRecDepth 20000 in
theorem bX2_begin_0 {l : Launch} {E : eE} {d bc bs : Nat} {h : aH} {Q : aH → Prop} {o0 : Nat} {x1 : Int32} (S : SH h) (g0 : isEv o0) (H : (CI l E d 0 0 mJ9_min_7cf53 [.inl x1, .inl (nI 12)] h (fun v1 h1 => SH h1 ∧ Q (stI (stI h1 o0 2 v1) o0 3 (nI 0))))) : CV l E (d + 1) bc bs mX2_begin [.inr (some (0, 2, o0)), .inl x1] h Q := by
  refine CV.of (by decide) rfl ?_
  show TV l E mX2_begin (d + 1) bc bs 0 [some (.inr (some (0, 2, o0))), some (.inl x1)] [] h Q
  refine z_aload_n (pc := 0) dX2_begin_0 rfl rfl ?_
  refine z_iload_n (pc := 1) dX2_begin_1 rfl rfl ?_
  refine z_bipush (pc := 2) (v := (nI 12)) dX2_begin_2 (by decide) ?_
  refine y_SI (pc := 4) (bc := bc) (bs := bs) (mc := 0) (ms := 0) (As := [.inl x1, .inl (nI 12)]) (rest := [.inr (some (0, 2, o0))]) dX2_begin_4 kJ9_min_7cf53 lX2_18 rfl rfl (H.use (fun v1 h1 H => ?_))
  have S1 := H.1
  replace H := H.2
  refine z_puti (pc := 7) dX2_begin_7 fX2_24 (uX2_2 _) rfl rfl rfl ?_
  refine z_aload_n (pc := 10) dX2_begin_10 rfl rfl ?_
  refine z_iconst (pc := 11) (v := (nI 0)) dX2_begin_11 (by decide) ?_
  refine z_puti (pc := 12) dX2_begin_12 fX2_28 (uX2_3 _) rfl rfl rfl ?_
  exact z_ret (pc := 15) dX2_begin_15 rfl ⟨rfl, H⟩

abbrev LX2_bringGreatest_7 (l : Launch) (E : eE) (d bc bs : Nat) (o0 : Nat) (a1 : Nat) (x2 : Int32) (x3 : Int32) (x4 : Int32) (h : aH) (Q : aH → Prop) : Prop := TV l E mX2_bringGreatest d bc bs 7 [some (.inr (some (0, 2, o0))), some (.inr (some (1, 12, a1))), some (.inl x2), some (.inl x3), some (.inl x4)] [] h Q

set_option maxRecDepth 20000 in
theorem bX2_bringGreatest_0 {l : Launch} {E : eE} {d bc bs : Nat} {h : aH} {Q : aH → Prop} {o0 : Nat} {a1 : Nat} {x2 : Int32} (S : SH h) (g0 : isEv o0) (H : LX2_bringGreatest_7 l E d bc bs o0 a1 x2 x2 (x2 + (nI 1)) h Q) : CV l E d bc bs mX2_bringGreatest [.inr (some (0, 2, o0)), .inr (some (1, 12, a1)), .inl x2] h Q := by
  refine CV.of (by decide) rfl ?_
  show TV l E mX2_bringGreatest d bc bs 0 [some (.inr (some (0, 2, o0))), some (.inr (some (1, 12, a1))), some (.inl x2), none, none] [] h Q
  refine z_iload_n (pc := 0) dX2_bringGreatest_0 rfl rfl ?_
  refine z_istore_n (pc := 1) (ls' := [some (.inr (some (0, 2, o0))), some (.inr (some (1, 12, a1))), some (.inl x2), some (.inl x2), none]) dX2_bringGreatest_1 rfl rfl rfl ?_
  refine z_iload_n (pc := 2) dX2_bringGreatest_2 rfl rfl ?_
  refine z_iconst (pc := 3) (v := (nI 1)) dX2_bringGreatest_3 (by decide) ?_
  refine z_iadd (pc := 4) dX2_bringGreatest_4 ?_
  refine z_istore (pc := 5) (ls' := [some (.inr (some (0, 2, o0))), some (.inr (some (1, 12, a1))), some (.inl x2), some (.inl x2), some (.inl (x2 + (nI 1)))]) dX2_bringGreatest_5 rfl rfl ?_
  exact H

set_option maxRecDepth 20000 in
theorem bX2_bringGreatest_7 {l : Launch} {E : eE} {d bc bs : Nat} {h : aH} {Q : aH → Prop} {o0 : Nat} {a1 : Nat} {x2 : Int32} {x3 : Int32} {x4 : Int32} (S : SH h) (g0 : isEv o0) (H : (((hI h o0 2) ≤ x4 → (vp_in x3 12 ∧ (vp_in x2 12 ∧ Q (stA (stA h a1 (x3).toNatClampNeg (hA h a1 (x2).toNatClampNeg)) a1 (x2).toNatClampNeg (hA h a1 (x3).toNatClampNeg))))) ∧ (¬ (hI h o0 2) ≤ x4 → (vp_in x4 12 ∧ (vp_in x3 12 ∧ (((hA h a1 (x4).toNatClampNeg) ≤ (hA h a1 (x3).toNatClampNeg) → LX2_bringGreatest_7 l E d bc bs o0 a1 x2 x3 (x4 + (nI 1)) h Q) ∧ (¬ (hA h a1 (x4).toNatClampNeg) ≤ (hA h a1 (x3).toNatClampNeg) → LX2_bringGreatest_7 l E d bc bs o0 a1 x2 x4 (x4 + (nI 1)) h Q))))))) : LX2_bringGreatest_7 l E d bc bs o0 a1 x2 x3 x4 h Q := by
  refine z_iload (pc := 7) dX2_bringGreatest_7 rfl ?_
  refine z_aload_n (pc := 9) dX2_bringGreatest_9 rfl rfl ?_
  refine z_geti (pc := 10) dX2_bringGreatest_10 fX2_24 rfl ?_
  refine z_icmp_ge (pc := 13) (tgt := 35) dX2_bringGreatest_13 (by decide) (fun c1 => ?_) (fun c1 => ?_)
  · replace H := H.1 c1
    refine z_aload_n (pc := 35) dX2_bringGreatest_35 rfl rfl ?_
    refine z_iload_n (pc := 36) dX2_bringGreatest_36 rfl rfl ?_
    have c2 := H.1
    replace H := H.2
    refine z_iald (pc := 37) dX2_bringGreatest_37 c2 ?_
    refine z_istore (pc := 38) (ls' := [some (.inr (some (0, 2, o0))), some (.inr (some (1, 12, a1))), some (.inl x2), some (.inl x3), some (.inl (hA h a1 (x3).toNatClampNeg))]) dX2_bringGreatest_38 rfl rfl ?_
    refine z_aload_n (pc := 40) dX2_bringGreatest_40 rfl rfl ?_
    refine z_iload_n (pc := 41) dX2_bringGreatest_41 rfl rfl ?_
    refine z_aload_n (pc := 42) dX2_bringGreatest_42 rfl rfl ?_
    refine z_iload_n (pc := 43) dX2_bringGreatest_43 rfl rfl ?_
    have c3 := H.1
    replace H := H.2
    refine z_iald (pc := 44) dX2_bringGreatest_44 c3 ?_
    refine z_iast (pc := 45) dX2_bringGreatest_45 c2 ?_
    refine z_aload_n (pc := 46) dX2_bringGreatest_46 rfl rfl ?_
    refine z_iload_n (pc := 47) dX2_bringGreatest_47 rfl rfl ?_
    refine z_iload (pc := 48) dX2_bringGreatest_48 rfl ?_
    refine z_iast (pc := 50) dX2_bringGreatest_50 c3 ?_
    exact z_ret (pc := 51) dX2_bringGreatest_51 rfl ⟨rfl, H⟩
  · replace H := H.2 c1
    refine z_aload_n (pc := 16) dX2_bringGreatest_16 rfl rfl ?_
    refine z_iload (pc := 17) dX2_bringGreatest_17 rfl ?_
    have c4 := H.1
    replace H := H.2
    refine z_iald (pc := 19) dX2_bringGreatest_19 c4 ?_
    refine z_aload_n (pc := 20) dX2_bringGreatest_20 rfl rfl ?_
    refine z_iload_n (pc := 21) dX2_bringGreatest_21 rfl rfl ?_
    have c5 := H.1
    replace H := H.2
    refine z_iald (pc := 22) dX2_bringGreatest_22 c5 ?_
    refine z_icmp_le (pc := 23) (tgt := 29) dX2_bringGreatest_23 (by decide) (fun c6 => ?_) (fun c6 => ?_)
    · replace H := H.1 c6
      refine z_iinc (pc := 29) (v := (x4 + (nI 1))) (ls' := [some (.inr (some (0, 2, o0))), some (.inr (some (1, 12, a1))), some (.inl x2), some (.inl x3), some (.inl (x4 + (nI 1)))]) dX2_bringGreatest_29 rfl (by rw [show Int32.ofInt (1) = (nI 1) by decide]) rfl ?_
      refine z_goto (pc := 32) (tgt := 7) dX2_bringGreatest_32 (by decide) ?_
      exact H
    · replace H := H.2 c6
      refine z_iload (pc := 26) dX2_bringGreatest_26 rfl ?_
      refine z_istore_n (pc := 28) (ls' := [some (.inr (some (0, 2, o0))), some (.inr (some (1, 12, a1))), some (.inl x2), some (.inl x4), some (.inl x4)]) dX2_bringGreatest_28 rfl rfl rfl ?_
      refine z_iinc (pc := 29) (v := (x4 + (nI 1))) (ls' := [some (.inr (some (0, 2, o0))), some (.inr (some (1, 12, a1))), some (.inl x2), some (.inl x4), some (.inl (x4 + (nI 1)))]) dX2_bringGreatest_29 rfl (by rw [show Int32.ofInt (1) = (nI 1) by decide]) rfl ?_
      refine z_goto (pc := 32) (tgt := 7) dX2_bringGreatest_32 (by decide) ?_
      exact H

abbrev LX2_isBetter_25 (l : Launch) (E : eE) (d bc bs : Nat) (o0 : Nat) (a1 : Nat) (x2 : Int32) (h : aH) (Q : Int32 → aH → Prop) : Prop := TI l E mX2_isBetter d bc bs 25 [some (.inr (some (0, 2, o0))), some (.inr (some (1, 12, a1))), some (.inl x2)] [] h Q

set_option maxRecDepth 20000 in
theorem bX2_isBetter_0 {l : Launch} {E : eE} {d bc bs : Nat} {h : aH} {Q : Int32 → aH → Prop} {o0 : Nat} {a1 : Nat} (S : SH h) (g0 : isEv o0) (H : ((¬ (hI h o0 3) = 0 → (¬ (nI 0) < 0 ∧ ¬ (nI 0) < 0 ∧ ¬ (hI h o0 2) < 0 ∧ ((nI 0)).toNatClampNeg + ((hI h o0 2)).toNatClampNeg ≤ 12 ∧ ((nI 0)).toNatClampNeg + ((hI h o0 2)).toNatClampNeg ≤ 12 ∧ LX2_isBetter_25 l E (d + 1) bc bs o0 a1 (nI 0) (stAA h (o0 + 2) (va_cpy (hA h a1) (hA h (o0 + 2)) ((nI 0)).toNatClampNeg ((nI 0)).toNatClampNeg ((hI h o0 2)).toNatClampNeg)) Q)) ∧ ((hI h o0 3) = 0 → Q (nI 1) h))) : CI l E (d + 1) bc bs mX2_isBetter [.inr (some (0, 2, o0)), .inr (some (1, 12, a1))] h Q := by
  refine CI.of (by decide) rfl ?_
  show TI l E mX2_isBetter (d + 1) bc bs 0 [some (.inr (some (0, 2, o0))), some (.inr (some (1, 12, a1))), none] [] h Q
  refine z_aload_n (pc := 0) dX2_isBetter_0 rfl rfl ?_
  refine z_geti (pc := 1) dX2_isBetter_1 fX2_28 rfl ?_
  refine z_if_ne (pc := 4) (tgt := 9) dX2_isBetter_4 (by decide) (fun c1 => ?_) (fun c1 => ?_)
  · replace H := H.1 c1
    refine z_aload_n (pc := 9) dX2_isBetter_9 rfl rfl ?_
    refine z_iconst (pc := 10) (v := (nI 0)) dX2_isBetter_10 (by decide) ?_
    refine z_aload_n (pc := 11) dX2_isBetter_11 rfl rfl ?_
    refine z_getk (pc := 12) dX2_isBetter_12 fX2_15 rfl (sE_1 S g0) ?_
    refine z_iconst (pc := 15) (v := (nI 0)) dX2_isBetter_15 (by decide) ?_
    refine z_aload_n (pc := 16) dX2_isBetter_16 rfl rfl ?_
    refine z_geti (pc := 17) dX2_isBetter_17 fX2_24 rfl ?_
    obtain ⟨w1, w2, w3, w4, w5, H⟩ := H
    refine z_copy (pc := 20) dX2_isBetter_20 lX2_32 w1 w2 w3 w4 w5 rfl ?_
    refine z_iconst (pc := 23) (v := (nI 0)) dX2_isBetter_23 (by decide) ?_
    refine z_istore_n (pc := 24) (ls' := [some (.inr (some (0, 2, o0))), some (.inr (some (1, 12, a1))), some (.inl (nI 0))]) dX2_isBetter_24 rfl rfl rfl ?_
    exact H
  · replace H := H.2 c1
    refine z_iconst (pc := 7) (v := (nI 1)) dX2_isBetter_7 (by decide) ?_
    exact z_iret (pc := 8) dX2_isBetter_8 rfl rfl ⟨_, rfl, H⟩

set_option maxRecDepth 20000 in
theorem bX2_isBetter_25 {l : Launch} {E : eE} {d bc bs : Nat} {h : aH} {Q : Int32 → aH → Prop} {o0 : Nat} {a1 : Nat} {x2 : Int32} (S : SH h) (g0 : isEv o0) (H : (((hI h o0 2) ≤ x2 → Q (nI 0) h) ∧ (¬ (hI h o0 2) ≤ x2 → (CV l E d 0 0 mX2_bringGreatest [.inr (some (0, 2, o0)), .inr (some (1, 12, (o0 + 2))), .inl x2] h (fun h2 => SH h2 ∧ (vp_in x2 12 ∧ (((hA h2 (o0 + 2) (x2).toNatClampNeg) = (hA h2 (o0 + 1) (x2).toNatClampNeg) → LX2_isBetter_25 l E (d + 1) bc bs o0 a1 (x2 + (nI 1)) h2 Q) ∧ (¬ (hA h2 (o0 + 2) (x2).toNatClampNeg) = (hA h2 (o0 + 1) (x2).toNatClampNeg) → (((hA h2 (o0 + 1) (x2).toNatClampNeg) ≤ (hA h2 (o0 + 2) (x2).toNatClampNeg) → Q (nI 0) h2) ∧ (¬ (hA h2 (o0 + 1) (x2).toNatClampNeg) ≤ (hA h2 (o0 + 2) (x2).toNatClampNeg) → Q (nI 1) h2)))))))))) : LX2_isBetter_25 l E (d + 1) bc bs o0 a1 x2 h Q := by
  refine z_iload_n (pc := 25) dX2_isBetter_25 rfl rfl ?_
  refine z_aload_n (pc := 26) dX2_isBetter_26 rfl rfl ?_
  refine z_geti (pc := 27) dX2_isBetter_27 fX2_24 rfl ?_
  refine z_icmp_ge (pc := 30) (tgt := 84) dX2_isBetter_30 (by decide) (fun c1 => ?_) (fun c1 => ?_)
  · replace H := H.1 c1
    refine z_iconst (pc := 84) (v := (nI 0)) dX2_isBetter_84 (by decide) ?_
    exact z_iret (pc := 85) dX2_isBetter_85 rfl rfl ⟨_, rfl, H⟩
  · replace H := H.2 c1
    refine z_aload_n (pc := 33) dX2_isBetter_33 rfl rfl ?_
    refine z_aload_n (pc := 34) dX2_isBetter_34 rfl rfl ?_
    refine z_getk (pc := 35) dX2_isBetter_35 fX2_15 rfl (sE_1 S g0) ?_
    refine z_iload_n (pc := 38) dX2_isBetter_38 rfl rfl ?_
    refine y_VV (pc := 39) (bc := bc) (bs := bs) (mc := 0) (ms := 0) (As := [.inr (some (1, 12, (o0 + 2))), .inl x2]) (rest := []) dX2_isBetter_39 kX2_bringGreatest lX2_38 ⟨_, _, rfl⟩ rfl rfl (H.use (fun h2 H => ?_))
    have S2 := H.1
    replace H := H.2
    refine z_aload_n (pc := 42) dX2_isBetter_42 rfl rfl ?_
    refine z_getk (pc := 43) dX2_isBetter_43 fX2_15 rfl (sE_1 S2 g0) ?_
    refine z_iload_n (pc := 46) dX2_isBetter_46 rfl rfl ?_
    have c3 := H.1
    replace H := H.2
    refine z_iald (pc := 47) dX2_isBetter_47 c3 ?_
    refine z_aload_n (pc := 48) dX2_isBetter_48 rfl rfl ?_
    refine z_getk (pc := 49) dX2_isBetter_49 fX2_9 rfl (sE_0 S2 g0) ?_
    refine z_iload_n (pc := 52) dX2_isBetter_52 rfl rfl ?_
    refine z_iald (pc := 53) dX2_isBetter_53 c3 ?_
    refine z_icmp_eq (pc := 54) (tgt := 78) dX2_isBetter_54 (by decide) (fun c4 => ?_) (fun c4 => ?_)
    · replace H := H.1 c4
      refine z_iinc (pc := 78) (v := (x2 + (nI 1))) (ls' := [some (.inr (some (0, 2, o0))), some (.inr (some (1, 12, a1))), some (.inl (x2 + (nI 1)))]) dX2_isBetter_78 rfl (by rw [show Int32.ofInt (1) = (nI 1) by decide]) rfl ?_
      refine z_goto (pc := 81) (tgt := 25) dX2_isBetter_81 (by decide) ?_
      exact H
    · replace H := H.2 c4
      refine z_aload_n (pc := 57) dX2_isBetter_57 rfl rfl ?_
      refine z_getk (pc := 58) dX2_isBetter_58 fX2_15 rfl (sE_1 S2 g0) ?_
      refine z_iload_n (pc := 61) dX2_isBetter_61 rfl rfl ?_
      refine z_iald (pc := 62) dX2_isBetter_62 c3 ?_
      refine z_aload_n (pc := 63) dX2_isBetter_63 rfl rfl ?_
      refine z_getk (pc := 64) dX2_isBetter_64 fX2_9 rfl (sE_0 S2 g0) ?_
      refine z_iload_n (pc := 67) dX2_isBetter_67 rfl rfl ?_
      refine z_iald (pc := 68) dX2_isBetter_68 c3 ?_
      refine z_icmp_ge (pc := 69) (tgt := 76) dX2_isBetter_69 (by decide) (fun c5 => ?_) (fun c5 => ?_)
      · replace H := H.1 c5
        refine z_iconst (pc := 76) (v := (nI 0)) dX2_isBetter_76 (by decide) ?_
        exact z_iret (pc := 77) dX2_isBetter_77 rfl rfl ⟨_, rfl, H⟩
      · replace H := H.2 c5
        refine z_iconst (pc := 72) (v := (nI 1)) dX2_isBetter_72 (by decide) ?_
        refine z_goto (pc := 73) (tgt := 77) dX2_isBetter_73 (by decide) ?_
        exact z_iret (pc := 77) dX2_isBetter_77 rfl rfl ⟨_, rfl, H⟩

abbrev LX2_keep_21 (l : Launch) (E : eE) (d bc bs : Nat) (o0 : Nat) (a1 : Nat) (x2 : Int32) (h : aH) (Q : aH → Prop) : Prop := TV l E mX2_keep d bc bs 21 [some (.inr (some (0, 2, o0))), some (.inr (some (1, 12, a1))), some (.inl x2)] [] h Q

set_option maxRecDepth 20000 in
theorem bX2_keep_0 {l : Launch} {E : eE} {d bc bs : Nat} {h : aH} {Q : aH → Prop} {o0 : Nat} {a1 : Nat} (S : SH h) (g0 : isEv o0) (H : (¬ (nI 0) < 0 ∧ ¬ (nI 0) < 0 ∧ ¬ (hI (stI h o0 3 (nI 1)) o0 2) < 0 ∧ ((nI 0)).toNatClampNeg + ((hI (stI h o0 3 (nI 1)) o0 2)).toNatClampNeg ≤ 12 ∧ ((nI 0)).toNatClampNeg + ((hI (stI h o0 3 (nI 1)) o0 2)).toNatClampNeg ≤ 12 ∧ LX2_keep_21 l E (d + 1) bc bs o0 a1 (nI 0) (stAA (stI h o0 3 (nI 1)) (o0 + 1) (va_cpy (hA (stI h o0 3 (nI 1)) a1) (hA (stI h o0 3 (nI 1)) (o0 + 1)) ((nI 0)).toNatClampNeg ((nI 0)).toNatClampNeg ((hI (stI h o0 3 (nI 1)) o0 2)).toNatClampNeg)) Q)) : CV l E (d + 1) bc bs mX2_keep [.inr (some (0, 2, o0)), .inr (some (1, 12, a1))] h Q := by
  refine CV.of (by decide) rfl ?_
  show TV l E mX2_keep (d + 1) bc bs 0 [some (.inr (some (0, 2, o0))), some (.inr (some (1, 12, a1))), none] [] h Q
  refine z_aload_n (pc := 0) dX2_keep_0 rfl rfl ?_
  refine z_iconst (pc := 1) (v := (nI 1)) dX2_keep_1 (by decide) ?_
  refine z_puti (pc := 2) dX2_keep_2 fX2_28 (uX2_3 _) rfl rfl rfl ?_
  refine z_aload_n (pc := 5) dX2_keep_5 rfl rfl ?_
  refine z_iconst (pc := 6) (v := (nI 0)) dX2_keep_6 (by decide) ?_
  refine z_aload_n (pc := 7) dX2_keep_7 rfl rfl ?_
  refine z_getk (pc := 8) dX2_keep_8 fX2_9 rfl (sE_0 S g0) ?_
  refine z_iconst (pc := 11) (v := (nI 0)) dX2_keep_11 (by decide) ?_
  refine z_aload_n (pc := 12) dX2_keep_12 rfl rfl ?_
  refine z_geti (pc := 13) dX2_keep_13 fX2_24 rfl ?_
  obtain ⟨w1, w2, w3, w4, w5, H⟩ := H
  refine z_copy (pc := 16) dX2_keep_16 lX2_32 w1 w2 w3 w4 w5 rfl ?_
  refine z_iconst (pc := 19) (v := (nI 0)) dX2_keep_19 (by decide) ?_
  refine z_istore_n (pc := 20) (ls' := [some (.inr (some (0, 2, o0))), some (.inr (some (1, 12, a1))), some (.inl (nI 0))]) dX2_keep_20 rfl rfl rfl ?_
  exact H

set_option maxRecDepth 20000 in
theorem bX2_keep_21 {l : Launch} {E : eE} {d bc bs : Nat} {h : aH} {Q : aH → Prop} {o0 : Nat} {a1 : Nat} {x2 : Int32} (S : SH h) (g0 : isEv o0) (H : (((hI h o0 2) ≤ x2 → Q h) ∧ (¬ (hI h o0 2) ≤ x2 → (CV l E d 0 0 mX2_bringGreatest [.inr (some (0, 2, o0)), .inr (some (1, 12, (o0 + 1))), .inl x2] h (fun h2 => SH h2 ∧ LX2_keep_21 l E (d + 1) bc bs o0 a1 (x2 + (nI 1)) h2 Q))))) : LX2_keep_21 l E (d + 1) bc bs o0 a1 x2 h Q := by
  refine z_iload_n (pc := 21) dX2_keep_21 rfl rfl ?_
  refine z_aload_n (pc := 22) dX2_keep_22 rfl rfl ?_
  refine z_geti (pc := 23) dX2_keep_23 fX2_24 rfl ?_
  refine z_icmp_ge (pc := 26) (tgt := 44) dX2_keep_26 (by decide) (fun c1 => ?_) (fun c1 => ?_)
  · replace H := H.1 c1
    exact z_ret (pc := 44) dX2_keep_44 rfl ⟨rfl, H⟩
  · replace H := H.2 c1
    refine z_aload_n (pc := 29) dX2_keep_29 rfl rfl ?_
    refine z_aload_n (pc := 30) dX2_keep_30 rfl rfl ?_
    refine z_getk (pc := 31) dX2_keep_31 fX2_9 rfl (sE_0 S g0) ?_
    refine z_iload_n (pc := 34) dX2_keep_34 rfl rfl ?_
    refine y_VV (pc := 35) (bc := bc) (bs := bs) (mc := 0) (ms := 0) (As := [.inr (some (1, 12, (o0 + 1))), .inl x2]) (rest := []) dX2_keep_35 kX2_bringGreatest lX2_38 ⟨_, _, rfl⟩ rfl rfl (H.use (fun h2 H => ?_))
    have S2 := H.1
    replace H := H.2
    refine z_iinc (pc := 38) (v := (x2 + (nI 1))) (ls' := [some (.inr (some (0, 2, o0))), some (.inr (some (1, 12, a1))), some (.inl (x2 + (nI 1)))]) dX2_keep_38 rfl (by rw [show Int32.ofInt (1) = (nI 1) by decide]) rfl ?_
    refine z_goto (pc := 41) (tgt := 21) dX2_keep_41 (by decide) ?_
    exact H

set_option maxRecDepth 20000 in
theorem bX2_greatest_0 {l : Launch} {E : eE} {d bc bs : Nat} {h : aH} {Q : Int32 → aH → Prop} {o0 : Nat} (S : SH h) (g0 : isEv o0) (H : ((¬ (hI h o0 2) = 0 → Q (hA h (o0 + 1) ((nI 0)).toNatClampNeg) h) ∧ ((hI h o0 2) = 0 → Q (nI 0) h))) : CI l E d bc bs mX2_greatest [.inr (some (0, 2, o0))] h Q := by
  refine CI.of (by decide) rfl ?_
  show TI l E mX2_greatest d bc bs 0 [some (.inr (some (0, 2, o0)))] [] h Q
  refine z_aload_n (pc := 0) dX2_greatest_0 rfl rfl ?_
  refine z_geti (pc := 1) dX2_greatest_1 fX2_24 rfl ?_
  refine z_if_ne (pc := 4) (tgt := 11) dX2_greatest_4 (by decide) (fun c1 => ?_) (fun c1 => ?_)
  · replace H := H.1 c1
    refine z_aload_n (pc := 11) dX2_greatest_11 rfl rfl ?_
    refine z_getk (pc := 12) dX2_greatest_12 fX2_9 rfl (sE_0 S g0) ?_
    refine z_iconst (pc := 15) (v := (nI 0)) dX2_greatest_15 (by decide) ?_
    refine z_iald (pc := 16) dX2_greatest_16 (vp_in_nI (by decide) (by decide)) ?_
    exact z_iret (pc := 17) dX2_greatest_17 rfl rfl ⟨_, rfl, H⟩
  · replace H := H.2 c1
    refine z_iconst (pc := 7) (v := (nI 0)) dX2_greatest_7 (by decide) ?_
    refine z_goto (pc := 8) (tgt := 17) dX2_greatest_8 (by decide) ?_
    exact z_iret (pc := 17) dX2_greatest_17 rfl rfl ⟨_, rfl, H⟩

abbrev LX4_offsetAt_14 (l : Launch) (E : eE) (d bc bs : Nat) (o0 : Nat) (x1 : Int32) (x2 : Int32) (x3 : Int32) (x4 : Int32) (r5 : aR) (h : aH) (Q : Int32 → aH → Prop) : Prop := TI l E mX4_offsetAt d bc bs 14 [some (.inr (some (0, 4, o0))), some (.inl x1), some (.inl x2), some (.inl x3), some (.inl x4), some (.inr r5)] [] h Q

set_option maxRecDepth 20000 in
theorem bX4_offsetAt_0 {l : Launch} {E : eE} {d bc bs : Nat} {h : aH} {Q : Int32 → aH → Prop} {o0 : Nat} {x1 : Int32} {x2 : Int32} (S : SH h) (H : LX4_offsetAt_14 l E d bc bs o0 x1 x2 (hI h o0 0) (-1) ((hR h o0 1)) h Q) : CI l E d bc bs mX4_offsetAt [.inr (some (0, 4, o0)), .inl x1, .inl x2] h Q := by
  refine CI.of (by decide) rfl ?_
  show TI l E mX4_offsetAt d bc bs 0 [some (.inr (some (0, 4, o0))), some (.inl x1), some (.inl x2), none, none, none] [] h Q
  refine z_aload_n (pc := 0) dX4_offsetAt_0 rfl rfl ?_
  refine z_geti (pc := 1) dX4_offsetAt_1 fX4_9 rfl ?_
  refine z_istore_n (pc := 4) (ls' := [some (.inr (some (0, 4, o0))), some (.inl x1), some (.inl x2), some (.inl (hI h o0 0)), none, none]) dX4_offsetAt_4 rfl rfl rfl ?_
  refine z_iconst (pc := 5) (v := (-1)) dX4_offsetAt_5 (by decide) ?_
  refine z_istore (pc := 6) (ls' := [some (.inr (some (0, 4, o0))), some (.inl x1), some (.inl x2), some (.inl (hI h o0 0)), some (.inl (-1)), none]) dX4_offsetAt_6 rfl rfl ?_
  refine z_aload_n (pc := 8) dX4_offsetAt_8 rfl rfl ?_
  refine z_getr (pc := 9) dX4_offsetAt_9 fX4_15 rfl ?_
  refine z_astore (pc := 12) (ls' := [some (.inr (some (0, 4, o0))), some (.inl x1), some (.inl x2), some (.inl (hI h o0 0)), some (.inl (-1)), some (.inr ((hR h o0 1)))]) dX4_offsetAt_12 rfl rfl ?_
  exact H

set_option maxRecDepth 20000 in
theorem bX4_offsetAt_14 {l : Launch} {E : eE} {d bc bs : Nat} {h : aH} {Q : Int32 → aH → Prop} {o0 : Nat} {x1 : Int32} {x2 : Int32} {x3 : Int32} {x4 : Int32} {r5 : aR} (S : SH h) (H : ((r5 = none → Q x3 h) ∧ (∀ q1, r5 = some q1 → (∃ p2, r5 = some (0, 3, p2) ∧ ((x2 ≤ (hI h p2 0) → LX4_offsetAt_14 l E d bc bs o0 x1 x2 x3 x4 ((hR h p2 4)) h Q) ∧ (¬ x2 ≤ (hI h p2 0) → ((x1 < (hI h p2 1) → LX4_offsetAt_14 l E d bc bs o0 x1 x2 x3 x4 ((hR h p2 4)) h Q) ∧ (¬ x1 < (hI h p2 1) → (((hI h p2 1) ≤ x4 → LX4_offsetAt_14 l E d bc bs o0 x1 x2 x3 x4 ((hR h p2 4)) h Q) ∧ (¬ (hI h p2 1) ≤ x4 → LX4_offsetAt_14 l E d bc bs o0 x1 x2 (hI h p2 2) (hI h p2 1) ((hR h p2 4)) h Q)))))))))) : LX4_offsetAt_14 l E d bc bs o0 x1 x2 x3 x4 r5 h Q := by
  refine z_aload (pc := 14) dX4_offsetAt_14 rfl ?_
  refine z_ifnull (pc := 16) (tgt := 70) dX4_offsetAt_16 (by decide) (fun c1 => ?_) (fun q1 c1 => ?_)
  · replace H := H.1 c1
    refine z_iload_n (pc := 70) dX4_offsetAt_70 rfl rfl ?_
    exact z_iret (pc := 71) dX4_offsetAt_71 rfl rfl ⟨_, rfl, H⟩
  · replace H := H.2 q1 c1
    refine z_aload (pc := 19) dX4_offsetAt_19 rfl ?_
    obtain ⟨p2, e2, H⟩ := H
    refine z_cast e2 ?_
    refine z_geti (pc := 21) dX4_offsetAt_21 fX4_19 rfl ?_
    refine z_iload_n (pc := 24) dX4_offsetAt_24 rfl rfl ?_
    refine z_icmp_ge (pc := 25) (tgt := 60) dX4_offsetAt_25 (by decide) (fun c3 => ?_) (fun c3 => ?_)
    · replace H := H.1 c3
      refine z_aload (pc := 60) dX4_offsetAt_60 rfl ?_
      refine z_cast e2 ?_
      refine z_getr (pc := 62) dX4_offsetAt_62 fX4_30 rfl ?_
      refine z_astore (pc := 65) (ls' := [some (.inr (some (0, 4, o0))), some (.inl x1), some (.inl x2), some (.inl x3), some (.inl x4), some (.inr ((hR h p2 4)))]) dX4_offsetAt_65 rfl rfl ?_
      refine z_goto (pc := 67) (tgt := 14) dX4_offsetAt_67 (by decide) ?_
      exact H
    · replace H := H.2 c3
      refine z_aload (pc := 28) dX4_offsetAt_28 rfl ?_
      refine z_cast e2 ?_
      refine z_geti (pc := 30) dX4_offsetAt_30 fX4_24 rfl ?_
      refine z_iload_n (pc := 33) dX4_offsetAt_33 rfl rfl ?_
      refine z_icmp_gt (pc := 34) (tgt := 60) dX4_offsetAt_34 (by decide) (fun c4 => ?_) (fun c4 => ?_)
      · replace H := H.1 c4
        refine z_aload (pc := 60) dX4_offsetAt_60 rfl ?_
        refine z_cast e2 ?_
        refine z_getr (pc := 62) dX4_offsetAt_62 fX4_30 rfl ?_
        refine z_astore (pc := 65) (ls' := [some (.inr (some (0, 4, o0))), some (.inl x1), some (.inl x2), some (.inl x3), some (.inl x4), some (.inr ((hR h p2 4)))]) dX4_offsetAt_65 rfl rfl ?_
        refine z_goto (pc := 67) (tgt := 14) dX4_offsetAt_67 (by decide) ?_
        exact H
      · replace H := H.2 c4
        refine z_aload (pc := 37) dX4_offsetAt_37 rfl ?_
        refine z_cast e2 ?_
        refine z_geti (pc := 39) dX4_offsetAt_39 fX4_24 rfl ?_
        refine z_iload (pc := 42) dX4_offsetAt_42 rfl ?_
        refine z_icmp_le (pc := 44) (tgt := 60) dX4_offsetAt_44 (by decide) (fun c5 => ?_) (fun c5 => ?_)
        · replace H := H.1 c5
          refine z_aload (pc := 60) dX4_offsetAt_60 rfl ?_
          refine z_cast e2 ?_
          refine z_getr (pc := 62) dX4_offsetAt_62 fX4_30 rfl ?_
          refine z_astore (pc := 65) (ls' := [some (.inr (some (0, 4, o0))), some (.inl x1), some (.inl x2), some (.inl x3), some (.inl x4), some (.inr ((hR h p2 4)))]) dX4_offsetAt_65 rfl rfl ?_
          refine z_goto (pc := 67) (tgt := 14) dX4_offsetAt_67 (by decide) ?_
          exact H
        · replace H := H.2 c5
          refine z_aload (pc := 47) dX4_offsetAt_47 rfl ?_
          refine z_cast e2 ?_
          refine z_geti (pc := 49) dX4_offsetAt_49 fX4_24 rfl ?_
          refine z_istore (pc := 52) (ls' := [some (.inr (some (0, 4, o0))), some (.inl x1), some (.inl x2), some (.inl x3), some (.inl (hI h p2 1)), some (.inr r5)]) dX4_offsetAt_52 rfl rfl ?_
          refine z_aload (pc := 54) dX4_offsetAt_54 rfl ?_
          refine z_cast e2 ?_
          refine z_geti (pc := 56) dX4_offsetAt_56 fX4_27 rfl ?_
          refine z_istore_n (pc := 59) (ls' := [some (.inr (some (0, 4, o0))), some (.inl x1), some (.inl x2), some (.inl (hI h p2 2)), some (.inl (hI h p2 1)), some (.inr r5)]) dX4_offsetAt_59 rfl rfl rfl ?_
          refine z_aload (pc := 60) dX4_offsetAt_60 rfl ?_
          refine z_cast e2 ?_
          refine z_getr (pc := 62) dX4_offsetAt_62 fX4_30 rfl ?_
          refine z_astore (pc := 65) (ls' := [some (.inr (some (0, 4, o0))), some (.inl x1), some (.inl x2), some (.inl (hI h p2 2)), some (.inl (hI h p2 1)), some (.inr ((hR h p2 4)))]) dX4_offsetAt_65 rfl rfl ?_
          refine z_goto (pc := 67) (tgt := 14) dX4_offsetAt_67 (by decide) ?_
          exact H

abbrev LX4_celebrates_5 (l : Launch) (E : eE) (d bc bs : Nat) (o0 : Nat) (x1 : Int32) (x2 : Int32) (r3 : aR) (h : aH) (Q : Int32 → aH → Prop) : Prop := TI l E mX4_celebrates d bc bs 5 [some (.inr (some (0, 4, o0))), some (.inl x1), some (.inl x2), some (.inr r3)] [] h Q

set_option maxRecDepth 20000 in
theorem bX4_celebrates_0 {l : Launch} {E : eE} {d bc bs : Nat} {h : aH} {Q : Int32 → aH → Prop} {o0 : Nat} {x1 : Int32} {x2 : Int32} (S : SH h) (H : LX4_celebrates_5 l E d bc bs o0 x1 x2 ((hR h o0 2)) h Q) : CI l E d bc bs mX4_celebrates [.inr (some (0, 4, o0)), .inl x1, .inl x2] h Q := by
  refine CI.of (by decide) rfl ?_
  show TI l E mX4_celebrates d bc bs 0 [some (.inr (some (0, 4, o0))), some (.inl x1), some (.inl x2), none] [] h Q
  refine z_aload_n (pc := 0) dX4_celebrates_0 rfl rfl ?_
  refine z_getr (pc := 1) dX4_celebrates_1 fX4_33 rfl ?_
  refine z_astore_n (pc := 4) (ls' := [some (.inr (some (0, 4, o0))), some (.inl x1), some (.inl x2), some (.inr ((hR h o0 2)))]) dX4_celebrates_4 rfl rfl rfl ?_
  exact H

set_option maxRecDepth 20000 in
theorem bX4_celebrates_5 {l : Launch} {E : eE} {d bc bs : Nat} {h : aH} {Q : Int32 → aH → Prop} {o0 : Nat} {x1 : Int32} {x2 : Int32} {r3 : aR} (S : SH h) (H : ((r3 = none → Q (nI 0) h) ∧ (∀ q1, r3 = some q1 → (∃ p2, r3 = some (0, 3, p2) ∧ ((x2 ≤ (hI h p2 0) → LX4_celebrates_5 l E d bc bs o0 x1 x2 ((hR h p2 4)) h Q) ∧ (¬ x2 ≤ (hI h p2 0) → ((¬ (hI h p2 1) = x1 → LX4_celebrates_5 l E d bc bs o0 x1 x2 ((hR h p2 4)) h Q) ∧ ((hI h p2 1) = x1 → Q (nI 1) h)))))))) : LX4_celebrates_5 l E d bc bs o0 x1 x2 r3 h Q := by
  refine z_aload_n (pc := 5) dX4_celebrates_5 rfl rfl ?_
  refine z_ifnull (pc := 6) (tgt := 35) dX4_celebrates_6 (by decide) (fun c1 => ?_) (fun q1 c1 => ?_)
  · replace H := H.1 c1
    refine z_iconst (pc := 35) (v := (nI 0)) dX4_celebrates_35 (by decide) ?_
    exact z_iret (pc := 36) dX4_celebrates_36 rfl rfl ⟨_, rfl, H⟩
  · replace H := H.2 q1 c1
    refine z_aload_n (pc := 9) dX4_celebrates_9 rfl rfl ?_
    obtain ⟨p2, e2, H⟩ := H
    refine z_cast e2 ?_
    refine z_geti (pc := 10) dX4_celebrates_10 fX4_19 rfl ?_
    refine z_iload_n (pc := 13) dX4_celebrates_13 rfl rfl ?_
    refine z_icmp_ge (pc := 14) (tgt := 27) dX4_celebrates_14 (by decide) (fun c3 => ?_) (fun c3 => ?_)
    · replace H := H.1 c3
      refine z_aload_n (pc := 27) dX4_celebrates_27 rfl rfl ?_
      refine z_cast e2 ?_
      refine z_getr (pc := 28) dX4_celebrates_28 fX4_30 rfl ?_
      refine z_astore_n (pc := 31) (ls' := [some (.inr (some (0, 4, o0))), some (.inl x1), some (.inl x2), some (.inr ((hR h p2 4)))]) dX4_celebrates_31 rfl rfl rfl ?_
      refine z_goto (pc := 32) (tgt := 5) dX4_celebrates_32 (by decide) ?_
      exact H
    · replace H := H.2 c3
      refine z_aload_n (pc := 17) dX4_celebrates_17 rfl rfl ?_
      refine z_cast e2 ?_
      refine z_geti (pc := 18) dX4_celebrates_18 fX4_24 rfl ?_
      refine z_iload_n (pc := 21) dX4_celebrates_21 rfl rfl ?_
      refine z_icmp_ne (pc := 22) (tgt := 27) dX4_celebrates_22 (by decide) (fun c4 => ?_) (fun c4 => ?_)
      · replace H := H.1 c4
        refine z_aload_n (pc := 27) dX4_celebrates_27 rfl rfl ?_
        refine z_cast e2 ?_
        refine z_getr (pc := 28) dX4_celebrates_28 fX4_30 rfl ?_
        refine z_astore_n (pc := 31) (ls' := [some (.inr (some (0, 4, o0))), some (.inl x1), some (.inl x2), some (.inr ((hR h p2 4)))]) dX4_celebrates_31 rfl rfl rfl ?_
        refine z_goto (pc := 32) (tgt := 5) dX4_celebrates_32 (by decide) ?_
        exact H
      · replace H := H.2 c4
        refine z_iconst (pc := 25) (v := (nI 1)) dX4_celebrates_25 (by decide) ?_
        exact z_iret (pc := 26) dX4_celebrates_26 rfl rfl ⟨_, rfl, H⟩

set_option maxRecDepth 20000 in
theorem bX5_begin_0 {l : Launch} {E : eE} {d bc bs : Nat} {h : aH} {Q : aH → Prop} {x1 : Int32} (S : SH h) (H : (CI l E d 0 0 mJ9_min_7cf53 [.inl x1, .inl (nI 12)] h (fun v1 h1 => SH h1 ∧ (CV l E d 0 0 mX1_clear [.inr (some (0, 1, 43))] (stI (stI h1 39 10 v1) 39 9 (nI 0)) (fun h2 => SH h2 ∧ (CV l E d 0 0 mX2_begin [.inr (some (0, 2, 40)), .inl (hI h2 39 10)] h2 (fun h3 => SH h3 ∧ (CV l E d 0 0 mJ7_fill_53178 [.inr (some (1, 12, 54)), .inl (nI 0)] h3 (fun h4 => SH h4 ∧ Q h4))))))))) : CV l E (d + 1) bc bs mX5_begin [.inr (some (0, 5, 39)), .inl x1] h Q := by
  refine CV.of (by decide) rfl ?_
  show TV l E mX5_begin (d + 1) bc bs 0 [some (.inr (some (0, 5, 39))), some (.inl x1)] [] h Q
  refine z_aload_n (pc := 0) dX5_begin_0 rfl rfl ?_
  refine z_iload_n (pc := 1) dX5_begin_1 rfl rfl ?_
  refine z_bipush (pc := 2) (v := (nI 12)) dX5_begin_2 (by decide) ?_
  refine y_SI (pc := 4) (bc := bc) (bs := bs) (mc := 0) (ms := 0) (As := [.inl x1, .inl (nI 12)]) (rest := [.inr (some (0, 5, 39))]) dX5_begin_4 kJ9_min_7cf53 lX5_57 rfl rfl (H.use (fun v1 h1 H => ?_))
  have S1 := H.1
  replace H := H.2
  refine z_puti (pc := 7) dX5_begin_7 fX5_63 (uX5_10 _) rfl rfl rfl ?_
  refine z_aload_n (pc := 10) dX5_begin_10 rfl rfl ?_
  refine z_iconst (pc := 11) (v := (nI 0)) dX5_begin_11 (by decide) ?_
  refine z_puti (pc := 12) dX5_begin_12 fX5_67 (uX5_9 _) rfl rfl rfl ?_
  refine z_aload_n (pc := 15) dX5_begin_15 rfl rfl ?_
  refine z_getk (pc := 16) dX5_begin_16 fX5_21 rfl (s_39_1 S1) ?_
  refine y_VV (pc := 19) (bc := bc) (bs := bs) (mc := 0) (ms := 0) (As := []) (rest := []) dX5_begin_19 kX1_clear lX5_70 ⟨_, _, rfl⟩ rfl rfl (H.use (fun h2 H => ?_))
  have S2 := H.1
  replace H := H.2
  refine z_aload_n (pc := 22) dX5_begin_22 rfl rfl ?_
  refine z_getk (pc := 23) dX5_begin_23 fX5_12 rfl (s_39_0 S2) ?_
  refine z_aload_n (pc := 26) dX5_begin_26 rfl rfl ?_
  refine z_geti (pc := 27) dX5_begin_27 fX5_63 rfl ?_
  refine y_VV (pc := 30) (bc := bc) (bs := bs) (mc := 0) (ms := 0) (As := [.inl (hI h2 39 10)]) (rest := []) dX5_begin_30 kX2_begin lX5_73 ⟨_, _, rfl⟩ rfl rfl (H.use (fun h3 H => ?_))
  have S3 := H.1
  replace H := H.2
  refine z_aload_n (pc := 33) dX5_begin_33 rfl rfl ?_
  refine z_getk (pc := 34) dX5_begin_34 fX5_53 rfl (s_39_8 S3) ?_
  refine z_iconst (pc := 37) (v := (nI 0)) dX5_begin_37 (by decide) ?_
  refine y_SV (pc := 38) (bc := bc) (bs := bs) (mc := 0) (ms := 0) (As := [.inr (some (1, 12, 54)), .inl (nI 0)]) (rest := []) dX5_begin_38 kJ7_fill_53178 lX5_77 rfl rfl (H.use (fun h4 H => ?_))
  have S4 := H.1
  replace H := H.2
  exact z_ret (pc := 41) dX5_begin_41 rfl ⟨rfl, H⟩

set_option maxRecDepth 20000 in
theorem bX5_add_0 {l : Launch} {E : eE} {d bc bs : Nat} {h : aH} {Q : aH → Prop} {o1 : Nat} {o2 : Nat} {x3 : Int32} (S : SH h) (g2 : isSh o2) (H : (((nI 4) ≤ (hI h 39 9) → Q h) ∧ (¬ (nI 4) ≤ (hI h 39 9) → (vp_in (hI h 39 9) 4 ∧ SH (stQ h 48 ((hI h 39 9)).toNatClampNeg (some (0, 9, o1))) ∧ (vp_in (hI h 39 9) 4 ∧ SH (stQ (stQ h 48 ((hI h 39 9)).toNatClampNeg (some (0, 9, o1))) 49 ((hI h 39 9)).toNatClampNeg (some (0, 10, o2))) ∧ (vp_in (hI h 39 9) 4 ∧ Q (stI (stA (stQ (stQ h 48 ((hI h 39 9)).toNatClampNeg (some (0, 9, o1))) 49 ((hI h 39 9)).toNatClampNeg (some (0, 10, o2))) 51 ((hI h 39 9)).toNatClampNeg x3) 39 9 ((hI h 39 9) + (nI 1))))))))) : CV l E d bc bs mX5_add [.inr (some (0, 5, 39)), .inr (some (0, 9, o1)), .inr (some (0, 10, o2)), .inl x3] h Q := by
  refine CV.of (by decide) rfl ?_
  show TV l E mX5_add d bc bs 0 [some (.inr (some (0, 5, 39))), some (.inr (some (0, 9, o1))), some (.inr (some (0, 10, o2))), some (.inl x3)] [] h Q
  refine z_aload_n (pc := 0) dX5_add_0 rfl rfl ?_
  refine z_geti (pc := 1) dX5_add_1 fX5_67 rfl ?_
  refine z_iconst (pc := 4) (v := (nI 4)) dX5_add_4 (by decide) ?_
  refine z_icmp_ge (pc := 5) (tgt := 48) dX5_add_5 (by decide) (fun c1 => ?_) (fun c1 => ?_)
  · replace H := H.1 c1
    exact z_ret (pc := 48) dX5_add_48 rfl ⟨rfl, H⟩
  · replace H := H.2 c1
    refine z_aload_n (pc := 8) dX5_add_8 rfl rfl ?_
    refine z_getk (pc := 9) dX5_add_9 fX5_27 rfl (s_39_2 S) ?_
    refine z_aload_n (pc := 12) dX5_add_12 rfl rfl ?_
    refine z_geti (pc := 13) dX5_add_13 fX5_67 rfl ?_
    refine z_aload_n (pc := 16) dX5_add_16 rfl rfl ?_
    have c2 := H.1
    replace H := H.2
    refine z_aast (pc := 17) (r := (RX9, TX9, 9)) dX5_add_17 rfl rfl rfl rfl c2 ?_
    have S3 := H.1
    replace H := H.2
    refine z_aload_n (pc := 18) dX5_add_18 rfl rfl ?_
    refine z_getk (pc := 19) dX5_add_19 fX5_33 rfl (s_39_3 S3) ?_
    refine z_aload_n (pc := 22) dX5_add_22 rfl rfl ?_
    refine z_geti (pc := 23) dX5_add_23 fX5_67 rfl ?_
    refine z_aload_n (pc := 26) dX5_add_26 rfl rfl ?_
    have c4 := H.1
    replace H := H.2
    refine z_aast (pc := 27) (r := (RX10, TX10, 3)) dX5_add_27 rfl rfl rfl rfl c4 ?_
    have S5 := H.1
    replace H := H.2
    refine z_aload_n (pc := 28) dX5_add_28 rfl rfl ?_
    refine z_getk (pc := 29) dX5_add_29 fX5_43 rfl (s_39_5 S5) ?_
    refine z_aload_n (pc := 32) dX5_add_32 rfl rfl ?_
    refine z_geti (pc := 33) dX5_add_33 fX5_67 rfl ?_
    refine z_iload_n (pc := 36) dX5_add_36 rfl rfl ?_
    have c6 := H.1
    replace H := H.2
    refine z_iast (pc := 37) dX5_add_37 c6 ?_
    refine z_aload_n (pc := 38) dX5_add_38 rfl rfl ?_
    refine z_dup (pc := 39) dX5_add_39 ?_
    refine z_geti (pc := 40) dX5_add_40 fX5_67 rfl ?_
    refine z_iconst (pc := 43) (v := (nI 1)) dX5_add_43 (by decide) ?_
    refine z_iadd (pc := 44) dX5_add_44 ?_
    refine z_puti (pc := 45) dX5_add_45 fX5_67 (uX5_9 _) rfl rfl rfl ?_
    exact z_ret (pc := 48) dX5_add_48 rfl ⟨rfl, H⟩

set_option maxRecDepth 20000 in
theorem bX8_isBehindChain_0 {l : Launch} {E : eE} {d bc bs : Nat} {h : aH} {Q : Int32 → aH → Prop} {o0 : Nat} {o1 : Nat} {o2 : Nat} {o3 : Nat} (S : SH h) (g2 : isSh o2) (g3 : isBd o3) (H : ((∀ q1, (hR h o1 2) = some q1 → (∃ p2, (hR h o1 2) = some (0, 9, p2) ∧ (vp_in (hI h p2 0) 4 ∧ (vp_in (hI h o0 0) 6 ∧ (((hA h (o2 + 1) ((hI h o0 0)).toNatClampNeg) < (hA h (o3 + 4) ((hI h p2 0)).toNatClampNeg) → Q (nI 0) h) ∧ (¬ (hA h (o2 + 1) ((hI h o0 0)).toNatClampNeg) < (hA h (o3 + 4) ((hI h p2 0)).toNatClampNeg) → (((hI h o0 1) = (-1) → Q (nI 1) h) ∧ (¬ (hI h o0 1) = (-1) → (vp_in (hI h o0 1) 6 ∧ (((hA h (o2 + 1) ((hI h o0 1)).toNatClampNeg) < (hA h (o3 + 4) ((hI h p2 0)).toNatClampNeg) → Q (nI 0) h) ∧ (¬ (hA h (o2 + 1) ((hI h o0 1)).toNatClampNeg) < (hA h (o3 + 4) ((hI h p2 0)).toNatClampNeg) → Q (nI 1) h))))))))))) ∧ ((hR h o1 2) = none → Q (nI 1) h))) : CI l E d bc bs mX8_isBehindChain [.inr (some (0, 8, o0)), .inr (some (0, 9, o1)), .inr (some (0, 10, o2)), .inr (some (0, 1, o3))] h Q := by
  refine CI.of (by decide) rfl ?_
  show TI l E mX8_isBehindChain d bc bs 0 [some (.inr (some (0, 8, o0))), some (.inr (some (0, 9, o1))), some (.inr (some (0, 10, o2))), some (.inr (some (0, 1, o3))), none] [] h Q
  refine z_aload_n (pc := 0) dX8_isBehindChain_0 rfl rfl ?_
  refine z_getr (pc := 1) dX8_isBehindChain_1 fX8_104 rfl ?_
  refine z_ifnonnull (pc := 4) (tgt := 9) dX8_isBehindChain_4 (by decide) (fun q1 c1 => ?_) (fun c1 => ?_)
  · replace H := H.1 q1 c1
    refine z_aload_n (pc := 9) dX8_isBehindChain_9 rfl rfl ?_
    refine z_getk (pc := 10) dX8_isBehindChain_10 fX8_108 rfl (sB_3 S g3) ?_
    refine z_aload_n (pc := 13) dX8_isBehindChain_13 rfl rfl ?_
    refine z_getr (pc := 14) dX8_isBehindChain_14 fX8_104 rfl ?_
    obtain ⟨p2, e2, H⟩ := H
    refine z_cast e2 ?_
    refine z_geti (pc := 17) dX8_isBehindChain_17 fX8_111 rfl ?_
    have c3 := H.1
    replace H := H.2
    refine z_iald (pc := 20) dX8_isBehindChain_20 c3 ?_
    refine z_istore (pc := 21) (ls' := [some (.inr (some (0, 8, o0))), some (.inr (some (0, 9, o1))), some (.inr (some (0, 10, o2))), some (.inr (some (0, 1, o3))), some (.inl (hA h (o3 + 4) ((hI h p2 0)).toNatClampNeg))]) dX8_isBehindChain_21 rfl rfl ?_
    refine z_iload (pc := 23) dX8_isBehindChain_23 rfl ?_
    refine z_aload_n (pc := 25) dX8_isBehindChain_25 rfl rfl ?_
    refine z_getk (pc := 26) dX8_isBehindChain_26 fX8_51 rfl (sS_0 S g2) ?_
    refine z_aload_n (pc := 29) dX8_isBehindChain_29 rfl rfl ?_
    refine z_geti (pc := 30) dX8_isBehindChain_30 fX8_15 rfl ?_
    have c4 := H.1
    replace H := H.2
    refine z_iald (pc := 33) dX8_isBehindChain_33 c4 ?_
    refine z_icmp_gt (pc := 34) (tgt := 63) dX8_isBehindChain_34 (by decide) (fun c5 => ?_) (fun c5 => ?_)
    · replace H := H.1 c5
      refine z_iconst (pc := 63) (v := (nI 0)) dX8_isBehindChain_63 (by decide) ?_
      exact z_iret (pc := 64) dX8_isBehindChain_64 rfl rfl ⟨_, rfl, H⟩
    · replace H := H.2 c5
      refine z_aload_n (pc := 37) dX8_isBehindChain_37 rfl rfl ?_
      refine z_geti (pc := 38) dX8_isBehindChain_38 fX8_24 rfl ?_
      refine z_iconst (pc := 41) (v := (-1)) dX8_isBehindChain_41 (by decide) ?_
      refine z_icmp_eq (pc := 42) (tgt := 59) dX8_isBehindChain_42 (by decide) (fun c6 => ?_) (fun c6 => ?_)
      · replace H := H.1 c6
        refine z_iconst (pc := 59) (v := (nI 1)) dX8_isBehindChain_59 (by decide) ?_
        refine z_goto (pc := 60) (tgt := 64) dX8_isBehindChain_60 (by decide) ?_
        exact z_iret (pc := 64) dX8_isBehindChain_64 rfl rfl ⟨_, rfl, H⟩
      · replace H := H.2 c6
        refine z_iload (pc := 45) dX8_isBehindChain_45 rfl ?_
        refine z_aload_n (pc := 47) dX8_isBehindChain_47 rfl rfl ?_
        refine z_getk (pc := 48) dX8_isBehindChain_48 fX8_51 rfl (sS_0 S g2) ?_
        refine z_aload_n (pc := 51) dX8_isBehindChain_51 rfl rfl ?_
        refine z_geti (pc := 52) dX8_isBehindChain_52 fX8_24 rfl ?_
        have c7 := H.1
        replace H := H.2
        refine z_iald (pc := 55) dX8_isBehindChain_55 c7 ?_
        refine z_icmp_gt (pc := 56) (tgt := 63) dX8_isBehindChain_56 (by decide) (fun c8 => ?_) (fun c8 => ?_)
        · replace H := H.1 c8
          refine z_iconst (pc := 63) (v := (nI 0)) dX8_isBehindChain_63 (by decide) ?_
          exact z_iret (pc := 64) dX8_isBehindChain_64 rfl rfl ⟨_, rfl, H⟩
        · replace H := H.2 c8
          refine z_iconst (pc := 59) (v := (nI 1)) dX8_isBehindChain_59 (by decide) ?_
          refine z_goto (pc := 60) (tgt := 64) dX8_isBehindChain_60 (by decide) ?_
          exact z_iret (pc := 64) dX8_isBehindChain_64 rfl rfl ⟨_, rfl, H⟩
  · replace H := H.2 c1
    refine z_iconst (pc := 7) (v := (nI 1)) dX8_isBehindChain_7 (by decide) ?_
    exact z_iret (pc := 8) dX8_isBehindChain_8 rfl rfl ⟨_, rfl, H⟩

abbrev LX8_suits_70 (l : Launch) (E : eE) (d bc bs : Nat) (o0 : Nat) (o1 : Nat) (o2 : Nat) (o3 : Nat) (x4 : Int32) (x5 : Int32) (x6 : Int32) (h : aH) (Q : Int32 → aH → Prop) : Prop := TI l E mX8_suits d bc bs 70 [some (.inr (some (0, 8, o0))), some (.inr (some (0, 9, o1))), some (.inr (some (0, 10, o2))), some (.inr (some (0, 1, o3))), some (.inl x4), some (.inl x5), some (.inl x6)] [] h Q

set_option maxRecDepth 20000 in
theorem bX8_suits_0 {l : Launch} {E : eE} {d bc bs : Nat} {h : aH} {Q : Int32 → aH → Prop} {o0 : Nat} {o1 : Nat} {o2 : Nat} {o3 : Nat} {x4 : Int32} (S : SH h) (g2 : isSh o2) (g3 : isBd o3) (H : (CI l E d 0 0 mX8_stands [.inr (some (0, 9, o1)), .inr (some (0, 10, o2)), .inl x4] h (fun v1 h1 => SH h1 ∧ ((¬ v1 = 0 → (CV l E d 0 0 mX8_seat [.inr (some (0, 8, o0)), .inr (some (0, 9, o1)), .inr (some (0, 10, o2)), .inr (some (0, 1, o3)), .inl x4] h1 (fun h3 => SH h3 ∧ (∃ p4, (hR h3 o1 5) = some (1, 6, p4) ∧ ((¬ ((hA h3 p4 ((nI 1)).toNatClampNeg) &&& (((hI h3 o0 2) ||| (hI h3 o0 3)) ^^^ (-1))) = 0 → Q (nI 0) h3) ∧ (((hA h3 p4 ((nI 1)).toNatClampNeg) &&& (((hI h3 o0 2) ||| (hI h3 o0 3)) ^^^ (-1))) = 0 → (CI l E d 0 0 mX9_chairAlone [.inr (some (0, 9, o1))] h3 (fun v6 h6 => SH h6 ∧ (((v6 &&& (((hI h6 o0 2) &&& (hI h6 o0 3)) ^^^ (-1))) = 0 → LX8_suits_70 l E (d + 1) bc bs o0 o1 o2 o3 x4 ((hI h3 o0 2) ||| (hI h3 o0 3)) (nI 3) h6 Q) ∧ (¬ (v6 &&& (((hI h6 o0 2) &&& (hI h6 o0 3)) ^^^ (-1))) = 0 → Q (nI 0) h6)))))))))) ∧ (v1 = 0 → Q (nI 0) h1))))) : CI l E (d + 1) bc bs mX8_suits [.inr (some (0, 8, o0)), .inr (some (0, 9, o1)), .inr (some (0, 10, o2)), .inr (some (0, 1, o3)), .inl x4] h Q := by
  refine CI.of (by decide) rfl ?_
  show TI l E mX8_suits (d + 1) bc bs 0 [some (.inr (some (0, 8, o0))), some (.inr (some (0, 9, o1))), some (.inr (some (0, 10, o2))), some (.inr (some (0, 1, o3))), some (.inl x4), none, none] [] h Q
  refine z_aload_n (pc := 0) dX8_suits_0 rfl rfl ?_
  refine z_aload_n (pc := 1) dX8_suits_1 rfl rfl ?_
  refine z_iload (pc := 2) dX8_suits_2 rfl ?_
  refine y_SI (pc := 4) (bc := bc) (bs := bs) (mc := 0) (ms := 0) (As := [.inr (some (0, 9, o1)), .inr (some (0, 10, o2)), .inl x4]) (rest := []) dX8_suits_4 kX8_stands lX8_89 rfl rfl (H.use (fun v1 h1 H => ?_))
  have S1 := H.1
  replace H := H.2
  refine z_if_ne (pc := 7) (tgt := 12) dX8_suits_7 (by decide) (fun c2 => ?_) (fun c2 => ?_)
  · replace H := H.1 c2
    refine z_aload_n (pc := 12) dX8_suits_12 rfl rfl ?_
    refine z_aload_n (pc := 13) dX8_suits_13 rfl rfl ?_
    refine z_aload_n (pc := 14) dX8_suits_14 rfl rfl ?_
    refine z_aload_n (pc := 15) dX8_suits_15 rfl rfl ?_
    refine z_iload (pc := 16) dX8_suits_16 rfl ?_
    refine y_VV (pc := 18) (bc := bc) (bs := bs) (mc := 0) (ms := 0) (As := [.inr (some (0, 9, o1)), .inr (some (0, 10, o2)), .inr (some (0, 1, o3)), .inl x4]) (rest := []) dX8_suits_18 kX8_seat lX8_93 ⟨_, _, rfl⟩ rfl rfl (H.use (fun h3 H => ?_))
    have S3 := H.1
    replace H := H.2
    refine z_aload_n (pc := 21) dX8_suits_21 rfl rfl ?_
    refine z_geti (pc := 22) dX8_suits_22 fX8_31 rfl ?_
    refine z_aload_n (pc := 25) dX8_suits_25 rfl rfl ?_
    refine z_geti (pc := 26) dX8_suits_26 fX8_34 rfl ?_
    refine z_ior (pc := 29) dX8_suits_29 ?_
    refine z_istore (pc := 30) (ls' := [some (.inr (some (0, 8, o0))), some (.inr (some (0, 9, o1))), some (.inr (some (0, 10, o2))), some (.inr (some (0, 1, o3))), some (.inl x4), some (.inl ((hI h3 o0 2) ||| (hI h3 o0 3))), none]) dX8_suits_30 rfl rfl ?_
    refine z_aload_n (pc := 32) dX8_suits_32 rfl rfl ?_
    refine z_getr (pc := 33) dX8_suits_33 fX8_97 rfl ?_
    obtain ⟨p4, e4, H⟩ := H
    refine z_cast e4 ?_
    refine z_iconst (pc := 36) (v := (nI 1)) dX8_suits_36 (by decide) ?_
    refine z_iald (pc := 37) dX8_suits_37 (vp_in_nI (by decide) (by decide)) ?_
    refine z_iload (pc := 38) dX8_suits_38 rfl ?_
    refine z_iconst (pc := 40) (v := (-1)) dX8_suits_40 (by decide) ?_
    refine z_ixor (pc := 41) dX8_suits_41 ?_
    refine z_iand (pc := 42) dX8_suits_42 ?_
    refine z_if_ne (pc := 43) (tgt := 65) dX8_suits_43 (by decide) (fun c5 => ?_) (fun c5 => ?_)
    · replace H := H.1 c5
      refine z_iconst (pc := 65) (v := (nI 0)) dX8_suits_65 (by decide) ?_
      exact z_iret (pc := 66) dX8_suits_66 rfl rfl ⟨_, rfl, H⟩
    · replace H := H.2 c5
      refine z_aload_n (pc := 46) dX8_suits_46 rfl rfl ?_
      refine y_VI (pc := 47) (bc := bc) (bs := bs) (mc := 0) (ms := 0) (As := []) (rest := []) dX8_suits_47 kX9_chairAlone lX8_37 ⟨_, _, rfl⟩ rfl rfl (H.use (fun v6 h6 H => ?_))
      have S6 := H.1
      replace H := H.2
      refine z_aload_n (pc := 50) dX8_suits_50 rfl rfl ?_
      refine z_geti (pc := 51) dX8_suits_51 fX8_31 rfl ?_
      refine z_aload_n (pc := 54) dX8_suits_54 rfl rfl ?_
      refine z_geti (pc := 55) dX8_suits_55 fX8_34 rfl ?_
      refine z_iand (pc := 58) dX8_suits_58 ?_
      refine z_iconst (pc := 59) (v := (-1)) dX8_suits_59 (by decide) ?_
      refine z_ixor (pc := 60) dX8_suits_60 ?_
      refine z_iand (pc := 61) dX8_suits_61 ?_
      refine z_if_eq (pc := 62) (tgt := 67) dX8_suits_62 (by decide) (fun c7 => ?_) (fun c7 => ?_)
      · replace H := H.1 c7
        refine z_iconst (pc := 67) (v := (nI 3)) dX8_suits_67 (by decide) ?_
        refine z_istore (pc := 68) (ls' := [some (.inr (some (0, 8, o0))), some (.inr (some (0, 9, o1))), some (.inr (some (0, 10, o2))), some (.inr (some (0, 1, o3))), some (.inl x4), some (.inl ((hI h3 o0 2) ||| (hI h3 o0 3))), some (.inl (nI 3))]) dX8_suits_68 rfl rfl ?_
        exact H
      · replace H := H.2 c7
        refine z_iconst (pc := 65) (v := (nI 0)) dX8_suits_65 (by decide) ?_
        exact z_iret (pc := 66) dX8_suits_66 rfl rfl ⟨_, rfl, H⟩
  · replace H := H.2 c2
    refine z_iconst (pc := 10) (v := (nI 0)) dX8_suits_10 (by decide) ?_
    exact z_iret (pc := 11) dX8_suits_11 rfl rfl ⟨_, rfl, H⟩

set_option maxRecDepth 20000 in
theorem bX8_suits_70 {l : Launch} {E : eE} {d bc bs : Nat} {h : aH} {Q : Int32 → aH → Prop} {o0 : Nat} {o1 : Nat} {o2 : Nat} {o3 : Nat} {x4 : Int32} {x5 : Int32} {x6 : Int32} (S : SH h) (g2 : isSh o2) (g3 : isBd o3) (H : (((nI 6) ≤ x6 → (CI l E d 0 0 mX8_isBehindChain [.inr (some (0, 8, o0)), .inr (some (0, 9, o1)), .inr (some (0, 10, o2)), .inr (some (0, 1, o3))] h (fun v2 h2 => SH h2 ∧ ((v2 = nI 0 ∨ v2 = nI 1) ∧ Q v2 h2)))) ∧ (¬ (nI 6) ≤ x6 → (∃ p3, (hR h o1 5) = some (1, 6, p3) ∧ (vp_in x6 6 ∧ (((hA h p3 (x6).toNatClampNeg) = 0 → LX8_suits_70 l E (d + 1) bc bs o0 o1 o2 o3 x4 x5 (x6 + (nI 1)) h Q) ∧ (¬ (hA h p3 (x6).toNatClampNeg) = 0 → ((¬ ((hA h p3 (x6).toNatClampNeg) &&& x5) = 0 → LX8_suits_70 l E (d + 1) bc bs o0 o1 o2 o3 x4 x5 (x6 + (nI 1)) h Q) ∧ (((hA h p3 (x6).toNatClampNeg) &&& x5) = 0 → Q (nI 0) h))))))))) : LX8_suits_70 l E (d + 1) bc bs o0 o1 o2 o3 x4 x5 x6 h Q := by
  refine z_iload (pc := 70) dX8_suits_70 rfl ?_
  refine z_bipush (pc := 72) (v := (nI 6)) dX8_suits_72 (by decide) ?_
  refine z_icmp_ge (pc := 74) (tgt := 108) dX8_suits_74 (by decide) (fun c1 => ?_) (fun c1 => ?_)
  · replace H := H.1 c1
    refine z_aload_n (pc := 108) dX8_suits_108 rfl rfl ?_
    refine z_aload_n (pc := 109) dX8_suits_109 rfl rfl ?_
    refine z_aload_n (pc := 110) dX8_suits_110 rfl rfl ?_
    refine z_aload_n (pc := 111) dX8_suits_111 rfl rfl ?_
    refine y_VI (pc := 112) (bc := bc) (bs := bs) (mc := 0) (ms := 0) (As := [.inr (some (0, 9, o1)), .inr (some (0, 10, o2)), .inr (some (0, 1, o3))]) (rest := []) dX8_suits_112 kX8_isBehindChain lX8_100 ⟨_, _, rfl⟩ rfl rfl (H.use (fun v2 h2 H => ?_))
    have S2 := H.1
    replace H := H.2
    exact z_iret (pc := 115) dX8_suits_115 rfl (by rcases H.1 with g | g <;> rw [g] <;> rfl) ⟨_, rfl, H.2⟩
  · replace H := H.2 c1
    refine z_aload_n (pc := 77) dX8_suits_77 rfl rfl ?_
    refine z_getr (pc := 78) dX8_suits_78 fX8_97 rfl ?_
    obtain ⟨p3, e3, H⟩ := H
    refine z_cast e3 ?_
    refine z_iload (pc := 81) dX8_suits_81 rfl ?_
    have c4 := H.1
    replace H := H.2
    refine z_iald (pc := 83) dX8_suits_83 c4 ?_
    refine z_if_eq (pc := 84) (tgt := 102) dX8_suits_84 (by decide) (fun c5 => ?_) (fun c5 => ?_)
    · replace H := H.1 c5
      refine z_iinc (pc := 102) (v := (x6 + (nI 1))) (ls' := [some (.inr (some (0, 8, o0))), some (.inr (some (0, 9, o1))), some (.inr (some (0, 10, o2))), some (.inr (some (0, 1, o3))), some (.inl x4), some (.inl x5), some (.inl (x6 + (nI 1)))]) dX8_suits_102 rfl (by rw [show Int32.ofInt (1) = (nI 1) by decide]) rfl ?_
      refine z_goto (pc := 105) (tgt := 70) dX8_suits_105 (by decide) ?_
      exact H
    · replace H := H.2 c5
      refine z_aload_n (pc := 87) dX8_suits_87 rfl rfl ?_
      refine z_getr (pc := 88) dX8_suits_88 fX8_97 rfl ?_
      refine z_cast e3 ?_
      refine z_iload (pc := 91) dX8_suits_91 rfl ?_
      refine z_iald (pc := 93) dX8_suits_93 c4 ?_
      refine z_iload (pc := 94) dX8_suits_94 rfl ?_
      refine z_iand (pc := 96) dX8_suits_96 ?_
      refine z_if_ne (pc := 97) (tgt := 102) dX8_suits_97 (by decide) (fun c6 => ?_) (fun c6 => ?_)
      · replace H := H.1 c6
        refine z_iinc (pc := 102) (v := (x6 + (nI 1))) (ls' := [some (.inr (some (0, 8, o0))), some (.inr (some (0, 9, o1))), some (.inr (some (0, 10, o2))), some (.inr (some (0, 1, o3))), some (.inl x4), some (.inl x5), some (.inl (x6 + (nI 1)))]) dX8_suits_102 rfl (by rw [show Int32.ofInt (1) = (nI 1) by decide]) rfl ?_
        refine z_goto (pc := 105) (tgt := 70) dX8_suits_105 (by decide) ?_
        exact H
      · replace H := H.2 c6
        refine z_iconst (pc := 100) (v := (nI 0)) dX8_suits_100 (by decide) ?_
        exact z_iret (pc := 101) dX8_suits_101 rfl rfl ⟨_, rfl, H⟩

set_option maxRecDepth 20000 in
theorem bX8_priceFor_0 {l : Launch} {E : eE} {d bc bs : Nat} {h : aH} {Q : Int32 → aH → Prop} {o0 : Nat} {o1 : Nat} {x2 : Int32} (S : SH h) (g1 : isSh o1) (H : (CI l E d 0 0 mX11_isIn [.inl (hI h o0 4), .inl x2] h (fun v1 h1 => SH h1 ∧ ((v1 = 0 → (CI l E d 0 0 mX11_isIn [.inl (hI h1 o0 5), .inl x2] h1 (fun v3 h3 => SH h3 ∧ ((v3 = 0 → Q (nI 0) h3) ∧ (¬ v3 = 0 → (vp_in (((hI h3 o0 1) * (nI 12)) + x2) 72 ∧ Q ((nI 0) + (hA h3 (o1 + 3) ((((hI h3 o0 1) * (nI 12)) + x2)).toNatClampNeg)) h3)))))) ∧ (¬ v1 = 0 → (vp_in (((hI h1 o0 0) * (nI 12)) + x2) 72 ∧ (CI l E d 0 0 mX11_isIn [.inl (hI h1 o0 5), .inl x2] h1 (fun v7 h7 => SH h7 ∧ ((v7 = 0 → Q (hA h1 (o1 + 3) ((((hI h1 o0 0) * (nI 12)) + x2)).toNatClampNeg) h7) ∧ (¬ v7 = 0 → (vp_in (((hI h7 o0 1) * (nI 12)) + x2) 72 ∧ Q ((hA h1 (o1 + 3) ((((hI h1 o0 0) * (nI 12)) + x2)).toNatClampNeg) + (hA h7 (o1 + 3) ((((hI h7 o0 1) * (nI 12)) + x2)).toNatClampNeg)) h7))))))))))) : CI l E (d + 1) bc bs mX8_priceFor [.inr (some (0, 8, o0)), .inr (some (0, 10, o1)), .inl x2] h Q := by
  refine CI.of (by decide) rfl ?_
  show TI l E mX8_priceFor (d + 1) bc bs 0 [some (.inr (some (0, 8, o0))), some (.inr (some (0, 10, o1))), some (.inl x2), none] [] h Q
  refine z_aload_n (pc := 0) dX8_priceFor_0 rfl rfl ?_
  refine z_geti (pc := 1) dX8_priceFor_1 fX8_45 rfl ?_
  refine z_iload_n (pc := 4) dX8_priceFor_4 rfl rfl ?_
  refine y_NI (pc := 5) (bc := bc) (bs := bs) (mc := 0) (ms := 0) (As := [.inl (hI h o0 4), .inl x2]) (rest := []) dX8_priceFor_5 kX11_isIn lX8_69 rfl rfl (H.use (fun v1 h1 H => ?_))
  have S1 := H.1
  replace H := H.2
  refine z_if_eq (pc := 8) (tgt := 28) dX8_priceFor_8 (by decide) (fun c2 => ?_) (fun c2 => ?_)
  · replace H := H.1 c2
    refine z_iconst (pc := 28) (v := (nI 0)) dX8_priceFor_28 (by decide) ?_
    refine z_istore_n (pc := 29) (ls' := [some (.inr (some (0, 8, o0))), some (.inr (some (0, 10, o1))), some (.inl x2), some (.inl (nI 0))]) dX8_priceFor_29 rfl rfl rfl ?_
    refine z_aload_n (pc := 30) dX8_priceFor_30 rfl rfl ?_
    refine z_geti (pc := 31) dX8_priceFor_31 fX8_48 rfl ?_
    refine z_iload_n (pc := 34) dX8_priceFor_34 rfl rfl ?_
    refine y_NI (pc := 35) (bc := bc) (bs := bs) (mc := 0) (ms := 0) (As := [.inl (hI h1 o0 5), .inl x2]) (rest := []) dX8_priceFor_35 kX11_isIn lX8_69 rfl rfl (H.use (fun v3 h3 H => ?_))
    have S3 := H.1
    replace H := H.2
    refine z_if_eq (pc := 38) (tgt := 60) dX8_priceFor_38 (by decide) (fun c4 => ?_) (fun c4 => ?_)
    · replace H := H.1 c4
      refine z_iload_n (pc := 60) dX8_priceFor_60 rfl rfl ?_
      exact z_iret (pc := 61) dX8_priceFor_61 rfl rfl ⟨_, rfl, H⟩
    · replace H := H.2 c4
      refine z_iload_n (pc := 41) dX8_priceFor_41 rfl rfl ?_
      refine z_aload_n (pc := 42) dX8_priceFor_42 rfl rfl ?_
      refine z_getk (pc := 43) dX8_priceFor_43 fX8_73 rfl (sS_2 S3 g1) ?_
      refine z_aload_n (pc := 46) dX8_priceFor_46 rfl rfl ?_
      refine z_geti (pc := 47) dX8_priceFor_47 fX8_24 rfl ?_
      refine z_bipush (pc := 50) (v := (nI 12)) dX8_priceFor_50 (by decide) ?_
      refine z_imul (pc := 52) dX8_priceFor_52 ?_
      refine z_iload_n (pc := 53) dX8_priceFor_53 rfl rfl ?_
      refine z_iadd (pc := 54) dX8_priceFor_54 ?_
      have c5 := H.1
      replace H := H.2
      refine z_iald (pc := 55) dX8_priceFor_55 c5 ?_
      refine z_iadd (pc := 56) dX8_priceFor_56 ?_
      refine z_goto (pc := 57) (tgt := 61) dX8_priceFor_57 (by decide) ?_
      exact z_iret (pc := 61) dX8_priceFor_61 rfl rfl ⟨_, rfl, H⟩
  · replace H := H.2 c2
    refine z_aload_n (pc := 11) dX8_priceFor_11 rfl rfl ?_
    refine z_getk (pc := 12) dX8_priceFor_12 fX8_73 rfl (sS_2 S1 g1) ?_
    refine z_aload_n (pc := 15) dX8_priceFor_15 rfl rfl ?_
    refine z_geti (pc := 16) dX8_priceFor_16 fX8_15 rfl ?_
    refine z_bipush (pc := 19) (v := (nI 12)) dX8_priceFor_19 (by decide) ?_
    refine z_imul (pc := 21) dX8_priceFor_21 ?_
    refine z_iload_n (pc := 22) dX8_priceFor_22 rfl rfl ?_
    refine z_iadd (pc := 23) dX8_priceFor_23 ?_
    have c6 := H.1
    replace H := H.2
    refine z_iald (pc := 24) dX8_priceFor_24 c6 ?_
    refine z_goto (pc := 25) (tgt := 29) dX8_priceFor_25 (by decide) ?_
    refine z_istore_n (pc := 29) (ls' := [some (.inr (some (0, 8, o0))), some (.inr (some (0, 10, o1))), some (.inl x2), some (.inl (hA h1 (o1 + 3) ((((hI h1 o0 0) * (nI 12)) + x2)).toNatClampNeg))]) dX8_priceFor_29 rfl rfl rfl ?_
    refine z_aload_n (pc := 30) dX8_priceFor_30 rfl rfl ?_
    refine z_geti (pc := 31) dX8_priceFor_31 fX8_48 rfl ?_
    refine z_iload_n (pc := 34) dX8_priceFor_34 rfl rfl ?_
    refine y_NI (pc := 35) (bc := bc) (bs := bs) (mc := 0) (ms := 0) (As := [.inl (hI h1 o0 5), .inl x2]) (rest := []) dX8_priceFor_35 kX11_isIn lX8_69 rfl rfl (H.use (fun v7 h7 H => ?_))
    have S7 := H.1
    replace H := H.2
    refine z_if_eq (pc := 38) (tgt := 60) dX8_priceFor_38 (by decide) (fun c8 => ?_) (fun c8 => ?_)
    · replace H := H.1 c8
      refine z_iload_n (pc := 60) dX8_priceFor_60 rfl rfl ?_
      exact z_iret (pc := 61) dX8_priceFor_61 rfl rfl ⟨_, rfl, H⟩
    · replace H := H.2 c8
      refine z_iload_n (pc := 41) dX8_priceFor_41 rfl rfl ?_
      refine z_aload_n (pc := 42) dX8_priceFor_42 rfl rfl ?_
      refine z_getk (pc := 43) dX8_priceFor_43 fX8_73 rfl (sS_2 S7 g1) ?_
      refine z_aload_n (pc := 46) dX8_priceFor_46 rfl rfl ?_
      refine z_geti (pc := 47) dX8_priceFor_47 fX8_24 rfl ?_
      refine z_bipush (pc := 50) (v := (nI 12)) dX8_priceFor_50 (by decide) ?_
      refine z_imul (pc := 52) dX8_priceFor_52 ?_
      refine z_iload_n (pc := 53) dX8_priceFor_53 rfl rfl ?_
      refine z_iadd (pc := 54) dX8_priceFor_54 ?_
      have c9 := H.1
      replace H := H.2
      refine z_iald (pc := 55) dX8_priceFor_55 c9 ?_
      refine z_iadd (pc := 56) dX8_priceFor_56 ?_
      refine z_goto (pc := 57) (tgt := 61) dX8_priceFor_57 (by decide) ?_
      exact z_iret (pc := 61) dX8_priceFor_61 rfl rfl ⟨_, rfl, H⟩

abbrev LX5_charge_2 (l : Launch) (E : eE) (d bc bs : Nat) (x1 : Int32) (x2 : Int32) (x3 : Int32) (h : aH) (Q : aH → Prop) : Prop := TV l E mX5_charge d bc bs 2 [some (.inr (some (0, 5, 39))), some (.inl x1), some (.inl x2), some (.inl x3)] [] h Q

set_option maxRecDepth 20000 in
theorem bX5_charge_0 {l : Launch} {E : eE} {d bc bs : Nat} {h : aH} {Q : aH → Prop} {x1 : Int32} {x2 : Int32} (S : SH h) (H : LX5_charge_2 l E (d + 1) bc bs x1 x2 (nI 0) h Q) : CV l E (d + 1) bc bs mX5_charge [.inr (some (0, 5, 39)), .inl x1, .inl x2] h Q := by
  refine CV.of (by decide) rfl ?_
  show TV l E mX5_charge (d + 1) bc bs 0 [some (.inr (some (0, 5, 39))), some (.inl x1), some (.inl x2), none] [] h Q
  refine z_iconst (pc := 0) (v := (nI 0)) dX5_charge_0 (by decide) ?_
  refine z_istore_n (pc := 1) (ls' := [some (.inr (some (0, 5, 39))), some (.inl x1), some (.inl x2), some (.inl (nI 0))]) dX5_charge_1 rfl rfl rfl ?_
  exact H

set_option maxRecDepth 20000 in
theorem bX5_charge_2 {l : Launch} {E : eE} {d bc bs : Nat} {h : aH} {Q : aH → Prop} {x1 : Int32} {x2 : Int32} {x3 : Int32} (S : SH h) (H : (((hI h 39 10) ≤ x3 → Q h) ∧ (¬ (hI h 39 10) ≤ x3 → (vp_in x3 12 ∧ (vp_in x1 4 ∧ (∃ p4, (hQ h 50 (x1).toNatClampNeg) = some (0, 8, p4) ∧ (∃ p6, (hQ h 49 (x1).toNatClampNeg) = some (0, 10, p6) ∧ isSh p6 ∧ (CI l E d 0 0 mX8_priceFor [.inr (some (0, 8, p4)), .inr (some (0, 10, p6)), .inl x3] h (fun v7 h7 => SH h7 ∧ LX5_charge_2 l E (d + 1) bc bs x1 x2 (x3 + (nI 1)) (stA h7 54 (x3).toNatClampNeg ((hA h 54 (x3).toNatClampNeg) + (x2 * v7))) Q))))))))) : LX5_charge_2 l E (d + 1) bc bs x1 x2 x3 h Q := by
  refine z_iload_n (pc := 2) dX5_charge_2 rfl rfl ?_
  refine z_aload_n (pc := 3) dX5_charge_3 rfl rfl ?_
  refine z_geti (pc := 4) dX5_charge_4 fX5_63 rfl ?_
  refine z_icmp_ge (pc := 7) (tgt := 43) dX5_charge_7 (by decide) (fun c1 => ?_) (fun c1 => ?_)
  · replace H := H.1 c1
    exact z_ret (pc := 43) dX5_charge_43 rfl ⟨rfl, H⟩
  · replace H := H.2 c1
    refine z_aload_n (pc := 10) dX5_charge_10 rfl rfl ?_
    refine z_getk (pc := 11) dX5_charge_11 fX5_53 rfl (s_39_8 S) ?_
    refine z_iload_n (pc := 14) dX5_charge_14 rfl rfl ?_
    refine z_dup2 (pc := 15) dX5_charge_15 ?_
    have c2 := H.1
    replace H := H.2
    refine z_iald (pc := 16) dX5_charge_16 c2 ?_
    refine z_iload_n (pc := 17) dX5_charge_17 rfl rfl ?_
    refine z_aload_n (pc := 18) dX5_charge_18 rfl rfl ?_
    refine z_getk (pc := 19) dX5_charge_19 fX5_39 rfl (s_39_4 S) ?_
    refine z_iload_n (pc := 22) dX5_charge_22 rfl rfl ?_
    have c3 := H.1
    replace H := H.2
    refine z_aald (pc := 23) dX5_charge_23 rfl rfl rfl c3 ?_
    obtain ⟨p4, e4, H⟩ := H
    refine z_cast e4 ?_
    refine z_aload_n (pc := 24) dX5_charge_24 rfl rfl ?_
    refine z_getk (pc := 25) dX5_charge_25 fX5_33 rfl (s_39_3 S) ?_
    refine z_iload_n (pc := 28) dX5_charge_28 rfl rfl ?_
    refine z_aald (pc := 29) dX5_charge_29 rfl rfl rfl c3 ?_
    obtain ⟨p6, e6, gp6, H⟩ := H
    refine z_cast e6 ?_
    refine z_iload_n (pc := 30) dX5_charge_30 rfl rfl ?_
    refine y_VI (pc := 31) (bc := bc) (bs := bs) (mc := 0) (ms := 0) (As := [.inr (some (0, 10, p6)), .inl x3]) (rest := [.inl x2, .inl (hA h 54 (x3).toNatClampNeg), .inl x3, .inr (some (1, 12, 54))]) dX5_charge_31 kX8_priceFor lX5_127 ⟨_, _, rfl⟩ rfl rfl (H.use (fun v7 h7 H => ?_))
    have S7 := H.1
    replace H := H.2
    refine z_imul (pc := 34) dX5_charge_34 ?_
    refine z_iadd (pc := 35) dX5_charge_35 ?_
    refine z_iast (pc := 36) dX5_charge_36 c2 ?_
    refine z_iinc (pc := 37) (v := (x3 + (nI 1))) (ls' := [some (.inr (some (0, 5, 39))), some (.inl x1), some (.inl x2), some (.inl (x3 + (nI 1)))]) dX5_charge_37 rfl (by rw [show Int32.ofInt (1) = (nI 1) by decide]) rfl ?_
    refine z_goto (pc := 40) (tgt := 2) dX5_charge_40 (by decide) ?_
    exact H

set_option maxRecDepth 20000 in
theorem bX5_searchBehind_0 {l : Launch} {E : eE} {d bc bs : Nat} {h : aH} {Q : aH → Prop} {x1 : Int32} {x2 : Int32} (S : SH h) (H : (vp_in x1 4 ∧ (∃ p2, (hQ h 48 (x1).toNatClampNeg) = some (0, 9, p2) ∧ (∃ p4, (hQ h 49 (x1).toNatClampNeg) = some (0, 10, p4) ∧ isSh p4 ∧ (∃ p6, (hQ h 50 (x1).toNatClampNeg) = some (0, 8, p6) ∧ (CV l E d 0 0 mX1_put [.inr (some (0, 1, 43)), .inr (some (0, 9, p2)), .inr (some (0, 10, p4)), .inr (some (0, 8, p6))] h (fun h7 => SH h7 ∧ (CV l E d 0 0 mX5_charge [.inr (some (0, 5, 39)), .inl x1, .inl (nI 1)] h7 (fun h8 => SH h8 ∧ (CV l E d 0 0 mX5_search [.inr (some (0, 5, 39)), .inl (x1 + (nI 1)), .inl x2] h8 (fun h9 => SH h9 ∧ (CV l E d 0 0 mX5_charge [.inr (some (0, 5, 39)), .inl x1, .inl (-1)] h9 (fun h10 => SH h10 ∧ Q (stI h10 43 4 (hI h 43 4))))))))))))))) : CV l E (d + 1) bc bs mX5_searchBehind [.inr (some (0, 5, 39)), .inl x1, .inl x2] h Q := by
  refine CV.of (by decide) rfl ?_
  show TV l E mX5_searchBehind (d + 1) bc bs 0 [some (.inr (some (0, 5, 39))), some (.inl x1), some (.inl x2), none] [] h Q
  refine z_aload_n (pc := 0) dX5_searchBehind_0 rfl rfl ?_
  refine z_getk (pc := 1) dX5_searchBehind_1 fX5_21 rfl (s_39_1 S) ?_
  refine z_geti (pc := 4) dX5_searchBehind_4 fX5_119 rfl ?_
  refine z_istore_n (pc := 7) (ls' := [some (.inr (some (0, 5, 39))), some (.inl x1), some (.inl x2), some (.inl (hI h 43 4))]) dX5_searchBehind_7 rfl rfl rfl ?_
  refine z_aload_n (pc := 8) dX5_searchBehind_8 rfl rfl ?_
  refine z_getk (pc := 9) dX5_searchBehind_9 fX5_21 rfl (s_39_1 S) ?_
  refine z_aload_n (pc := 12) dX5_searchBehind_12 rfl rfl ?_
  refine z_getk (pc := 13) dX5_searchBehind_13 fX5_27 rfl (s_39_2 S) ?_
  refine z_iload_n (pc := 16) dX5_searchBehind_16 rfl rfl ?_
  have c1 := H.1
  replace H := H.2
  refine z_aald (pc := 17) dX5_searchBehind_17 rfl rfl rfl c1 ?_
  obtain ⟨p2, e2, H⟩ := H
  refine z_cast e2 ?_
  refine z_aload_n (pc := 18) dX5_searchBehind_18 rfl rfl ?_
  refine z_getk (pc := 19) dX5_searchBehind_19 fX5_33 rfl (s_39_3 S) ?_
  refine z_iload_n (pc := 22) dX5_searchBehind_22 rfl rfl ?_
  refine z_aald (pc := 23) dX5_searchBehind_23 rfl rfl rfl c1 ?_
  obtain ⟨p4, e4, gp4, H⟩ := H
  refine z_cast e4 ?_
  refine z_aload_n (pc := 24) dX5_searchBehind_24 rfl rfl ?_
  refine z_getk (pc := 25) dX5_searchBehind_25 fX5_39 rfl (s_39_4 S) ?_
  refine z_iload_n (pc := 28) dX5_searchBehind_28 rfl rfl ?_
  refine z_aald (pc := 29) dX5_searchBehind_29 rfl rfl rfl c1 ?_
  obtain ⟨p6, e6, H⟩ := H
  refine z_cast e6 ?_
  refine y_VV (pc := 30) (bc := bc) (bs := bs) (mc := 0) (ms := 0) (As := [.inr (some (0, 9, p2)), .inr (some (0, 10, p4)), .inr (some (0, 8, p6))]) (rest := []) dX5_searchBehind_30 kX1_put lX5_120 ⟨_, _, rfl⟩ rfl rfl (H.use (fun h7 H => ?_))
  have S7 := H.1
  replace H := H.2
  refine z_aload_n (pc := 33) dX5_searchBehind_33 rfl rfl ?_
  refine z_iload_n (pc := 34) dX5_searchBehind_34 rfl rfl ?_
  refine z_iconst (pc := 35) (v := (nI 1)) dX5_searchBehind_35 (by decide) ?_
  refine y_VV (pc := 36) (bc := bc) (bs := bs) (mc := 0) (ms := 0) (As := [.inl x1, .inl (nI 1)]) (rest := []) dX5_searchBehind_36 kX5_charge lX5_124 ⟨_, _, rfl⟩ rfl rfl (H.use (fun h8 H => ?_))
  have S8 := H.1
  replace H := H.2
  refine z_aload_n (pc := 39) dX5_searchBehind_39 rfl rfl ?_
  refine z_iload_n (pc := 40) dX5_searchBehind_40 rfl rfl ?_
  refine z_iconst (pc := 41) (v := (nI 1)) dX5_searchBehind_41 (by decide) ?_
  refine z_iadd (pc := 42) dX5_searchBehind_42 ?_
  refine z_iload_n (pc := 43) dX5_searchBehind_43 rfl rfl ?_
  refine y_VV (pc := 44) (bc := bc) (bs := bs) (mc := 0) (ms := 0) (As := [.inl (x1 + (nI 1)), .inl x2]) (rest := []) dX5_searchBehind_44 kX5_search lX5_83 ⟨_, _, rfl⟩ rfl rfl (H.use (fun h9 H => ?_))
  have S9 := H.1
  replace H := H.2
  refine z_aload_n (pc := 47) dX5_searchBehind_47 rfl rfl ?_
  refine z_iload_n (pc := 48) dX5_searchBehind_48 rfl rfl ?_
  refine z_iconst (pc := 49) (v := (-1)) dX5_searchBehind_49 (by decide) ?_
  refine y_VV (pc := 50) (bc := bc) (bs := bs) (mc := 0) (ms := 0) (As := [.inl x1, .inl (-1)]) (rest := []) dX5_searchBehind_50 kX5_charge lX5_124 ⟨_, _, rfl⟩ rfl rfl (H.use (fun h10 H => ?_))
  have S10 := H.1
  replace H := H.2
  refine z_aload_n (pc := 53) dX5_searchBehind_53 rfl rfl ?_
  refine z_getk (pc := 54) dX5_searchBehind_54 fX5_21 rfl (s_39_1 S10) ?_
  refine z_iload_n (pc := 57) dX5_searchBehind_57 rfl rfl ?_
  refine z_puti (pc := 58) dX5_searchBehind_58 fX5_119 (uX1_4 _) rfl rfl rfl ?_
  exact z_ret (pc := 61) dX5_searchBehind_61 rfl ⟨rfl, H⟩

abbrev LX5_search_54 (l : Launch) (E : eE) (d bc bs : Nat) (x1 : Int32) (x2 : Int32) (x3 : Int32) (h : aH) (Q : aH → Prop) : Prop := TV l E mX5_search d bc bs 54 [some (.inr (some (0, 5, 39))), some (.inl x1), some (.inl x2), some (.inl x3), none] [] h Q

set_option maxRecDepth 20000 in
theorem bX5_search_0 {l : Launch} {E : eE} {d bc bs : Nat} {h : aH} {Q : aH → Prop} {x1 : Int32} {x2 : Int32} (S : SH h) (H : (CI l E d 0 0 mX2_isBetter [.inr (some (0, 2, 40)), .inr (some (1, 12, 54))] h (fun v1 h1 => SH h1 ∧ ((¬ v1 = 0 → ((x1 < (hI h1 39 9) → LX5_search_54 l E (d + 1) bc bs x1 x2 (nI 0) h1 Q) ∧ (¬ x1 < (hI h1 39 9) → (CV l E d 0 0 mX2_keep [.inr (some (0, 2, 40)), .inr (some (1, 12, 54))] h1 (fun h4 => SH h4 ∧ (¬ (nI 0) < 0 ∧ ¬ (nI 0) < 0 ∧ ¬ (hI h4 39 9) < 0 ∧ ((nI 0)).toNatClampNeg + ((hI h4 39 9)).toNatClampNeg ≤ 4 ∧ ((nI 0)).toNatClampNeg + ((hI h4 39 9)).toNatClampNeg ≤ 4 ∧ Q (stAA h4 53 (va_cpy (hA h4 52) (hA h4 53) ((nI 0)).toNatClampNeg ((nI 0)).toNatClampNeg ((hI h4 39 9)).toNatClampNeg)))))))) ∧ (v1 = 0 → Q h1))))) : CV l E (d + 1) bc bs mX5_search [.inr (some (0, 5, 39)), .inl x1, .inl x2] h Q := by
  refine CV.of (by decide) rfl ?_
  show TV l E mX5_search (d + 1) bc bs 0 [some (.inr (some (0, 5, 39))), some (.inl x1), some (.inl x2), none, none] [] h Q
  refine z_aload_n (pc := 0) dX5_search_0 rfl rfl ?_
  refine z_getk (pc := 1) dX5_search_1 fX5_12 rfl (s_39_0 S) ?_
  refine z_aload_n (pc := 4) dX5_search_4 rfl rfl ?_
  refine z_getk (pc := 5) dX5_search_5 fX5_53 rfl (s_39_8 S) ?_
  refine y_VI (pc := 8) (bc := bc) (bs := bs) (mc := 0) (ms := 0) (As := [.inr (some (1, 12, 54))]) (rest := []) dX5_search_8 kX2_isBetter lX5_94 ⟨_, _, rfl⟩ rfl rfl (H.use (fun v1 h1 H => ?_))
  have S1 := H.1
  replace H := H.2
  refine z_if_ne (pc := 11) (tgt := 15) dX5_search_11 (by decide) (fun c2 => ?_) (fun c2 => ?_)
  · replace H := H.1 c2
    refine z_iload_n (pc := 15) dX5_search_15 rfl rfl ?_
    refine z_aload_n (pc := 16) dX5_search_16 rfl rfl ?_
    refine z_geti (pc := 17) dX5_search_17 fX5_67 rfl ?_
    refine z_icmp_lt (pc := 20) (tgt := 52) dX5_search_20 (by decide) (fun c3 => ?_) (fun c3 => ?_)
    · replace H := H.1 c3
      refine z_iconst (pc := 52) (v := (nI 0)) dX5_search_52 (by decide) ?_
      refine z_istore_n (pc := 53) (ls' := [some (.inr (some (0, 5, 39))), some (.inl x1), some (.inl x2), some (.inl (nI 0)), none]) dX5_search_53 rfl rfl rfl ?_
      exact H
    · replace H := H.2 c3
      refine z_aload_n (pc := 23) dX5_search_23 rfl rfl ?_
      refine z_getk (pc := 24) dX5_search_24 fX5_12 rfl (s_39_0 S1) ?_
      refine z_aload_n (pc := 27) dX5_search_27 rfl rfl ?_
      refine z_getk (pc := 28) dX5_search_28 fX5_53 rfl (s_39_8 S1) ?_
      refine y_VV (pc := 31) (bc := bc) (bs := bs) (mc := 0) (ms := 0) (As := [.inr (some (1, 12, 54))]) (rest := []) dX5_search_31 kX2_keep lX5_98 ⟨_, _, rfl⟩ rfl rfl (H.use (fun h4 H => ?_))
      have S4 := H.1
      replace H := H.2
      refine z_aload_n (pc := 34) dX5_search_34 rfl rfl ?_
      refine z_getk (pc := 35) dX5_search_35 fX5_47 rfl (s_39_6 S4) ?_
      refine z_iconst (pc := 38) (v := (nI 0)) dX5_search_38 (by decide) ?_
      refine z_aload_n (pc := 39) dX5_search_39 rfl rfl ?_
      refine z_getk (pc := 40) dX5_search_40 fX5_50 rfl (s_39_7 S4) ?_
      refine z_iconst (pc := 43) (v := (nI 0)) dX5_search_43 (by decide) ?_
      refine z_aload_n (pc := 44) dX5_search_44 rfl rfl ?_
      refine z_geti (pc := 45) dX5_search_45 fX5_67 rfl ?_
      obtain ⟨w1, w2, w3, w4, w5, H⟩ := H
      refine z_copy (pc := 48) dX5_search_48 lX5_102 w1 w2 w3 w4 w5 rfl ?_
      exact z_ret (pc := 51) dX5_search_51 rfl ⟨rfl, H⟩
  · replace H := H.2 c2
    exact z_ret (pc := 14) dX5_search_14 rfl ⟨rfl, H⟩

set_option maxRecDepth 20000 in
theorem bX5_search_54 {l : Launch} {E : eE} {d bc bs : Nat} {h : aH} {Q : aH → Prop} {x1 : Int32} {x2 : Int32} {x3 : Int32} (S : SH h) (H : (vp_in x1 4 ∧ (∃ p2, (hQ h 48 (x1).toNatClampNeg) = some (0, 9, p2) ∧ (CI l E d 0 0 mX9_choices [.inr (some (0, 9, p2))] h (fun v3 h3 => SH h3 ∧ ((v3 ≤ x3 → Q h3) ∧ (¬ v3 ≤ x3 → ((¬ x3 = (hA h3 51 (x1).toNatClampNeg) → (((x2 - (nI 1)) < 0 → LX5_search_54 l E (d + 1) bc bs x1 x2 (x3 + (nI 1)) h3 Q) ∧ (¬ (x2 - (nI 1)) < 0 → ((((hI h3 39 9) - x1) ≤ (x2 - (nI 1)) → LX5_search_54 l E (d + 1) bc bs x1 x2 (x3 + (nI 1)) h3 Q) ∧ (¬ ((hI h3 39 9) - x1) ≤ (x2 - (nI 1)) → (∃ p9, (hQ h3 50 (x1).toNatClampNeg) = some (0, 8, p9) ∧ (∃ p11, (hQ h3 48 (x1).toNatClampNeg) = some (0, 9, p11) ∧ (∃ p13, (hQ h3 49 (x1).toNatClampNeg) = some (0, 10, p13) ∧ isSh p13 ∧ (CI l E d 0 0 mX8_suits [.inr (some (0, 8, p9)), .inr (some (0, 9, p11)), .inr (some (0, 10, p13)), .inr (some (0, 1, 43)), .inl x3] h3 (fun v14 h14 => SH h14 ∧ ((v14 = 0 → LX5_search_54 l E (d + 1) bc bs x1 x2 (x3 + (nI 1)) h14 Q) ∧ (¬ v14 = 0 → (CV l E d 0 0 mX5_searchBehind [.inr (some (0, 5, 39)), .inl x1, .inl (x2 - (nI 1))] (stA h14 52 (x1).toNatClampNeg x3) (fun h16 => SH h16 ∧ LX5_search_54 l E (d + 1) bc bs x1 x2 (x3 + (nI 1)) h16 Q)))))))))))))) ∧ (x3 = (hA h3 51 (x1).toNatClampNeg) → ((x2 < 0 → LX5_search_54 l E (d + 1) bc bs x1 x2 (x3 + (nI 1)) h3 Q) ∧ (¬ x2 < 0 → ((((hI h3 39 9) - x1) ≤ x2 → LX5_search_54 l E (d + 1) bc bs x1 x2 (x3 + (nI 1)) h3 Q) ∧ (¬ ((hI h3 39 9) - x1) ≤ x2 → (∃ p20, (hQ h3 50 (x1).toNatClampNeg) = some (0, 8, p20) ∧ (∃ p22, (hQ h3 48 (x1).toNatClampNeg) = some (0, 9, p22) ∧ (∃ p24, (hQ h3 49 (x1).toNatClampNeg) = some (0, 10, p24) ∧ isSh p24 ∧ (CI l E d 0 0 mX8_suits [.inr (some (0, 8, p20)), .inr (some (0, 9, p22)), .inr (some (0, 10, p24)), .inr (some (0, 1, 43)), .inl x3] h3 (fun v25 h25 => SH h25 ∧ ((v25 = 0 → LX5_search_54 l E (d + 1) bc bs x1 x2 (x3 + (nI 1)) h25 Q) ∧ (¬ v25 = 0 → (CV l E d 0 0 mX5_searchBehind [.inr (some (0, 5, 39)), .inl x1, .inl x2] (stA h25 52 (x1).toNatClampNeg x3) (fun h27 => SH h27 ∧ LX5_search_54 l E (d + 1) bc bs x1 x2 (x3 + (nI 1)) h27 Q)))))))))))))))))))))) : LX5_search_54 l E (d + 1) bc bs x1 x2 x3 h Q := by
  refine z_iload_n (pc := 54) dX5_search_54 rfl rfl ?_
  refine z_aload_n (pc := 55) dX5_search_55 rfl rfl ?_
  refine z_getk (pc := 56) dX5_search_56 fX5_27 rfl (s_39_2 S) ?_
  refine z_iload_n (pc := 59) dX5_search_59 rfl rfl ?_
  have c1 := H.1
  replace H := H.2
  refine z_aald (pc := 60) dX5_search_60 rfl rfl rfl c1 ?_
  obtain ⟨p2, e2, H⟩ := H
  refine z_cast e2 ?_
  refine y_VI (pc := 61) (bc := bc) (bs := bs) (mc := 0) (ms := 0) (As := []) (rest := [.inl x3]) dX5_search_61 kX9_choices lX5_108 ⟨_, _, rfl⟩ rfl rfl (H.use (fun v3 h3 H => ?_))
  have S3 := H.1
  replace H := H.2
  refine z_icmp_ge (pc := 64) (tgt := 151) dX5_search_64 (by decide) (fun c4 => ?_) (fun c4 => ?_)
  · replace H := H.1 c4
    exact z_ret (pc := 151) dX5_search_151 rfl ⟨rfl, H⟩
  · replace H := H.2 c4
    refine z_iload_n (pc := 67) dX5_search_67 rfl rfl ?_
    refine z_aload_n (pc := 68) dX5_search_68 rfl rfl ?_
    refine z_getk (pc := 69) dX5_search_69 fX5_43 rfl (s_39_5 S3) ?_
    refine z_iload_n (pc := 72) dX5_search_72 rfl rfl ?_
    refine z_iald (pc := 73) dX5_search_73 c1 ?_
    refine z_icmp_ne (pc := 74) (tgt := 81) dX5_search_74 (by decide) (fun c5 => ?_) (fun c5 => ?_)
    · replace H := H.1 c5
      refine z_iload_n (pc := 81) dX5_search_81 rfl rfl ?_
      refine z_iconst (pc := 82) (v := (nI 1)) dX5_search_82 (by decide) ?_
      refine z_isub (pc := 83) dX5_search_83 ?_
      refine z_istore (pc := 84) (ls' := [some (.inr (some (0, 5, 39))), some (.inl x1), some (.inl x2), some (.inl x3), some (.inl (x2 - (nI 1)))]) dX5_search_84 rfl rfl ?_
      refine z_iload (pc := 86) dX5_search_86 rfl ?_
      refine z_if_lt (pc := 88) (tgt := 145) dX5_search_88 (by decide) (fun c6 => ?_) (fun c6 => ?_)
      · replace H := H.1 c6
        refine z_iinc (pc := 145) (v := (x3 + (nI 1))) (ls' := [some (.inr (some (0, 5, 39))), some (.inl x1), some (.inl x2), some (.inl (x3 + (nI 1))), some (.inl (x2 - (nI 1)))]) dX5_search_145 rfl (by rw [show Int32.ofInt (1) = (nI 1) by decide]) rfl ?_
        refine z_goto (pc := 148) (tgt := 54) dX5_search_148 (by decide) ?_
        exact z_drop (ls' := [some (.inr (some (0, 5, 39))), some (.inl x1), some (.inl x2), some (.inl (x3 + (nI 1))), none]) (by simp [dropL]) H
      · replace H := H.2 c6
        refine z_iload (pc := 91) dX5_search_91 rfl ?_
        refine z_aload_n (pc := 93) dX5_search_93 rfl rfl ?_
        refine z_geti (pc := 94) dX5_search_94 fX5_67 rfl ?_
        refine z_iload_n (pc := 97) dX5_search_97 rfl rfl ?_
        refine z_isub (pc := 98) dX5_search_98 ?_
        refine z_icmp_ge (pc := 99) (tgt := 145) dX5_search_99 (by decide) (fun c7 => ?_) (fun c7 => ?_)
        · replace H := H.1 c7
          refine z_iinc (pc := 145) (v := (x3 + (nI 1))) (ls' := [some (.inr (some (0, 5, 39))), some (.inl x1), some (.inl x2), some (.inl (x3 + (nI 1))), some (.inl (x2 - (nI 1)))]) dX5_search_145 rfl (by rw [show Int32.ofInt (1) = (nI 1) by decide]) rfl ?_
          refine z_goto (pc := 148) (tgt := 54) dX5_search_148 (by decide) ?_
          exact z_drop (ls' := [some (.inr (some (0, 5, 39))), some (.inl x1), some (.inl x2), some (.inl (x3 + (nI 1))), none]) (by simp [dropL]) H
        · replace H := H.2 c7
          refine z_aload_n (pc := 102) dX5_search_102 rfl rfl ?_
          refine z_getk (pc := 103) dX5_search_103 fX5_39 rfl (s_39_4 S3) ?_
          refine z_iload_n (pc := 106) dX5_search_106 rfl rfl ?_
          refine z_aald (pc := 107) dX5_search_107 rfl rfl rfl c1 ?_
          obtain ⟨p9, e9, H⟩ := H
          refine z_cast e9 ?_
          refine z_aload_n (pc := 108) dX5_search_108 rfl rfl ?_
          refine z_getk (pc := 109) dX5_search_109 fX5_27 rfl (s_39_2 S3) ?_
          refine z_iload_n (pc := 112) dX5_search_112 rfl rfl ?_
          refine z_aald (pc := 113) dX5_search_113 rfl rfl rfl c1 ?_
          obtain ⟨p11, e11, H⟩ := H
          refine z_cast e11 ?_
          refine z_aload_n (pc := 114) dX5_search_114 rfl rfl ?_
          refine z_getk (pc := 115) dX5_search_115 fX5_33 rfl (s_39_3 S3) ?_
          refine z_iload_n (pc := 118) dX5_search_118 rfl rfl ?_
          refine z_aald (pc := 119) dX5_search_119 rfl rfl rfl c1 ?_
          obtain ⟨p13, e13, gp13, H⟩ := H
          refine z_cast e13 ?_
          refine z_aload_n (pc := 120) dX5_search_120 rfl rfl ?_
          refine z_getk (pc := 121) dX5_search_121 fX5_21 rfl (s_39_1 S3) ?_
          refine z_iload_n (pc := 124) dX5_search_124 rfl rfl ?_
          refine y_VI (pc := 125) (bc := bc) (bs := bs) (mc := 0) (ms := 0) (As := [.inr (some (0, 9, p11)), .inr (some (0, 10, p13)), .inr (some (0, 1, 43)), .inl x3]) (rest := []) dX5_search_125 kX8_suits lX5_112 ⟨_, _, rfl⟩ rfl rfl (H.use (fun v14 h14 H => ?_))
          have S14 := H.1
          replace H := H.2
          refine z_if_eq (pc := 128) (tgt := 145) dX5_search_128 (by decide) (fun c15 => ?_) (fun c15 => ?_)
          · replace H := H.1 c15
            refine z_iinc (pc := 145) (v := (x3 + (nI 1))) (ls' := [some (.inr (some (0, 5, 39))), some (.inl x1), some (.inl x2), some (.inl (x3 + (nI 1))), some (.inl (x2 - (nI 1)))]) dX5_search_145 rfl (by rw [show Int32.ofInt (1) = (nI 1) by decide]) rfl ?_
            refine z_goto (pc := 148) (tgt := 54) dX5_search_148 (by decide) ?_
            exact z_drop (ls' := [some (.inr (some (0, 5, 39))), some (.inl x1), some (.inl x2), some (.inl (x3 + (nI 1))), none]) (by simp [dropL]) H
          · replace H := H.2 c15
            refine z_aload_n (pc := 131) dX5_search_131 rfl rfl ?_
            refine z_getk (pc := 132) dX5_search_132 fX5_47 rfl (s_39_6 S14) ?_
            refine z_iload_n (pc := 135) dX5_search_135 rfl rfl ?_
            refine z_iload_n (pc := 136) dX5_search_136 rfl rfl ?_
            refine z_iast (pc := 137) dX5_search_137 c1 ?_
            refine z_aload_n (pc := 138) dX5_search_138 rfl rfl ?_
            refine z_iload_n (pc := 139) dX5_search_139 rfl rfl ?_
            refine z_iload (pc := 140) dX5_search_140 rfl ?_
            refine y_VV (pc := 142) (bc := bc) (bs := bs) (mc := 0) (ms := 0) (As := [.inl x1, .inl (x2 - (nI 1))]) (rest := []) dX5_search_142 kX5_searchBehind lX5_116 ⟨_, _, rfl⟩ rfl rfl (H.use (fun h16 H => ?_))
            have S16 := H.1
            replace H := H.2
            refine z_iinc (pc := 145) (v := (x3 + (nI 1))) (ls' := [some (.inr (some (0, 5, 39))), some (.inl x1), some (.inl x2), some (.inl (x3 + (nI 1))), some (.inl (x2 - (nI 1)))]) dX5_search_145 rfl (by rw [show Int32.ofInt (1) = (nI 1) by decide]) rfl ?_
            refine z_goto (pc := 148) (tgt := 54) dX5_search_148 (by decide) ?_
            exact z_drop (ls' := [some (.inr (some (0, 5, 39))), some (.inl x1), some (.inl x2), some (.inl (x3 + (nI 1))), none]) (by simp [dropL]) H
    · replace H := H.2 c5
      refine z_iload_n (pc := 77) dX5_search_77 rfl rfl ?_
      refine z_goto (pc := 78) (tgt := 84) dX5_search_78 (by decide) ?_
      refine z_istore (pc := 84) (ls' := [some (.inr (some (0, 5, 39))), some (.inl x1), some (.inl x2), some (.inl x3), some (.inl x2)]) dX5_search_84 rfl rfl ?_
      refine z_iload (pc := 86) dX5_search_86 rfl ?_
      refine z_if_lt (pc := 88) (tgt := 145) dX5_search_88 (by decide) (fun c17 => ?_) (fun c17 => ?_)
      · replace H := H.1 c17
        refine z_iinc (pc := 145) (v := (x3 + (nI 1))) (ls' := [some (.inr (some (0, 5, 39))), some (.inl x1), some (.inl x2), some (.inl (x3 + (nI 1))), some (.inl x2)]) dX5_search_145 rfl (by rw [show Int32.ofInt (1) = (nI 1) by decide]) rfl ?_
        refine z_goto (pc := 148) (tgt := 54) dX5_search_148 (by decide) ?_
        exact z_drop (ls' := [some (.inr (some (0, 5, 39))), some (.inl x1), some (.inl x2), some (.inl (x3 + (nI 1))), none]) (by simp [dropL]) H
      · replace H := H.2 c17
        refine z_iload (pc := 91) dX5_search_91 rfl ?_
        refine z_aload_n (pc := 93) dX5_search_93 rfl rfl ?_
        refine z_geti (pc := 94) dX5_search_94 fX5_67 rfl ?_
        refine z_iload_n (pc := 97) dX5_search_97 rfl rfl ?_
        refine z_isub (pc := 98) dX5_search_98 ?_
        refine z_icmp_ge (pc := 99) (tgt := 145) dX5_search_99 (by decide) (fun c18 => ?_) (fun c18 => ?_)
        · replace H := H.1 c18
          refine z_iinc (pc := 145) (v := (x3 + (nI 1))) (ls' := [some (.inr (some (0, 5, 39))), some (.inl x1), some (.inl x2), some (.inl (x3 + (nI 1))), some (.inl x2)]) dX5_search_145 rfl (by rw [show Int32.ofInt (1) = (nI 1) by decide]) rfl ?_
          refine z_goto (pc := 148) (tgt := 54) dX5_search_148 (by decide) ?_
          exact z_drop (ls' := [some (.inr (some (0, 5, 39))), some (.inl x1), some (.inl x2), some (.inl (x3 + (nI 1))), none]) (by simp [dropL]) H
        · replace H := H.2 c18
          refine z_aload_n (pc := 102) dX5_search_102 rfl rfl ?_
          refine z_getk (pc := 103) dX5_search_103 fX5_39 rfl (s_39_4 S3) ?_
          refine z_iload_n (pc := 106) dX5_search_106 rfl rfl ?_
          refine z_aald (pc := 107) dX5_search_107 rfl rfl rfl c1 ?_
          obtain ⟨p20, e20, H⟩ := H
          refine z_cast e20 ?_
          refine z_aload_n (pc := 108) dX5_search_108 rfl rfl ?_
          refine z_getk (pc := 109) dX5_search_109 fX5_27 rfl (s_39_2 S3) ?_
          refine z_iload_n (pc := 112) dX5_search_112 rfl rfl ?_
          refine z_aald (pc := 113) dX5_search_113 rfl rfl rfl c1 ?_
          obtain ⟨p22, e22, H⟩ := H
          refine z_cast e22 ?_
          refine z_aload_n (pc := 114) dX5_search_114 rfl rfl ?_
          refine z_getk (pc := 115) dX5_search_115 fX5_33 rfl (s_39_3 S3) ?_
          refine z_iload_n (pc := 118) dX5_search_118 rfl rfl ?_
          refine z_aald (pc := 119) dX5_search_119 rfl rfl rfl c1 ?_
          obtain ⟨p24, e24, gp24, H⟩ := H
          refine z_cast e24 ?_
          refine z_aload_n (pc := 120) dX5_search_120 rfl rfl ?_
          refine z_getk (pc := 121) dX5_search_121 fX5_21 rfl (s_39_1 S3) ?_
          refine z_iload_n (pc := 124) dX5_search_124 rfl rfl ?_
          refine y_VI (pc := 125) (bc := bc) (bs := bs) (mc := 0) (ms := 0) (As := [.inr (some (0, 9, p22)), .inr (some (0, 10, p24)), .inr (some (0, 1, 43)), .inl x3]) (rest := []) dX5_search_125 kX8_suits lX5_112 ⟨_, _, rfl⟩ rfl rfl (H.use (fun v25 h25 H => ?_))
          have S25 := H.1
          replace H := H.2
          refine z_if_eq (pc := 128) (tgt := 145) dX5_search_128 (by decide) (fun c26 => ?_) (fun c26 => ?_)
          · replace H := H.1 c26
            refine z_iinc (pc := 145) (v := (x3 + (nI 1))) (ls' := [some (.inr (some (0, 5, 39))), some (.inl x1), some (.inl x2), some (.inl (x3 + (nI 1))), some (.inl x2)]) dX5_search_145 rfl (by rw [show Int32.ofInt (1) = (nI 1) by decide]) rfl ?_
            refine z_goto (pc := 148) (tgt := 54) dX5_search_148 (by decide) ?_
            exact z_drop (ls' := [some (.inr (some (0, 5, 39))), some (.inl x1), some (.inl x2), some (.inl (x3 + (nI 1))), none]) (by simp [dropL]) H
          · replace H := H.2 c26
            refine z_aload_n (pc := 131) dX5_search_131 rfl rfl ?_
            refine z_getk (pc := 132) dX5_search_132 fX5_47 rfl (s_39_6 S25) ?_
            refine z_iload_n (pc := 135) dX5_search_135 rfl rfl ?_
            refine z_iload_n (pc := 136) dX5_search_136 rfl rfl ?_
            refine z_iast (pc := 137) dX5_search_137 c1 ?_
            refine z_aload_n (pc := 138) dX5_search_138 rfl rfl ?_
            refine z_iload_n (pc := 139) dX5_search_139 rfl rfl ?_
            refine z_iload (pc := 140) dX5_search_140 rfl ?_
            refine y_VV (pc := 142) (bc := bc) (bs := bs) (mc := 0) (ms := 0) (As := [.inl x1, .inl x2]) (rest := []) dX5_search_142 kX5_searchBehind lX5_116 ⟨_, _, rfl⟩ rfl rfl (H.use (fun h27 H => ?_))
            have S27 := H.1
            replace H := H.2
            refine z_iinc (pc := 145) (v := (x3 + (nI 1))) (ls' := [some (.inr (some (0, 5, 39))), some (.inl x1), some (.inl x2), some (.inl (x3 + (nI 1))), some (.inl x2)]) dX5_search_145 rfl (by rw [show Int32.ofInt (1) = (nI 1) by decide]) rfl ?_
            refine z_goto (pc := 148) (tgt := 54) dX5_search_148 (by decide) ?_
            exact z_drop (ls' := [some (.inr (some (0, 5, 39))), some (.inl x1), some (.inl x2), some (.inl (x3 + (nI 1))), none]) (by simp [dropL]) H

abbrev LX5_findBest_2 (l : Launch) (E : eE) (d bc bs : Nat) (x1 : Int32) (h : aH) (Q : Int32 → aH → Prop) : Prop := TI l E mX5_findBest d bc bs 2 [some (.inr (some (0, 5, 39))), some (.inl x1)] [] h Q

set_option maxRecDepth 20000 in
theorem bX5_findBest_0 {l : Launch} {E : eE} {d bc bs : Nat} {h : aH} {Q : Int32 → aH → Prop}  (S : SH h) (H : LX5_findBest_2 l E (d + 1) bc bs (nI 0) h Q) : CI l E (d + 1) bc bs mX5_findBest [.inr (some (0, 5, 39))] h Q := by
  refine CI.of (by decide) rfl ?_
  show TI l E mX5_findBest (d + 1) bc bs 0 [some (.inr (some (0, 5, 39))), none] [] h Q
  refine z_iconst (pc := 0) (v := (nI 0)) dX5_findBest_0 (by decide) ?_
  refine z_istore_n (pc := 1) (ls' := [some (.inr (some (0, 5, 39))), some (.inl (nI 0))]) dX5_findBest_1 rfl rfl rfl ?_
  exact H

set_option maxRecDepth 20000 in
theorem bX5_findBest_2 {l : Launch} {E : eE} {d bc bs : Nat} {h : aH} {Q : Int32 → aH → Prop} {x1 : Int32} (S : SH h) (H : (((hI h 39 9) < x1 → Q (-1) h) ∧ (¬ (hI h 39 9) < x1 → (CV l E d 0 0 mX5_search [.inr (some (0, 5, 39)), .inl (nI 0), .inl x1] h (fun h2 => SH h2 ∧ (((hI h2 40 3) = 0 → LX5_findBest_2 l E (d + 1) bc bs (x1 + (nI 1)) h2 Q) ∧ (¬ (hI h2 40 3) = 0 → Q x1 h2))))))) : LX5_findBest_2 l E (d + 1) bc bs x1 h Q := by
  refine z_iload_n (pc := 2) dX5_findBest_2 rfl rfl ?_
  refine z_aload_n (pc := 3) dX5_findBest_3 rfl rfl ?_
  refine z_geti (pc := 4) dX5_findBest_4 fX5_67 rfl ?_
  refine z_icmp_gt (pc := 7) (tgt := 34) dX5_findBest_7 (by decide) (fun c1 => ?_) (fun c1 => ?_)
  · replace H := H.1 c1
    refine z_iconst (pc := 34) (v := (-1)) dX5_findBest_34 (by decide) ?_
    exact z_iret (pc := 35) dX5_findBest_35 rfl rfl ⟨_, rfl, H⟩
  · replace H := H.2 c1
    refine z_aload_n (pc := 10) dX5_findBest_10 rfl rfl ?_
    refine z_iconst (pc := 11) (v := (nI 0)) dX5_findBest_11 (by decide) ?_
    refine z_iload_n (pc := 12) dX5_findBest_12 rfl rfl ?_
    refine y_VV (pc := 13) (bc := bc) (bs := bs) (mc := 0) (ms := 0) (As := [.inl (nI 0), .inl x1]) (rest := []) dX5_findBest_13 kX5_search lX5_83 ⟨_, _, rfl⟩ rfl rfl (H.use (fun h2 H => ?_))
    have S2 := H.1
    replace H := H.2
    refine z_aload_n (pc := 16) dX5_findBest_16 rfl rfl ?_
    refine z_getk (pc := 17) dX5_findBest_17 fX5_12 rfl (s_39_0 S2) ?_
    refine z_geti (pc := 20) dX5_findBest_20 fX5_87 rfl ?_
    refine z_if_eq (pc := 23) (tgt := 28) dX5_findBest_23 (by decide) (fun c3 => ?_) (fun c3 => ?_)
    · replace H := H.1 c3
      refine z_iinc (pc := 28) (v := (x1 + (nI 1))) (ls' := [some (.inr (some (0, 5, 39))), some (.inl (x1 + (nI 1)))]) dX5_findBest_28 rfl (by rw [show Int32.ofInt (1) = (nI 1) by decide]) rfl ?_
      refine z_goto (pc := 31) (tgt := 2) dX5_findBest_31 (by decide) ?_
      exact H
    · replace H := H.2 c3
      refine z_iload_n (pc := 26) dX5_findBest_26 rfl rfl ?_
      exact z_iret (pc := 27) dX5_findBest_27 rfl rfl ⟨_, rfl, H⟩

abbrev LX5_settle_2 (l : Launch) (E : eE) (d bc bs : Nat) (x1 : Int32) (x2 : Int32) (h : aH) (Q : aH → Prop) : Prop := TV l E mX5_settle d bc bs 2 [some (.inr (some (0, 5, 39))), some (.inl x1), some (.inl x2)] [] h Q

set_option maxRecDepth 20000 in
theorem bX5_settle_0 {l : Launch} {E : eE} {d bc bs : Nat} {h : aH} {Q : aH → Prop} {x1 : Int32} (S : SH h) (H : LX5_settle_2 l E d bc bs x1 (nI 0) h Q) : CV l E d bc bs mX5_settle [.inr (some (0, 5, 39)), .inl x1] h Q := by
  refine CV.of (by decide) rfl ?_
  show TV l E mX5_settle d bc bs 0 [some (.inr (some (0, 5, 39))), some (.inl x1), none] [] h Q
  refine z_iconst (pc := 0) (v := (nI 0)) dX5_settle_0 (by decide) ?_
  refine z_istore_n (pc := 1) (ls' := [some (.inr (some (0, 5, 39))), some (.inl x1), some (.inl (nI 0))]) dX5_settle_1 rfl rfl rfl ?_
  exact H

set_option maxRecDepth 20000 in
theorem bX5_settle_2 {l : Launch} {E : eE} {d bc bs : Nat} {h : aH} {Q : aH → Prop} {x1 : Int32} {x2 : Int32} (S : SH h) (H : (((hI h 39 9) ≤ x2 → Q h) ∧ (¬ (hI h 39 9) ≤ x2 → (vp_in x2 4 ∧ (∃ p3, (hQ h 48 (x2).toNatClampNeg) = some (0, 9, p3) ∧ (∃ p4, (hR h p3 6) = some (1, 52, p4) ∧ (vp_in x1 52 ∧ LX5_settle_2 l E d bc bs x1 (x2 + (nI 1)) (stA h p4 (x1).toNatClampNeg (hA h 53 (x2).toNatClampNeg)) Q))))))) : LX5_settle_2 l E d bc bs x1 x2 h Q := by
  refine z_iload_n (pc := 2) dX5_settle_2 rfl rfl ?_
  refine z_aload_n (pc := 3) dX5_settle_3 rfl rfl ?_
  refine z_geti (pc := 4) dX5_settle_4 fX5_67 rfl ?_
  refine z_icmp_ge (pc := 7) (tgt := 33) dX5_settle_7 (by decide) (fun c1 => ?_) (fun c1 => ?_)
  · replace H := H.1 c1
    exact z_ret (pc := 33) dX5_settle_33 rfl ⟨rfl, H⟩
  · replace H := H.2 c1
    refine z_aload_n (pc := 10) dX5_settle_10 rfl rfl ?_
    refine z_getk (pc := 11) dX5_settle_11 fX5_27 rfl (s_39_2 S) ?_
    refine z_iload_n (pc := 14) dX5_settle_14 rfl rfl ?_
    have c2 := H.1
    replace H := H.2
    refine z_aald (pc := 15) dX5_settle_15 rfl rfl rfl c2 ?_
    obtain ⟨p3, e3, H⟩ := H
    refine z_cast e3 ?_
    refine z_getr (pc := 16) dX5_settle_16 fX5_91 rfl ?_
    obtain ⟨p4, e4, H⟩ := H
    refine z_cast e4 ?_
    refine z_iload_n (pc := 19) dX5_settle_19 rfl rfl ?_
    refine z_aload_n (pc := 20) dX5_settle_20 rfl rfl ?_
    refine z_getk (pc := 21) dX5_settle_21 fX5_50 rfl (s_39_7 S) ?_
    refine z_iload_n (pc := 24) dX5_settle_24 rfl rfl ?_
    refine z_iald (pc := 25) dX5_settle_25 c2 ?_
    have c5 := H.1
    replace H := H.2
    refine z_iast (pc := 26) dX5_settle_26 c5 ?_
    refine z_iinc (pc := 27) (v := (x2 + (nI 1))) (ls' := [some (.inr (some (0, 5, 39))), some (.inl x1), some (.inl (x2 + (nI 1)))]) dX5_settle_27 rfl (by rw [show Int32.ofInt (1) = (nI 1) by decide]) rfl ?_
    refine z_goto (pc := 30) (tgt := 2) dX5_settle_30 (by decide) ?_
    exact H

set_option maxRecDepth 20000 in
theorem bX6_clearCells_0 {l : Launch} {E : eE} {d bc bs : Nat} {h : aH} {Q : aH → Prop} {o0 : Nat} {x1 : Int32} (S : SH h) (H : (∃ p1, (hR h o0 2) = some (3, 48, p1) ∧ (CV l E d 0 0 mJ7_fill_031fb [.inr (some (3, 48, p1)), .inl (nI 0)] (stI h o0 3 x1) (fun h2 => SH h2 ∧ Q h2)))) : CV l E (d + 1) bc bs mX6_clearCells [.inr (some (0, 6, o0)), .inl x1] h Q := by
  refine CV.of (by decide) rfl ?_
  show TV l E mX6_clearCells (d + 1) bc bs 0 [some (.inr (some (0, 6, o0))), some (.inl x1)] [] h Q
  refine z_aload_n (pc := 0) dX6_clearCells_0 rfl rfl ?_
  refine z_iload_n (pc := 1) dX6_clearCells_1 rfl rfl ?_
  refine z_puti (pc := 2) dX6_clearCells_2 fX6_23 (uX6_3 _) rfl rfl rfl ?_
  refine z_aload_n (pc := 5) dX6_clearCells_5 rfl rfl ?_
  refine z_getr (pc := 6) dX6_clearCells_6 fX6_19 rfl ?_
  obtain ⟨p1, e1, H⟩ := H
  refine z_cast e1 ?_
  refine z_iconst (pc := 9) (v := (nI 0)) dX6_clearCells_9 (by decide) ?_
  refine y_SV (pc := 10) (bc := bc) (bs := bs) (mc := 0) (ms := 0) (As := [.inr (some (3, 48, p1)), .inl (nI 0)]) (rest := []) dX6_clearCells_10 kJ7_fill_031fb lX6_26 rfl rfl (H.use (fun h2 H => ?_))
  have S2 := H.1
  replace H := H.2
  exact z_ret (pc := 13) dX6_clearCells_13 rfl ⟨rfl, H⟩

set_option maxRecDepth 20000 in
theorem bX6_cellAt_0 {l : Launch} {E : eE} {d bc bs : Nat} {h : aH} {Q : Int32 → aH → Prop} {o0 : Nat} {x1 : Int32} (S : SH h) (H : ((¬ (hI h o0 3) = 0 → (∃ p2, (hR h o0 2) = some (3, 48, p2) ∧ (CI l E d 0 0 mJ9_floorMod_7cf53 [.inl x1, .inl (nI 48)] h (fun v3 h3 => SH h3 ∧ (CI l E d 0 0 mJ9_min_7cf53 [.inl v3, .inl ((hI h3 o0 3) - (nI 1))] h3 (fun v4 h4 => SH h4 ∧ (vp_in v4 48 ∧ Q (hA h4 p2 (v4).toNatClampNeg) h4))))))) ∧ ((hI h o0 3) = 0 → Q (nI 0) h))) : CI l E (d + 1) bc bs mX6_cellAt [.inr (some (0, 6, o0)), .inl x1] h Q := by
  refine CI.of (by decide) rfl ?_
  show TI l E mX6_cellAt (d + 1) bc bs 0 [some (.inr (some (0, 6, o0))), some (.inl x1)] [] h Q
  refine z_aload_n (pc := 0) dX6_cellAt_0 rfl rfl ?_
  refine z_geti (pc := 1) dX6_cellAt_1 fX6_23 rfl ?_
  refine z_if_ne (pc := 4) (tgt := 9) dX6_cellAt_4 (by decide) (fun c1 => ?_) (fun c1 => ?_)
  · replace H := H.1 c1
    refine z_aload_n (pc := 9) dX6_cellAt_9 rfl rfl ?_
    refine z_getr (pc := 10) dX6_cellAt_10 fX6_19 rfl ?_
    obtain ⟨p2, e2, H⟩ := H
    refine z_cast e2 ?_
    refine z_iload_n (pc := 13) dX6_cellAt_13 rfl rfl ?_
    refine z_bipush (pc := 14) (v := (nI 48)) dX6_cellAt_14 (by decide) ?_
    refine y_SI (pc := 16) (bc := bc) (bs := bs) (mc := 0) (ms := 0) (As := [.inl x1, .inl (nI 48)]) (rest := [.inr (some (3, 48, p2))]) dX6_cellAt_16 kJ9_floorMod_7cf53 lX6_32 rfl rfl (H.use (fun v3 h3 H => ?_))
    have S3 := H.1
    replace H := H.2
    refine z_aload_n (pc := 19) dX6_cellAt_19 rfl rfl ?_
    refine z_geti (pc := 20) dX6_cellAt_20 fX6_23 rfl ?_
    refine z_iconst (pc := 23) (v := (nI 1)) dX6_cellAt_23 (by decide) ?_
    refine z_isub (pc := 24) dX6_cellAt_24 ?_
    refine y_SI (pc := 25) (bc := bc) (bs := bs) (mc := 0) (ms := 0) (As := [.inl v3, .inl ((hI h3 o0 3) - (nI 1))]) (rest := [.inr (some (3, 48, p2))]) dX6_cellAt_25 kJ9_min_7cf53 lX6_38 rfl rfl (H.use (fun v4 h4 H => ?_))
    have S4 := H.1
    replace H := H.2
    have c5 := H.1
    replace H := H.2
    refine z_bald (pc := 28) dX6_cellAt_28 c5 ?_
    exact z_iret (pc := 29) dX6_cellAt_29 rfl rfl ⟨_, rfl, H⟩
  · replace H := H.2 c1
    refine z_iconst (pc := 7) (v := (nI 0)) dX6_cellAt_7 (by decide) ?_
    exact z_iret (pc := 8) dX6_cellAt_8 rfl rfl ⟨_, rfl, H⟩

abbrev LX6_spanAt_5 (l : Launch) (E : eE) (d bc bs : Nat) (o0 : Nat) (x1 : Int32) (x2 : Int32) (r3 : aR) (h : aH) (Q : aR → aH → Prop) : Prop := TR l E mX6_spanAt d bc bs 5 [some (.inr (some (0, 6, o0))), some (.inl x1), some (.inl x2), some (.inr r3)] [] h Q

set_option maxRecDepth 20000 in
theorem bX6_spanAt_0 {l : Launch} {E : eE} {d bc bs : Nat} {h : aH} {Q : aR → aH → Prop} {o0 : Nat} {x1 : Int32} {x2 : Int32} (S : SH h) (H : LX6_spanAt_5 l E d bc bs o0 x1 x2 ((hR h o0 4)) h Q) : CR l E d bc bs mX6_spanAt [.inr (some (0, 6, o0)), .inl x1, .inl x2] h Q := by
  refine CR.of (by decide) rfl ?_
  show TR l E mX6_spanAt d bc bs 0 [some (.inr (some (0, 6, o0))), some (.inl x1), some (.inl x2), none] [] h Q
  refine z_aload_n (pc := 0) dX6_spanAt_0 rfl rfl ?_
  refine z_getr (pc := 1) dX6_spanAt_1 fX6_41 rfl ?_
  refine z_astore_n (pc := 4) (ls' := [some (.inr (some (0, 6, o0))), some (.inl x1), some (.inl x2), some (.inr ((hR h o0 4)))]) dX6_spanAt_4 rfl rfl rfl ?_
  exact H

set_option maxRecDepth 20000 in
theorem bX6_spanAt_5 {l : Launch} {E : eE} {d bc bs : Nat} {h : aH} {Q : aR → aH → Prop} {o0 : Nat} {x1 : Int32} {x2 : Int32} {r3 : aR} (S : SH h) (H : ((r3 = none → Q none h) ∧ (∀ q1, r3 = some q1 → (∃ p2, r3 = some (0, 3, p2) ∧ ((x2 ≤ (hI h p2 0) → LX6_spanAt_5 l E d bc bs o0 x1 x2 ((hR h p2 4)) h Q) ∧ (¬ x2 ≤ (hI h p2 0) → ((x1 < (hI h p2 1) → LX6_spanAt_5 l E d bc bs o0 x1 x2 ((hR h p2 4)) h Q) ∧ (¬ x1 < (hI h p2 1) → (((hI h p2 2) ≤ x1 → LX6_spanAt_5 l E d bc bs o0 x1 x2 ((hR h p2 4)) h Q) ∧ (¬ (hI h p2 2) ≤ x1 → Q r3 h)))))))))) : LX6_spanAt_5 l E d bc bs o0 x1 x2 r3 h Q := by
  refine z_aload_n (pc := 5) dX6_spanAt_5 rfl rfl ?_
  refine z_ifnull (pc := 6) (tgt := 43) dX6_spanAt_6 (by decide) (fun c1 => ?_) (fun q1 c1 => ?_)
  · replace H := H.1 c1
    refine z_null (pc := 43) dX6_spanAt_43 ?_
    exact z_aret (pc := 44) dX6_spanAt_44 rfl ⟨_, rfl, H⟩
  · replace H := H.2 q1 c1
    refine z_aload_n (pc := 9) dX6_spanAt_9 rfl rfl ?_
    obtain ⟨p2, e2, H⟩ := H
    refine z_cast e2 ?_
    refine z_geti (pc := 10) dX6_spanAt_10 fX6_45 rfl ?_
    refine z_iload_n (pc := 13) dX6_spanAt_13 rfl rfl ?_
    refine z_icmp_ge (pc := 14) (tgt := 35) dX6_spanAt_14 (by decide) (fun c3 => ?_) (fun c3 => ?_)
    · replace H := H.1 c3
      refine z_aload_n (pc := 35) dX6_spanAt_35 rfl rfl ?_
      refine z_cast e2 ?_
      refine z_getr (pc := 36) dX6_spanAt_36 fX6_56 rfl ?_
      refine z_astore_n (pc := 39) (ls' := [some (.inr (some (0, 6, o0))), some (.inl x1), some (.inl x2), some (.inr ((hR h p2 4)))]) dX6_spanAt_39 rfl rfl rfl ?_
      refine z_goto (pc := 40) (tgt := 5) dX6_spanAt_40 (by decide) ?_
      exact H
    · replace H := H.2 c3
      refine z_aload_n (pc := 17) dX6_spanAt_17 rfl rfl ?_
      refine z_cast e2 ?_
      refine z_geti (pc := 18) dX6_spanAt_18 fX6_50 rfl ?_
      refine z_iload_n (pc := 21) dX6_spanAt_21 rfl rfl ?_
      refine z_icmp_gt (pc := 22) (tgt := 35) dX6_spanAt_22 (by decide) (fun c4 => ?_) (fun c4 => ?_)
      · replace H := H.1 c4
        refine z_aload_n (pc := 35) dX6_spanAt_35 rfl rfl ?_
        refine z_cast e2 ?_
        refine z_getr (pc := 36) dX6_spanAt_36 fX6_56 rfl ?_
        refine z_astore_n (pc := 39) (ls' := [some (.inr (some (0, 6, o0))), some (.inl x1), some (.inl x2), some (.inr ((hR h p2 4)))]) dX6_spanAt_39 rfl rfl rfl ?_
        refine z_goto (pc := 40) (tgt := 5) dX6_spanAt_40 (by decide) ?_
        exact H
      · replace H := H.2 c4
        refine z_iload_n (pc := 25) dX6_spanAt_25 rfl rfl ?_
        refine z_aload_n (pc := 26) dX6_spanAt_26 rfl rfl ?_
        refine z_cast e2 ?_
        refine z_geti (pc := 27) dX6_spanAt_27 fX6_53 rfl ?_
        refine z_icmp_ge (pc := 30) (tgt := 35) dX6_spanAt_30 (by decide) (fun c5 => ?_) (fun c5 => ?_)
        · replace H := H.1 c5
          refine z_aload_n (pc := 35) dX6_spanAt_35 rfl rfl ?_
          refine z_cast e2 ?_
          refine z_getr (pc := 36) dX6_spanAt_36 fX6_56 rfl ?_
          refine z_astore_n (pc := 39) (ls' := [some (.inr (some (0, 6, o0))), some (.inl x1), some (.inl x2), some (.inr ((hR h p2 4)))]) dX6_spanAt_39 rfl rfl rfl ?_
          refine z_goto (pc := 40) (tgt := 5) dX6_spanAt_40 (by decide) ?_
          exact H
        · replace H := H.2 c5
          refine z_aload_n (pc := 33) dX6_spanAt_33 rfl rfl ?_
          exact z_aret (pc := 34) dX6_spanAt_34 rfl ⟨_, rfl, H⟩

set_option maxRecDepth 20000 in
theorem bX6_hindranceAt_0 {l : Launch} {E : eE} {d bc bs : Nat} {h : aH} {Q : Int32 → aH → Prop} {o0 : Nat} {x1 : Int32} {x2 : Int32} (S : SH h) (H : (∃ p1, (hR h o0 0) = some (0, 4, p1) ∧ (CI l E d 0 0 mX4_offsetAt [.inr (some (0, 4, p1)), .inl x1, .inl x2] h (fun v2 h2 => SH h2 ∧ (CI l E d 0 0 mJ9_floorDiv_7cf53 [.inl (x1 + v2), .inl (nI 48)] h2 (fun v3 h3 => SH h3 ∧ (CI l E d 0 0 mX6_cellAt [.inr (some (0, 6, o0)), .inl (x1 + v2)] h3 (fun v4 h4 => SH h4 ∧ ((¬ v4 = (-1) → (CI l E d 0 0 mJ9_floorMod_7cf53 [.inl v3, .inl (nI 7)] h4 (fun v6 h6 => SH h6 ∧ (CI l E d 0 0 mX11_isIn [.inl (hI h4 o0 1), .inl v6] h6 (fun v7 h7 => SH h7 ∧ ((v7 = 0 → (∃ p9, (hR h7 o0 0) = some (0, 4, p9) ∧ (CI l E d 0 0 mX4_celebrates [.inr (some (0, 4, p9)), .inl v3, .inl x2] h7 (fun v10 h10 => SH h10 ∧ ((v10 = 0 → (CR l E d 0 0 mX6_spanAt [.inr (some (0, 6, o0)), .inl x1, .inl x2] h10 (fun v12 h12 => SH h12 ∧ ((v12 = none → Q (nI 0) h12) ∧ (∀ q13, v12 = some q13 → Q (nI 4) h12))))) ∧ (¬ v10 = 0 → Q (nI 3) h10)))))) ∧ (¬ v7 = 0 → Q (nI 2) h7))))))) ∧ (v4 = (-1) → Q (nI 1) h4)))))))))) : CI l E (d + 1) bc bs mX6_hindranceAt [.inr (some (0, 6, o0)), .inl x1, .inl x2] h Q := by
  refine CI.of (by decide) rfl ?_
  show TI l E mX6_hindranceAt (d + 1) bc bs 0 [some (.inr (some (0, 6, o0))), some (.inl x1), some (.inl x2), none, none] [] h Q
  refine z_iload_n (pc := 0) dX6_hindranceAt_0 rfl rfl ?_
  refine z_aload_n (pc := 1) dX6_hindranceAt_1 rfl rfl ?_
  refine z_getr (pc := 2) dX6_hindranceAt_2 fX6_9 rfl ?_
  obtain ⟨p1, e1, H⟩ := H
  refine z_cast e1 ?_
  refine z_iload_n (pc := 5) dX6_hindranceAt_5 rfl rfl ?_
  refine z_iload_n (pc := 6) dX6_hindranceAt_6 rfl rfl ?_
  refine y_VI (pc := 7) (bc := bc) (bs := bs) (mc := 0) (ms := 0) (As := [.inl x1, .inl x2]) (rest := [.inl x1]) dX6_hindranceAt_7 kX4_offsetAt lX6_62 ⟨_, _, rfl⟩ rfl rfl (H.use (fun v2 h2 H => ?_))
  have S2 := H.1
  replace H := H.2
  refine z_iadd (pc := 10) dX6_hindranceAt_10 ?_
  refine z_istore_n (pc := 11) (ls' := [some (.inr (some (0, 6, o0))), some (.inl x1), some (.inl x2), some (.inl (x1 + v2)), none]) dX6_hindranceAt_11 rfl rfl rfl ?_
  refine z_iload_n (pc := 12) dX6_hindranceAt_12 rfl rfl ?_
  refine z_bipush (pc := 13) (v := (nI 48)) dX6_hindranceAt_13 (by decide) ?_
  refine y_SI (pc := 15) (bc := bc) (bs := bs) (mc := 0) (ms := 0) (As := [.inl (x1 + v2), .inl (nI 48)]) (rest := []) dX6_hindranceAt_15 kJ9_floorDiv_7cf53 lX6_67 rfl rfl (H.use (fun v3 h3 H => ?_))
  have S3 := H.1
  replace H := H.2
  refine z_istore (pc := 18) (ls' := [some (.inr (some (0, 6, o0))), some (.inl x1), some (.inl x2), some (.inl (x1 + v2)), some (.inl v3)]) dX6_hindranceAt_18 rfl rfl ?_
  refine z_aload_n (pc := 20) dX6_hindranceAt_20 rfl rfl ?_
  refine z_iload_n (pc := 21) dX6_hindranceAt_21 rfl rfl ?_
  refine y_VI (pc := 22) (bc := bc) (bs := bs) (mc := 0) (ms := 0) (As := [.inl (x1 + v2)]) (rest := []) dX6_hindranceAt_22 kX6_cellAt lX6_70 ⟨_, _, rfl⟩ rfl rfl (H.use (fun v4 h4 H => ?_))
  have S4 := H.1
  replace H := H.2
  refine z_iconst (pc := 25) (v := (-1)) dX6_hindranceAt_25 (by decide) ?_
  refine z_icmp_ne (pc := 26) (tgt := 31) dX6_hindranceAt_26 (by decide) (fun c5 => ?_) (fun c5 => ?_)
  · replace H := H.1 c5
    refine z_aload_n (pc := 31) dX6_hindranceAt_31 rfl rfl ?_
    refine z_geti (pc := 32) dX6_hindranceAt_32 fX6_15 rfl ?_
    refine z_iload (pc := 35) dX6_hindranceAt_35 rfl ?_
    refine z_bipush (pc := 37) (v := (nI 7)) dX6_hindranceAt_37 (by decide) ?_
    refine y_SI (pc := 39) (bc := bc) (bs := bs) (mc := 0) (ms := 0) (As := [.inl v3, .inl (nI 7)]) (rest := [.inl (hI h4 o0 1)]) dX6_hindranceAt_39 kJ9_floorMod_7cf53 lX6_32 rfl rfl (H.use (fun v6 h6 H => ?_))
    have S6 := H.1
    replace H := H.2
    refine y_NI (pc := 42) (bc := bc) (bs := bs) (mc := 0) (ms := 0) (As := [.inl (hI h4 o0 1), .inl v6]) (rest := []) dX6_hindranceAt_42 kX11_isIn lX6_74 rfl rfl (H.use (fun v7 h7 H => ?_))
    have S7 := H.1
    replace H := H.2
    refine z_if_eq (pc := 45) (tgt := 50) dX6_hindranceAt_45 (by decide) (fun c8 => ?_) (fun c8 => ?_)
    · replace H := H.1 c8
      refine z_aload_n (pc := 50) dX6_hindranceAt_50 rfl rfl ?_
      refine z_getr (pc := 51) dX6_hindranceAt_51 fX6_9 rfl ?_
      obtain ⟨p9, e9, H⟩ := H
      refine z_cast e9 ?_
      refine z_iload (pc := 54) dX6_hindranceAt_54 rfl ?_
      refine z_iload_n (pc := 56) dX6_hindranceAt_56 rfl rfl ?_
      refine y_VI (pc := 57) (bc := bc) (bs := bs) (mc := 0) (ms := 0) (As := [.inl v3, .inl x2]) (rest := []) dX6_hindranceAt_57 kX4_celebrates lX6_78 ⟨_, _, rfl⟩ rfl rfl (H.use (fun v10 h10 H => ?_))
      have S10 := H.1
      replace H := H.2
      refine z_if_eq (pc := 60) (tgt := 65) dX6_hindranceAt_60 (by decide) (fun c11 => ?_) (fun c11 => ?_)
      · replace H := H.1 c11
        refine z_aload_n (pc := 65) dX6_hindranceAt_65 rfl rfl ?_
        refine z_iload_n (pc := 66) dX6_hindranceAt_66 rfl rfl ?_
        refine z_iload_n (pc := 67) dX6_hindranceAt_67 rfl rfl ?_
        refine y_VR (pc := 68) (bc := bc) (bs := bs) (mc := 0) (ms := 0) (As := [.inl x1, .inl x2]) (rest := []) dX6_hindranceAt_68 kX6_spanAt lX6_81 ⟨_, _, rfl⟩ rfl rfl (H.use (fun v12 h12 H => ?_))
        have S12 := H.1
        replace H := H.2
        refine z_ifnull (pc := 71) (tgt := 78) dX6_hindranceAt_71 (by decide) (fun c13 => ?_) (fun q13 c13 => ?_)
        · replace H := H.1 c13
          refine z_iconst (pc := 78) (v := (nI 0)) dX6_hindranceAt_78 (by decide) ?_
          exact z_iret (pc := 79) dX6_hindranceAt_79 rfl rfl ⟨_, rfl, H⟩
        · replace H := H.2 q13 c13
          refine z_iconst (pc := 74) (v := (nI 4)) dX6_hindranceAt_74 (by decide) ?_
          refine z_goto (pc := 75) (tgt := 79) dX6_hindranceAt_75 (by decide) ?_
          exact z_iret (pc := 79) dX6_hindranceAt_79 rfl rfl ⟨_, rfl, H⟩
      · replace H := H.2 c11
        refine z_iconst (pc := 63) (v := (nI 3)) dX6_hindranceAt_63 (by decide) ?_
        exact z_iret (pc := 64) dX6_hindranceAt_64 rfl rfl ⟨_, rfl, H⟩
    · replace H := H.2 c8
      refine z_iconst (pc := 48) (v := (nI 2)) dX6_hindranceAt_48 (by decide) ?_
      exact z_iret (pc := 49) dX6_hindranceAt_49 rfl rfl ⟨_, rfl, H⟩
  · replace H := H.2 c5
    refine z_iconst (pc := 29) (v := (nI 1)) dX6_hindranceAt_29 (by decide) ?_
    exact z_iret (pc := 30) dX6_hindranceAt_30 rfl rfl ⟨_, rfl, H⟩

abbrev LX6_hindrance_3 (l : Launch) (E : eE) (d bc bs : Nat) (o0 : Nat) (x1 : Int32) (x2 : Int32) (x3 : Int32) (x4 : Int32) (h : aH) (Q : Int32 → aH → Prop) : Prop := TI l E mX6_hindrance d bc bs 3 [some (.inr (some (0, 6, o0))), some (.inl x1), some (.inl x2), some (.inl x3), some (.inl x4), none] [] h Q

set_option maxRecDepth 20000 in
theorem bX6_hindrance_0 {l : Launch} {E : eE} {d bc bs : Nat} {h : aH} {Q : Int32 → aH → Prop} {o0 : Nat} {x1 : Int32} {x2 : Int32} {x3 : Int32} (S : SH h) (H : LX6_hindrance_3 l E (d + 1) bc bs o0 x1 x2 x3 (nI 0) h Q) : CI l E (d + 1) bc bs mX6_hindrance [.inr (some (0, 6, o0)), .inl x1, .inl x2, .inl x3] h Q := by
  refine CI.of (by decide) rfl ?_
  show TI l E mX6_hindrance (d + 1) bc bs 0 [some (.inr (some (0, 6, o0))), some (.inl x1), some (.inl x2), some (.inl x3), none, none] [] h Q
  refine z_iconst (pc := 0) (v := (nI 0)) dX6_hindrance_0 (by decide) ?_
  refine z_istore (pc := 1) (ls' := [some (.inr (some (0, 6, o0))), some (.inl x1), some (.inl x2), some (.inl x3), some (.inl (nI 0)), none]) dX6_hindrance_1 rfl rfl ?_
  exact H

set_option maxRecDepth 20000 in
theorem bX6_hindrance_3 {l : Launch} {E : eE} {d bc bs : Nat} {h : aH} {Q : Int32 → aH → Prop} {o0 : Nat} {x1 : Int32} {x2 : Int32} {x3 : Int32} {x4 : Int32} (S : SH h) (H : ((x2 ≤ x4 → Q (nI 0) h) ∧ (¬ x2 ≤ x4 → (CI l E d 0 0 mX6_hindranceAt [.inr (some (0, 6, o0)), .inl (x1 + x4), .inl x3] h (fun v2 h2 => SH h2 ∧ ((v2 = 0 → LX6_hindrance_3 l E (d + 1) bc bs o0 x1 x2 x3 (x4 + (nI 1)) h2 Q) ∧ (¬ v2 = 0 → Q v2 h2))))))) : LX6_hindrance_3 l E (d + 1) bc bs o0 x1 x2 x3 x4 h Q := by
  refine z_iload (pc := 3) dX6_hindrance_3 rfl ?_
  refine z_iload_n (pc := 5) dX6_hindrance_5 rfl rfl ?_
  refine z_icmp_ge (pc := 6) (tgt := 34) dX6_hindrance_6 (by decide) (fun c1 => ?_) (fun c1 => ?_)
  · replace H := H.1 c1
    refine z_iconst (pc := 34) (v := (nI 0)) dX6_hindrance_34 (by decide) ?_
    exact z_iret (pc := 35) dX6_hindrance_35 rfl rfl ⟨_, rfl, H⟩
  · replace H := H.2 c1
    refine z_aload_n (pc := 9) dX6_hindrance_9 rfl rfl ?_
    refine z_iload_n (pc := 10) dX6_hindrance_10 rfl rfl ?_
    refine z_iload (pc := 11) dX6_hindrance_11 rfl ?_
    refine z_iadd (pc := 13) dX6_hindrance_13 ?_
    refine z_iload_n (pc := 14) dX6_hindrance_14 rfl rfl ?_
    refine y_VI (pc := 15) (bc := bc) (bs := bs) (mc := 0) (ms := 0) (As := [.inl (x1 + x4), .inl x3]) (rest := []) dX6_hindrance_15 kX6_hindranceAt lX6_59 ⟨_, _, rfl⟩ rfl rfl (H.use (fun v2 h2 H => ?_))
    have S2 := H.1
    replace H := H.2
    refine z_istore (pc := 18) (ls' := [some (.inr (some (0, 6, o0))), some (.inl x1), some (.inl x2), some (.inl x3), some (.inl x4), some (.inl v2)]) dX6_hindrance_18 rfl rfl ?_
    refine z_iload (pc := 20) dX6_hindrance_20 rfl ?_
    refine z_if_eq (pc := 22) (tgt := 28) dX6_hindrance_22 (by decide) (fun c3 => ?_) (fun c3 => ?_)
    · replace H := H.1 c3
      refine z_iinc (pc := 28) (v := (x4 + (nI 1))) (ls' := [some (.inr (some (0, 6, o0))), some (.inl x1), some (.inl x2), some (.inl x3), some (.inl (x4 + (nI 1))), some (.inl v2)]) dX6_hindrance_28 rfl (by rw [show Int32.ofInt (1) = (nI 1) by decide]) rfl ?_
      refine z_goto (pc := 31) (tgt := 3) dX6_hindrance_31 (by decide) ?_
      exact z_drop (ls' := [some (.inr (some (0, 6, o0))), some (.inl x1), some (.inl x2), some (.inl x3), some (.inl (x4 + (nI 1))), none]) (by simp [dropL]) H
    · replace H := H.2 c3
      refine z_iload (pc := 25) dX6_hindrance_25 rfl ?_
      exact z_iret (pc := 27) dX6_hindrance_27 rfl rfl ⟨_, rfl, H⟩

abbrev LX6_price_6 (l : Launch) (E : eE) (d bc bs : Nat) (o0 : Nat) (x1 : Int32) (x2 : Int32) (x3 : Int32) (x4 : Int32) (x5 : Int32) (h : aH) (Q : Int32 → aH → Prop) : Prop := TI l E mX6_price d bc bs 6 [some (.inr (some (0, 6, o0))), some (.inl x1), some (.inl x2), some (.inl x3), some (.inl x4), some (.inl x5)] [] h Q

set_option maxRecDepth 20000 in
theorem bX6_price_0 {l : Launch} {E : eE} {d bc bs : Nat} {h : aH} {Q : Int32 → aH → Prop} {o0 : Nat} {x1 : Int32} {x2 : Int32} {x3 : Int32} (S : SH h) (H : LX6_price_6 l E (d + 1) bc bs o0 x1 x2 x3 (nI 0) (nI 0) h Q) : CI l E (d + 1) bc bs mX6_price [.inr (some (0, 6, o0)), .inl x1, .inl x2, .inl x3] h Q := by
  refine CI.of (by decide) rfl ?_
  show TI l E mX6_price (d + 1) bc bs 0 [some (.inr (some (0, 6, o0))), some (.inl x1), some (.inl x2), some (.inl x3), none, none] [] h Q
  refine z_iconst (pc := 0) (v := (nI 0)) dX6_price_0 (by decide) ?_
  refine z_istore (pc := 1) (ls' := [some (.inr (some (0, 6, o0))), some (.inl x1), some (.inl x2), some (.inl x3), some (.inl (nI 0)), none]) dX6_price_1 rfl rfl ?_
  refine z_iconst (pc := 3) (v := (nI 0)) dX6_price_3 (by decide) ?_
  refine z_istore (pc := 4) (ls' := [some (.inr (some (0, 6, o0))), some (.inl x1), some (.inl x2), some (.inl x3), some (.inl (nI 0)), some (.inl (nI 0))]) dX6_price_4 rfl rfl ?_
  exact H

set_option maxRecDepth 20000 in
theorem bX6_price_6 {l : Launch} {E : eE} {d bc bs : Nat} {h : aH} {Q : Int32 → aH → Prop} {o0 : Nat} {x1 : Int32} {x2 : Int32} {x3 : Int32} {x4 : Int32} {x5 : Int32} (S : SH h) (H : ((x2 ≤ x5 → Q x4 h) ∧ (¬ x2 ≤ x5 → (∃ p2, (hR h o0 0) = some (0, 4, p2) ∧ (CI l E d 0 0 mX4_offsetAt [.inr (some (0, 4, p2)), .inl (x1 + x5), .inl x3] h (fun v3 h3 => SH h3 ∧ (CI l E d 0 0 mX6_cellAt [.inr (some (0, 6, o0)), .inl ((x1 + x5) + v3)] h3 (fun v4 h4 => SH h4 ∧ (CI l E d 0 0 mJ9_max_7cf53 [.inl (nI 0), .inl v4] h4 (fun v5 h5 => SH h5 ∧ LX6_price_6 l E (d + 1) bc bs o0 x1 x2 x3 (x4 + v5) (x5 + (nI 1)) h5 Q)))))))))) : LX6_price_6 l E (d + 1) bc bs o0 x1 x2 x3 x4 x5 h Q := by
  refine z_iload (pc := 6) dX6_price_6 rfl ?_
  refine z_iload_n (pc := 8) dX6_price_8 rfl rfl ?_
  refine z_icmp_ge (pc := 9) (tgt := 48) dX6_price_9 (by decide) (fun c1 => ?_) (fun c1 => ?_)
  · replace H := H.1 c1
    refine z_iload (pc := 48) dX6_price_48 rfl ?_
    exact z_iret (pc := 50) dX6_price_50 rfl rfl ⟨_, rfl, H⟩
  · replace H := H.2 c1
    refine z_iload (pc := 12) dX6_price_12 rfl ?_
    refine z_iconst (pc := 14) (v := (nI 0)) dX6_price_14 (by decide) ?_
    refine z_aload_n (pc := 15) dX6_price_15 rfl rfl ?_
    refine z_iload_n (pc := 16) dX6_price_16 rfl rfl ?_
    refine z_iload (pc := 17) dX6_price_17 rfl ?_
    refine z_iadd (pc := 19) dX6_price_19 ?_
    refine z_aload_n (pc := 20) dX6_price_20 rfl rfl ?_
    refine z_getr (pc := 21) dX6_price_21 fX6_9 rfl ?_
    obtain ⟨p2, e2, H⟩ := H
    refine z_cast e2 ?_
    refine z_iload_n (pc := 24) dX6_price_24 rfl rfl ?_
    refine z_iload (pc := 25) dX6_price_25 rfl ?_
    refine z_iadd (pc := 27) dX6_price_27 ?_
    refine z_iload_n (pc := 28) dX6_price_28 rfl rfl ?_
    refine y_VI (pc := 29) (bc := bc) (bs := bs) (mc := 0) (ms := 0) (As := [.inl (x1 + x5), .inl x3]) (rest := [.inl (x1 + x5), .inr (some (0, 6, o0)), .inl (nI 0), .inl x4]) dX6_price_29 kX4_offsetAt lX6_62 ⟨_, _, rfl⟩ rfl rfl (H.use (fun v3 h3 H => ?_))
    have S3 := H.1
    replace H := H.2
    refine z_iadd (pc := 32) dX6_price_32 ?_
    refine y_VI (pc := 33) (bc := bc) (bs := bs) (mc := 0) (ms := 0) (As := [.inl ((x1 + x5) + v3)]) (rest := [.inl (nI 0), .inl x4]) dX6_price_33 kX6_cellAt lX6_70 ⟨_, _, rfl⟩ rfl rfl (H.use (fun v4 h4 H => ?_))
    have S4 := H.1
    replace H := H.2
    refine y_SI (pc := 36) (bc := bc) (bs := bs) (mc := 0) (ms := 0) (As := [.inl (nI 0), .inl v4]) (rest := [.inl x4]) dX6_price_36 kJ9_max_7cf53 lX6_85 rfl rfl (H.use (fun v5 h5 H => ?_))
    have S5 := H.1
    replace H := H.2
    refine z_iadd (pc := 39) dX6_price_39 ?_
    refine z_istore (pc := 40) (ls' := [some (.inr (some (0, 6, o0))), some (.inl x1), some (.inl x2), some (.inl x3), some (.inl (x4 + v5)), some (.inl x5)]) dX6_price_40 rfl rfl ?_
    refine z_iinc (pc := 42) (v := (x5 + (nI 1))) (ls' := [some (.inr (some (0, 6, o0))), some (.inl x1), some (.inl x2), some (.inl x3), some (.inl (x4 + v5)), some (.inl (x5 + (nI 1)))]) dX6_price_42 rfl (by rw [show Int32.ofInt (1) = (nI 1) by decide]) rfl ?_
    refine z_goto (pc := 45) (tgt := 6) dX6_price_45 (by decide) ?_
    exact H

set_option maxRecDepth 20000 in
theorem bX7_begin_0 {l : Launch} {E : eE} {d bc bs : Nat} {h : aH} {Q : aH → Prop} {x1 : Int32} {x2 : Int32} (S : SH h) (H : (CI l E d 0 0 mJ9_min_7cf53 [.inl x1, .inl (nI 6)] h (fun v1 h1 => SH h1 ∧ (CI l E d 0 0 mJ9_min_7cf53 [.inl x2, .inl (nI 12)] (stI h1 27 9 v1) (fun v2 h2 => SH h2 ∧ (CV l E d 0 0 mX2_begin [.inr (some (0, 2, 28)), .inl v2] (stI h2 27 10 v2) (fun h3 => SH h3 ∧ (CV l E d 0 0 mJ7_fill_53178 [.inr (some (1, 12, 37)), .inl (nI 0)] h3 (fun h4 => SH h4 ∧ Q h4))))))))) : CV l E (d + 1) bc bs mX7_begin [.inr (some (0, 7, 27)), .inl x1, .inl x2] h Q := by
  refine CV.of (by decide) rfl ?_
  show TV l E mX7_begin (d + 1) bc bs 0 [some (.inr (some (0, 7, 27))), some (.inl x1), some (.inl x2)] [] h Q
  refine z_aload_n (pc := 0) dX7_begin_0 rfl rfl ?_
  refine z_iload_n (pc := 1) dX7_begin_1 rfl rfl ?_
  refine z_bipush (pc := 2) (v := (nI 6)) dX7_begin_2 (by decide) ?_
  refine y_SI (pc := 4) (bc := bc) (bs := bs) (mc := 0) (ms := 0) (As := [.inl x1, .inl (nI 6)]) (rest := [.inr (some (0, 7, 27))]) dX7_begin_4 kJ9_min_7cf53 lX7_47 rfl rfl (H.use (fun v1 h1 H => ?_))
  have S1 := H.1
  replace H := H.2
  refine z_puti (pc := 7) dX7_begin_7 fX7_53 (uX7_9 _) rfl rfl rfl ?_
  refine z_aload_n (pc := 10) dX7_begin_10 rfl rfl ?_
  refine z_iload_n (pc := 11) dX7_begin_11 rfl rfl ?_
  refine z_bipush (pc := 12) (v := (nI 12)) dX7_begin_12 (by decide) ?_
  refine y_SI (pc := 14) (bc := bc) (bs := bs) (mc := 0) (ms := 0) (As := [.inl x2, .inl (nI 12)]) (rest := [.inr (some (0, 7, 27))]) dX7_begin_14 kJ9_min_7cf53 lX7_47 rfl rfl (H.use (fun v2 h2 H => ?_))
  have S2 := H.1
  replace H := H.2
  refine z_puti (pc := 17) dX7_begin_17 fX7_57 (uX7_10 _) rfl rfl rfl ?_
  refine z_aload_n (pc := 20) dX7_begin_20 rfl rfl ?_
  refine z_getk (pc := 21) dX7_begin_21 fX7_12 rfl (s_27_0 S2) ?_
  refine z_aload_n (pc := 24) dX7_begin_24 rfl rfl ?_
  refine z_geti (pc := 25) dX7_begin_25 fX7_57 rfl ?_
  refine y_VV (pc := 28) (bc := bc) (bs := bs) (mc := 0) (ms := 0) (As := [.inl v2]) (rest := []) dX7_begin_28 kX2_begin lX7_60 ⟨_, _, rfl⟩ rfl rfl (H.use (fun h3 H => ?_))
  have S3 := H.1
  replace H := H.2
  refine z_aload_n (pc := 31) dX7_begin_31 rfl rfl ?_
  refine z_getk (pc := 32) dX7_begin_32 fX7_41 rfl (s_27_7 S3) ?_
  refine z_iconst (pc := 35) (v := (nI 0)) dX7_begin_35 (by decide) ?_
  refine y_SV (pc := 36) (bc := bc) (bs := bs) (mc := 0) (ms := 0) (As := [.inr (some (1, 12, 37)), .inl (nI 0)]) (rest := []) dX7_begin_36 kJ7_fill_53178 lX7_64 rfl rfl (H.use (fun h4 H => ?_))
  have S4 := H.1
  replace H := H.2
  exact z_ret (pc := 39) dX7_begin_39 rfl ⟨rfl, H⟩

set_option maxRecDepth 20000 in
theorem bX7_priceAt_0 {l : Launch} {E : eE} {d bc bs : Nat} {h : aH} {Q : Int32 → aH → Prop} {x0 : Int32} {x1 : Int32} (S : SH h) (H : Q (((x0 * (nI 15)) + x1) * (nI 12)) h) : CI l E d bc bs mX7_priceAt [.inl x0, .inl x1] h Q := by
  refine CI.of (by decide) rfl ?_
  show TI l E mX7_priceAt d bc bs 0 [some (.inl x0), some (.inl x1)] [] h Q
  refine z_iload_n (pc := 0) dX7_priceAt_0 rfl rfl ?_
  refine z_bipush (pc := 1) (v := (nI 15)) dX7_priceAt_1 (by decide) ?_
  refine z_imul (pc := 3) dX7_priceAt_3 ?_
  refine z_iload_n (pc := 4) dX7_priceAt_4 rfl rfl ?_
  refine z_iadd (pc := 5) dX7_priceAt_5 ?_
  refine z_bipush (pc := 6) (v := (nI 12)) dX7_priceAt_6 (by decide) ?_
  refine z_imul (pc := 8) dX7_priceAt_8 ?_
  exact z_iret (pc := 9) dX7_priceAt_9 rfl rfl ⟨_, rfl, H⟩

abbrev LX7_rate_10 (l : Launch) (E : eE) (d bc bs : Nat) (x1 : Int32) (o2 : Nat) (o3 : Nat) (o4 : Nat) (x5 : Int32) (h : aH) (Q : Int32 → aH → Prop) : Prop := TI l E mX7_rate d bc bs 10 [some (.inr (some (0, 7, 27))), some (.inl x1), some (.inr (some (0, 9, o2))), some (.inr (some (0, 10, o3))), some (.inr (some (0, 1, o4))), some (.inl x5), none] [] h Q

abbrev LX7_rate_51 (l : Launch) (E : eE) (d bc bs : Nat) (x1 : Int32) (o2 : Nat) (o3 : Nat) (o4 : Nat) (x5 : Int32) (x6 : Int32) (h : aH) (Q : Int32 → aH → Prop) : Prop := TI l E mX7_rate d bc bs 51 [some (.inr (some (0, 7, 27))), some (.inl x1), some (.inr (some (0, 9, o2))), some (.inr (some (0, 10, o3))), some (.inr (some (0, 1, o4))), some (.inl x5), some (.inl x6)] [] h Q

set_option maxRecDepth 20000 in
theorem bX7_rate_0 {l : Launch} {E : eE} {d bc bs : Nat} {h : aH} {Q : Int32 → aH → Prop} {x1 : Int32} {o2 : Nat} {o3 : Nat} {o4 : Nat} (S : SH h) (g3 : isSh o3) (g4 : isBd o4) (H : (vp_in x1 6 ∧ LX7_rate_10 l E (d + 1) bc bs x1 o2 o3 o4 (nI 0) (stA h 34 (x1).toNatClampNeg (nI 0)) Q)) : CI l E (d + 1) bc bs mX7_rate [.inr (some (0, 7, 27)), .inl x1, .inr (some (0, 9, o2)), .inr (some (0, 10, o3)), .inr (some (0, 1, o4))] h Q := by
  refine CI.of (by decide) rfl ?_
  show TI l E mX7_rate (d + 1) bc bs 0 [some (.inr (some (0, 7, 27))), some (.inl x1), some (.inr (some (0, 9, o2))), some (.inr (some (0, 10, o3))), some (.inr (some (0, 1, o4))), none, none] [] h Q
  refine z_aload_n (pc := 0) dX7_rate_0 rfl rfl ?_
  refine z_getk (pc := 1) dX7_rate_1 fX7_32 rfl (s_27_4 S) ?_
  refine z_iload_n (pc := 4) dX7_rate_4 rfl rfl ?_
  refine z_iconst (pc := 5) (v := (nI 0)) dX7_rate_5 (by decide) ?_
  have c1 := H.1
  replace H := H.2
  refine z_iast (pc := 6) dX7_rate_6 c1 ?_
  refine z_iconst (pc := 7) (v := (nI 0)) dX7_rate_7 (by decide) ?_
  refine z_istore (pc := 8) (ls' := [some (.inr (some (0, 7, 27))), some (.inl x1), some (.inr (some (0, 9, o2))), some (.inr (some (0, 10, o3))), some (.inr (some (0, 1, o4))), some (.inl (nI 0)), none]) dX7_rate_8 rfl rfl ?_
  exact H

set_option maxRecDepth 20000 in
theorem bX7_rate_10 {l : Launch} {E : eE} {d bc bs : Nat} {h : aH} {Q : Int32 → aH → Prop} {x1 : Int32} {o2 : Nat} {o3 : Nat} {o4 : Nat} {x5 : Int32} (S : SH h) (g3 : isSh o3) (g4 : isBd o4) (H : (CI l E d 0 0 mX9_choices [.inr (some (0, 9, o2))] h (fun v1 h1 => SH h1 ∧ ((v1 ≤ x5 → (vp_in x1 6 ∧ (((hA h1 34 (x1).toNatClampNeg) = 0 → Q (nI 0) h1) ∧ (¬ (hA h1 34 (x1).toNatClampNeg) = 0 → Q (nI 1) h1)))) ∧ (¬ v1 ≤ x5 → (CI l E d 0 0 mX8_suits [.inr (some (0, 8, 31)), .inr (some (0, 9, o2)), .inr (some (0, 10, o3)), .inr (some (0, 1, o4)), .inl x5] h1 (fun v5 h5 => SH h5 ∧ ((v5 = 0 → LX7_rate_10 l E (d + 1) bc bs x1 o2 o3 o4 (x5 + (nI 1)) h5 Q) ∧ (¬ v5 = 0 → (vp_in x1 6 ∧ LX7_rate_51 l E (d + 1) bc bs x1 o2 o3 o4 x5 (nI 0) (stA h5 34 (x1).toNatClampNeg ((hA h5 34 (x1).toNatClampNeg) ||| ((nI 1) <<< (x5 &&& 31)))) Q)))))))))) : LX7_rate_10 l E (d + 1) bc bs x1 o2 o3 o4 x5 h Q := by
  refine z_iload (pc := 10) dX7_rate_10 rfl ?_
  refine z_aload_n (pc := 12) dX7_rate_12 rfl rfl ?_
  refine y_VI (pc := 13) (bc := bc) (bs := bs) (mc := 0) (ms := 0) (As := []) (rest := [.inl x5]) dX7_rate_13 kX9_choices lX7_70 ⟨_, _, rfl⟩ rfl rfl (H.use (fun v1 h1 H => ?_))
  have S1 := H.1
  replace H := H.2
  refine z_icmp_ge (pc := 16) (tgt := 96) dX7_rate_16 (by decide) (fun c2 => ?_) (fun c2 => ?_)
  · replace H := H.1 c2
    refine z_aload_n (pc := 96) dX7_rate_96 rfl rfl ?_
    refine z_getk (pc := 97) dX7_rate_97 fX7_32 rfl (s_27_4 S1) ?_
    refine z_iload_n (pc := 100) dX7_rate_100 rfl rfl ?_
    have c3 := H.1
    replace H := H.2
    refine z_iald (pc := 101) dX7_rate_101 c3 ?_
    refine z_if_eq (pc := 102) (tgt := 109) dX7_rate_102 (by decide) (fun c4 => ?_) (fun c4 => ?_)
    · replace H := H.1 c4
      refine z_iconst (pc := 109) (v := (nI 0)) dX7_rate_109 (by decide) ?_
      exact z_iret (pc := 110) dX7_rate_110 rfl rfl ⟨_, rfl, H⟩
    · replace H := H.2 c4
      refine z_iconst (pc := 105) (v := (nI 1)) dX7_rate_105 (by decide) ?_
      refine z_goto (pc := 106) (tgt := 110) dX7_rate_106 (by decide) ?_
      exact z_iret (pc := 110) dX7_rate_110 rfl rfl ⟨_, rfl, H⟩
  · replace H := H.2 c2
    refine z_aload_n (pc := 19) dX7_rate_19 rfl rfl ?_
    refine z_getk (pc := 20) dX7_rate_20 fX7_21 rfl (s_27_1 S1) ?_
    refine z_aload_n (pc := 23) dX7_rate_23 rfl rfl ?_
    refine z_aload_n (pc := 24) dX7_rate_24 rfl rfl ?_
    refine z_aload (pc := 25) dX7_rate_25 rfl ?_
    refine z_iload (pc := 27) dX7_rate_27 rfl ?_
    refine y_VI (pc := 29) (bc := bc) (bs := bs) (mc := 0) (ms := 0) (As := [.inr (some (0, 9, o2)), .inr (some (0, 10, o3)), .inr (some (0, 1, o4)), .inl x5]) (rest := []) dX7_rate_29 kX8_suits lX7_76 ⟨_, _, rfl⟩ rfl rfl (H.use (fun v5 h5 H => ?_))
    have S5 := H.1
    replace H := H.2
    refine z_if_eq (pc := 32) (tgt := 90) dX7_rate_32 (by decide) (fun c6 => ?_) (fun c6 => ?_)
    · replace H := H.1 c6
      refine z_iinc (pc := 90) (v := (x5 + (nI 1))) (ls' := [some (.inr (some (0, 7, 27))), some (.inl x1), some (.inr (some (0, 9, o2))), some (.inr (some (0, 10, o3))), some (.inr (some (0, 1, o4))), some (.inl (x5 + (nI 1))), none]) dX7_rate_90 rfl (by rw [show Int32.ofInt (1) = (nI 1) by decide]) rfl ?_
      refine z_goto (pc := 93) (tgt := 10) dX7_rate_93 (by decide) ?_
      exact H
    · replace H := H.2 c6
      refine z_aload_n (pc := 35) dX7_rate_35 rfl rfl ?_
      refine z_getk (pc := 36) dX7_rate_36 fX7_32 rfl (s_27_4 S5) ?_
      refine z_iload_n (pc := 39) dX7_rate_39 rfl rfl ?_
      refine z_dup2 (pc := 40) dX7_rate_40 ?_
      have c7 := H.1
      replace H := H.2
      refine z_iald (pc := 41) dX7_rate_41 c7 ?_
      refine z_iconst (pc := 42) (v := (nI 1)) dX7_rate_42 (by decide) ?_
      refine z_iload (pc := 43) dX7_rate_43 rfl ?_
      refine z_ishl (pc := 45) dX7_rate_45 ?_
      refine z_ior (pc := 46) dX7_rate_46 ?_
      refine z_iast (pc := 47) dX7_rate_47 c7 ?_
      refine z_iconst (pc := 48) (v := (nI 0)) dX7_rate_48 (by decide) ?_
      refine z_istore (pc := 49) (ls' := [some (.inr (some (0, 7, 27))), some (.inl x1), some (.inr (some (0, 9, o2))), some (.inr (some (0, 10, o3))), some (.inr (some (0, 1, o4))), some (.inl x5), some (.inl (nI 0))]) dX7_rate_49 rfl rfl ?_
      exact H

set_option maxRecDepth 20000 in
theorem bX7_rate_51 {l : Launch} {E : eE} {d bc bs : Nat} {h : aH} {Q : Int32 → aH → Prop} {x1 : Int32} {o2 : Nat} {o3 : Nat} {o4 : Nat} {x5 : Int32} {x6 : Int32} (S : SH h) (g3 : isSh o3) (g4 : isBd o4) (H : (((hI h 27 10) ≤ x6 → LX7_rate_10 l E (d + 1) bc bs x1 o2 o3 o4 (x5 + (nI 1)) h Q) ∧ (¬ (hI h 27 10) ≤ x6 → (CI l E d 0 0 mX7_priceAt [.inl x1, .inl x5] h (fun v2 h2 => SH h2 ∧ (CI l E d 0 0 mX8_priceFor [.inr (some (0, 8, 31)), .inr (some (0, 10, o3)), .inl x6] h2 (fun v3 h3 => SH h3 ∧ (vp_in (v2 + x6) 1080 ∧ LX7_rate_51 l E (d + 1) bc bs x1 o2 o3 o4 x5 (x6 + (nI 1)) (stA h3 35 ((v2 + x6)).toNatClampNeg v3) Q)))))))) : LX7_rate_51 l E (d + 1) bc bs x1 o2 o3 o4 x5 x6 h Q := by
  refine z_iload (pc := 51) dX7_rate_51 rfl ?_
  refine z_aload_n (pc := 53) dX7_rate_53 rfl rfl ?_
  refine z_geti (pc := 54) dX7_rate_54 fX7_57 rfl ?_
  refine z_icmp_ge (pc := 57) (tgt := 90) dX7_rate_57 (by decide) (fun c1 => ?_) (fun c1 => ?_)
  · replace H := H.1 c1
    refine z_iinc (pc := 90) (v := (x5 + (nI 1))) (ls' := [some (.inr (some (0, 7, 27))), some (.inl x1), some (.inr (some (0, 9, o2))), some (.inr (some (0, 10, o3))), some (.inr (some (0, 1, o4))), some (.inl (x5 + (nI 1))), some (.inl x6)]) dX7_rate_90 rfl (by rw [show Int32.ofInt (1) = (nI 1) by decide]) rfl ?_
    refine z_goto (pc := 93) (tgt := 10) dX7_rate_93 (by decide) ?_
    exact z_drop (ls' := [some (.inr (some (0, 7, 27))), some (.inl x1), some (.inr (some (0, 9, o2))), some (.inr (some (0, 10, o3))), some (.inr (some (0, 1, o4))), some (.inl (x5 + (nI 1))), none]) (by simp [dropL]) H
  · replace H := H.2 c1
    refine z_aload_n (pc := 60) dX7_rate_60 rfl rfl ?_
    refine z_getk (pc := 61) dX7_rate_61 fX7_35 rfl (s_27_5 S) ?_
    refine z_iload_n (pc := 64) dX7_rate_64 rfl rfl ?_
    refine z_iload (pc := 65) dX7_rate_65 rfl ?_
    refine y_SI (pc := 67) (bc := bc) (bs := bs) (mc := 0) (ms := 0) (As := [.inl x1, .inl x5]) (rest := [.inr (some (1, 1080, 35))]) dX7_rate_67 kX7_priceAt lX7_80 rfl rfl (H.use (fun v2 h2 H => ?_))
    have S2 := H.1
    replace H := H.2
    refine z_iload (pc := 70) dX7_rate_70 rfl ?_
    refine z_iadd (pc := 72) dX7_rate_72 ?_
    refine z_aload_n (pc := 73) dX7_rate_73 rfl rfl ?_
    refine z_getk (pc := 74) dX7_rate_74 fX7_21 rfl (s_27_1 S2) ?_
    refine z_aload_n (pc := 77) dX7_rate_77 rfl rfl ?_
    refine z_iload (pc := 78) dX7_rate_78 rfl ?_
    refine y_VI (pc := 80) (bc := bc) (bs := bs) (mc := 0) (ms := 0) (As := [.inr (some (0, 10, o3)), .inl x6]) (rest := [.inl (v2 + x6), .inr (some (1, 1080, 35))]) dX7_rate_80 kX8_priceFor lX7_83 ⟨_, _, rfl⟩ rfl rfl (H.use (fun v3 h3 H => ?_))
    have S3 := H.1
    replace H := H.2
    have c4 := H.1
    replace H := H.2
    refine z_iast (pc := 83) dX7_rate_83 c4 ?_
    refine z_iinc (pc := 84) (v := (x6 + (nI 1))) (ls' := [some (.inr (some (0, 7, 27))), some (.inl x1), some (.inr (some (0, 9, o2))), some (.inr (some (0, 10, o3))), some (.inr (some (0, 1, o4))), some (.inl x5), some (.inl (x6 + (nI 1)))]) dX7_rate_84 rfl (by rw [show Int32.ofInt (1) = (nI 1) by decide]) rfl ?_
    refine z_goto (pc := 87) (tgt := 51) dX7_rate_87 (by decide) ?_
    exact H

abbrev LX7_leastAt_5 (l : Launch) (E : eE) (d bc bs : Nat) (x1 : Int32) (x2 : Int32) (x3 : Int32) (x4 : Int32) (h : aH) (Q : Int32 → aH → Prop) : Prop := TI l E mX7_leastAt d bc bs 5 [some (.inr (some (0, 7, 27))), some (.inl x1), some (.inl x2), some (.inl x3), some (.inl x4), none] [] h Q

set_option maxRecDepth 20000 in
theorem bX7_leastAt_0 {l : Launch} {E : eE} {d bc bs : Nat} {h : aH} {Q : Int32 → aH → Prop} {x1 : Int32} {x2 : Int32} (S : SH h) (H : LX7_leastAt_5 l E (d + 1) bc bs x1 x2 (-1) (nI 0) h Q) : CI l E (d + 1) bc bs mX7_leastAt [.inr (some (0, 7, 27)), .inl x1, .inl x2] h Q := by
  refine CI.of (by decide) rfl ?_
  show TI l E mX7_leastAt (d + 1) bc bs 0 [some (.inr (some (0, 7, 27))), some (.inl x1), some (.inl x2), none, none, none] [] h Q
  refine z_iconst (pc := 0) (v := (-1)) dX7_leastAt_0 (by decide) ?_
  refine z_istore_n (pc := 1) (ls' := [some (.inr (some (0, 7, 27))), some (.inl x1), some (.inl x2), some (.inl (-1)), none, none]) dX7_leastAt_1 rfl rfl rfl ?_
  refine z_iconst (pc := 2) (v := (nI 0)) dX7_leastAt_2 (by decide) ?_
  refine z_istore (pc := 3) (ls' := [some (.inr (some (0, 7, 27))), some (.inl x1), some (.inl x2), some (.inl (-1)), some (.inl (nI 0)), none]) dX7_leastAt_3 rfl rfl ?_
  exact H

set_option maxRecDepth 20000 in
theorem bX7_leastAt_5 {l : Launch} {E : eE} {d bc bs : Nat} {h : aH} {Q : Int32 → aH → Prop} {x1 : Int32} {x2 : Int32} {x3 : Int32} {x4 : Int32} (S : SH h) (H : (((nI 15) ≤ x4 → Q x3 h) ∧ (¬ (nI 15) ≤ x4 → (vp_in x1 6 ∧ (CI l E d 0 0 mX11_isIn [.inl (hA h 34 (x1).toNatClampNeg), .inl x4] h (fun v3 h3 => SH h3 ∧ ((v3 = 0 → LX7_leastAt_5 l E (d + 1) bc bs x1 x2 x3 (x4 + (nI 1)) h3 Q) ∧ (¬ v3 = 0 → (CI l E d 0 0 mX7_priceAt [.inl x1, .inl x4] h3 (fun v5 h5 => SH h5 ∧ (vp_in (v5 + x2) 1080 ∧ ((¬ x3 = (-1) → (CI l E d 0 0 mJ9_min_7cf53 [.inl x3, .inl (hA h5 35 ((v5 + x2)).toNatClampNeg)] h5 (fun v8 h8 => SH h8 ∧ LX7_leastAt_5 l E (d + 1) bc bs x1 x2 v8 (x4 + (nI 1)) h8 Q))) ∧ (x3 = (-1) → LX7_leastAt_5 l E (d + 1) bc bs x1 x2 (hA h5 35 ((v5 + x2)).toNatClampNeg) (x4 + (nI 1)) h5 Q))))))))))))) : LX7_leastAt_5 l E (d + 1) bc bs x1 x2 x3 x4 h Q := by
  refine z_iload (pc := 5) dX7_leastAt_5 rfl ?_
  refine z_bipush (pc := 7) (v := (nI 15)) dX7_leastAt_7 (by decide) ?_
  refine z_icmp_ge (pc := 9) (tgt := 64) dX7_leastAt_9 (by decide) (fun c1 => ?_) (fun c1 => ?_)
  · replace H := H.1 c1
    refine z_iload_n (pc := 64) dX7_leastAt_64 rfl rfl ?_
    exact z_iret (pc := 65) dX7_leastAt_65 rfl rfl ⟨_, rfl, H⟩
  · replace H := H.2 c1
    refine z_aload_n (pc := 12) dX7_leastAt_12 rfl rfl ?_
    refine z_getk (pc := 13) dX7_leastAt_13 fX7_32 rfl (s_27_4 S) ?_
    refine z_iload_n (pc := 16) dX7_leastAt_16 rfl rfl ?_
    have c2 := H.1
    replace H := H.2
    refine z_iald (pc := 17) dX7_leastAt_17 c2 ?_
    refine z_iload (pc := 18) dX7_leastAt_18 rfl ?_
    refine y_NI (pc := 20) (bc := bc) (bs := bs) (mc := 0) (ms := 0) (As := [.inl (hA h 34 (x1).toNatClampNeg), .inl x4]) (rest := []) dX7_leastAt_20 kX11_isIn lX7_93 rfl rfl (H.use (fun v3 h3 H => ?_))
    have S3 := H.1
    replace H := H.2
    refine z_if_eq (pc := 23) (tgt := 58) dX7_leastAt_23 (by decide) (fun c4 => ?_) (fun c4 => ?_)
    · replace H := H.1 c4
      refine z_iinc (pc := 58) (v := (x4 + (nI 1))) (ls' := [some (.inr (some (0, 7, 27))), some (.inl x1), some (.inl x2), some (.inl x3), some (.inl (x4 + (nI 1))), none]) dX7_leastAt_58 rfl (by rw [show Int32.ofInt (1) = (nI 1) by decide]) rfl ?_
      refine z_goto (pc := 61) (tgt := 5) dX7_leastAt_61 (by decide) ?_
      exact H
    · replace H := H.2 c4
      refine z_aload_n (pc := 26) dX7_leastAt_26 rfl rfl ?_
      refine z_getk (pc := 27) dX7_leastAt_27 fX7_35 rfl (s_27_5 S3) ?_
      refine z_iload_n (pc := 30) dX7_leastAt_30 rfl rfl ?_
      refine z_iload (pc := 31) dX7_leastAt_31 rfl ?_
      refine y_SI (pc := 33) (bc := bc) (bs := bs) (mc := 0) (ms := 0) (As := [.inl x1, .inl x4]) (rest := [.inr (some (1, 1080, 35))]) dX7_leastAt_33 kX7_priceAt lX7_80 rfl rfl (H.use (fun v5 h5 H => ?_))
      have S5 := H.1
      replace H := H.2
      refine z_iload_n (pc := 36) dX7_leastAt_36 rfl rfl ?_
      refine z_iadd (pc := 37) dX7_leastAt_37 ?_
      have c6 := H.1
      replace H := H.2
      refine z_iald (pc := 38) dX7_leastAt_38 c6 ?_
      refine z_istore (pc := 39) (ls' := [some (.inr (some (0, 7, 27))), some (.inl x1), some (.inl x2), some (.inl x3), some (.inl x4), some (.inl (hA h5 35 ((v5 + x2)).toNatClampNeg))]) dX7_leastAt_39 rfl rfl ?_
      refine z_iload_n (pc := 41) dX7_leastAt_41 rfl rfl ?_
      refine z_iconst (pc := 42) (v := (-1)) dX7_leastAt_42 (by decide) ?_
      refine z_icmp_ne (pc := 43) (tgt := 51) dX7_leastAt_43 (by decide) (fun c7 => ?_) (fun c7 => ?_)
      · replace H := H.1 c7
        refine z_iload_n (pc := 51) dX7_leastAt_51 rfl rfl ?_
        refine z_iload (pc := 52) dX7_leastAt_52 rfl ?_
        refine y_SI (pc := 54) (bc := bc) (bs := bs) (mc := 0) (ms := 0) (As := [.inl x3, .inl (hA h5 35 ((v5 + x2)).toNatClampNeg)]) (rest := []) dX7_leastAt_54 kJ9_min_7cf53 lX7_47 rfl rfl (H.use (fun v8 h8 H => ?_))
        have S8 := H.1
        replace H := H.2
        refine z_istore_n (pc := 57) (ls' := [some (.inr (some (0, 7, 27))), some (.inl x1), some (.inl x2), some (.inl v8), some (.inl x4), some (.inl (hA h5 35 ((v5 + x2)).toNatClampNeg))]) dX7_leastAt_57 rfl rfl rfl ?_
        refine z_iinc (pc := 58) (v := (x4 + (nI 1))) (ls' := [some (.inr (some (0, 7, 27))), some (.inl x1), some (.inl x2), some (.inl v8), some (.inl (x4 + (nI 1))), some (.inl (hA h5 35 ((v5 + x2)).toNatClampNeg))]) dX7_leastAt_58 rfl (by rw [show Int32.ofInt (1) = (nI 1) by decide]) rfl ?_
        refine z_goto (pc := 61) (tgt := 5) dX7_leastAt_61 (by decide) ?_
        exact z_drop (ls' := [some (.inr (some (0, 7, 27))), some (.inl x1), some (.inl x2), some (.inl v8), some (.inl (x4 + (nI 1))), none]) (by simp [dropL]) H
      · replace H := H.2 c7
        refine z_iload (pc := 46) dX7_leastAt_46 rfl ?_
        refine z_goto (pc := 48) (tgt := 57) dX7_leastAt_48 (by decide) ?_
        refine z_istore_n (pc := 57) (ls' := [some (.inr (some (0, 7, 27))), some (.inl x1), some (.inl x2), some (.inl (hA h5 35 ((v5 + x2)).toNatClampNeg)), some (.inl x4), some (.inl (hA h5 35 ((v5 + x2)).toNatClampNeg))]) dX7_leastAt_57 rfl rfl rfl ?_
        refine z_iinc (pc := 58) (v := (x4 + (nI 1))) (ls' := [some (.inr (some (0, 7, 27))), some (.inl x1), some (.inl x2), some (.inl (hA h5 35 ((v5 + x2)).toNatClampNeg)), some (.inl (x4 + (nI 1))), some (.inl (hA h5 35 ((v5 + x2)).toNatClampNeg))]) dX7_leastAt_58 rfl (by rw [show Int32.ofInt (1) = (nI 1) by decide]) rfl ?_
        refine z_goto (pc := 61) (tgt := 5) dX7_leastAt_61 (by decide) ?_
        exact z_drop (ls' := [some (.inr (some (0, 7, 27))), some (.inl x1), some (.inl x2), some (.inl (hA h5 35 ((v5 + x2)).toNatClampNeg)), some (.inl (x4 + (nI 1))), none]) (by simp [dropL]) H

abbrev LX7_charge_2 (l : Launch) (E : eE) (d bc bs : Nat) (x1 : Int32) (x2 : Int32) (x3 : Int32) (h : aH) (Q : aH → Prop) : Prop := TV l E mX7_charge d bc bs 2 [some (.inr (some (0, 7, 27))), some (.inl x1), some (.inl x2), some (.inl x3)] [] h Q

set_option maxRecDepth 20000 in
theorem bX7_charge_0 {l : Launch} {E : eE} {d bc bs : Nat} {h : aH} {Q : aH → Prop} {x1 : Int32} {x2 : Int32} (S : SH h) (H : LX7_charge_2 l E d bc bs x1 x2 (nI 0) h Q) : CV l E d bc bs mX7_charge [.inr (some (0, 7, 27)), .inl x1, .inl x2] h Q := by
  refine CV.of (by decide) rfl ?_
  show TV l E mX7_charge d bc bs 0 [some (.inr (some (0, 7, 27))), some (.inl x1), some (.inl x2), none] [] h Q
  refine z_iconst (pc := 0) (v := (nI 0)) dX7_charge_0 (by decide) ?_
  refine z_istore_n (pc := 1) (ls' := [some (.inr (some (0, 7, 27))), some (.inl x1), some (.inl x2), some (.inl (nI 0))]) dX7_charge_1 rfl rfl rfl ?_
  exact H

set_option maxRecDepth 20000 in
theorem bX7_charge_2 {l : Launch} {E : eE} {d bc bs : Nat} {h : aH} {Q : aH → Prop} {x1 : Int32} {x2 : Int32} {x3 : Int32} (S : SH h) (H : (((hI h 27 10) ≤ x3 → Q h) ∧ (¬ (hI h 27 10) ≤ x3 → (vp_in x3 12 ∧ (vp_in (x1 + x3) 1080 ∧ LX7_charge_2 l E d bc bs x1 x2 (x3 + (nI 1)) (stA h 37 (x3).toNatClampNeg ((hA h 37 (x3).toNatClampNeg) + (x2 * (hA h 35 ((x1 + x3)).toNatClampNeg)))) Q))))) : LX7_charge_2 l E d bc bs x1 x2 x3 h Q := by
  refine z_iload_n (pc := 2) dX7_charge_2 rfl rfl ?_
  refine z_aload_n (pc := 3) dX7_charge_3 rfl rfl ?_
  refine z_geti (pc := 4) dX7_charge_4 fX7_57 rfl ?_
  refine z_icmp_ge (pc := 7) (tgt := 35) dX7_charge_7 (by decide) (fun c1 => ?_) (fun c1 => ?_)
  · replace H := H.1 c1
    exact z_ret (pc := 35) dX7_charge_35 rfl ⟨rfl, H⟩
  · replace H := H.2 c1
    refine z_aload_n (pc := 10) dX7_charge_10 rfl rfl ?_
    refine z_getk (pc := 11) dX7_charge_11 fX7_41 rfl (s_27_7 S) ?_
    refine z_iload_n (pc := 14) dX7_charge_14 rfl rfl ?_
    refine z_dup2 (pc := 15) dX7_charge_15 ?_
    have c2 := H.1
    replace H := H.2
    refine z_iald (pc := 16) dX7_charge_16 c2 ?_
    refine z_iload_n (pc := 17) dX7_charge_17 rfl rfl ?_
    refine z_aload_n (pc := 18) dX7_charge_18 rfl rfl ?_
    refine z_getk (pc := 19) dX7_charge_19 fX7_35 rfl (s_27_5 S) ?_
    refine z_iload_n (pc := 22) dX7_charge_22 rfl rfl ?_
    refine z_iload_n (pc := 23) dX7_charge_23 rfl rfl ?_
    refine z_iadd (pc := 24) dX7_charge_24 ?_
    have c3 := H.1
    replace H := H.2
    refine z_iald (pc := 25) dX7_charge_25 c3 ?_
    refine z_imul (pc := 26) dX7_charge_26 ?_
    refine z_iadd (pc := 27) dX7_charge_27 ?_
    refine z_iast (pc := 28) dX7_charge_28 c2 ?_
    refine z_iinc (pc := 29) (v := (x3 + (nI 1))) (ls' := [some (.inr (some (0, 7, 27))), some (.inl x1), some (.inl x2), some (.inl (x3 + (nI 1)))]) dX7_charge_29 rfl (by rw [show Int32.ofInt (1) = (nI 1) by decide]) rfl ?_
    refine z_goto (pc := 32) (tgt := 2) dX7_charge_32 (by decide) ?_
    exact H

set_option maxRecDepth 20000 in
theorem bX7_searchBehind_0 {l : Launch} {E : eE} {d bc bs : Nat} {h : aH} {Q : aH → Prop} {x1 : Int32} {x2 : Int32} (S : SH h) (H : (CV l E d 0 0 mX7_charge [.inr (some (0, 7, 27)), .inl x2, .inl (nI 1)] h (fun h1 => SH h1 ∧ (CV l E d 0 0 mX7_search [.inr (some (0, 7, 27)), .inl (x1 + (nI 1))] h1 (fun h2 => SH h2 ∧ (CV l E d 0 0 mX7_charge [.inr (some (0, 7, 27)), .inl x2, .inl (-1)] h2 (fun h3 => SH h3 ∧ Q h3))))))) : CV l E (d + 1) bc bs mX7_searchBehind [.inr (some (0, 7, 27)), .inl x1, .inl x2] h Q := by
  refine CV.of (by decide) rfl ?_
  show TV l E mX7_searchBehind (d + 1) bc bs 0 [some (.inr (some (0, 7, 27))), some (.inl x1), some (.inl x2)] [] h Q
  refine z_aload_n (pc := 0) dX7_searchBehind_0 rfl rfl ?_
  refine z_iload_n (pc := 1) dX7_searchBehind_1 rfl rfl ?_
  refine z_iconst (pc := 2) (v := (nI 1)) dX7_searchBehind_2 (by decide) ?_
  refine y_VV (pc := 3) (bc := bc) (bs := bs) (mc := 0) (ms := 0) (As := [.inl x2, .inl (nI 1)]) (rest := []) dX7_searchBehind_3 kX7_charge lX7_115 ⟨_, _, rfl⟩ rfl rfl (H.use (fun h1 H => ?_))
  have S1 := H.1
  replace H := H.2
  refine z_aload_n (pc := 6) dX7_searchBehind_6 rfl rfl ?_
  refine z_iload_n (pc := 7) dX7_searchBehind_7 rfl rfl ?_
  refine z_iconst (pc := 8) (v := (nI 1)) dX7_searchBehind_8 (by decide) ?_
  refine z_iadd (pc := 9) dX7_searchBehind_9 ?_
  refine y_VV (pc := 10) (bc := bc) (bs := bs) (mc := 0) (ms := 0) (As := [.inl (x1 + (nI 1))]) (rest := []) dX7_searchBehind_10 kX7_search lX7_90 ⟨_, _, rfl⟩ rfl rfl (H.use (fun h2 H => ?_))
  have S2 := H.1
  replace H := H.2
  refine z_aload_n (pc := 13) dX7_searchBehind_13 rfl rfl ?_
  refine z_iload_n (pc := 14) dX7_searchBehind_14 rfl rfl ?_
  refine z_iconst (pc := 15) (v := (-1)) dX7_searchBehind_15 (by decide) ?_
  refine y_VV (pc := 16) (bc := bc) (bs := bs) (mc := 0) (ms := 0) (As := [.inl x2, .inl (-1)]) (rest := []) dX7_searchBehind_16 kX7_charge lX7_115 ⟨_, _, rfl⟩ rfl rfl (H.use (fun h3 H => ?_))
  have S3 := H.1
  replace H := H.2
  exact z_ret (pc := 19) dX7_searchBehind_19 rfl ⟨rfl, H⟩

abbrev LX7_search_2 (l : Launch) (E : eE) (d bc bs : Nat) (x1 : Int32) (x2 : Int32) (h : aH) (Q : aH → Prop) : Prop := TV l E mX7_search d bc bs 2 [some (.inr (some (0, 7, 27))), some (.inl x1), some (.inl x2)] [] h Q

abbrev LX7_search_94 (l : Launch) (E : eE) (d bc bs : Nat) (x1 : Int32) (x2 : Int32) (h : aH) (Q : aH → Prop) : Prop := TV l E mX7_search d bc bs 94 [some (.inr (some (0, 7, 27))), some (.inl x1), some (.inl x2)] [] h Q

set_option maxRecDepth 20000 in
theorem bX7_search_0 {l : Launch} {E : eE} {d bc bs : Nat} {h : aH} {Q : aH → Prop} {x1 : Int32} (S : SH h) (H : LX7_search_2 l E (d + 1) bc bs x1 (nI 0) h Q) : CV l E (d + 1) bc bs mX7_search [.inr (some (0, 7, 27)), .inl x1] h Q := by
  refine CV.of (by decide) rfl ?_
  show TV l E mX7_search (d + 1) bc bs 0 [some (.inr (some (0, 7, 27))), some (.inl x1), none] [] h Q
  refine z_iconst (pc := 0) (v := (nI 0)) dX7_search_0 (by decide) ?_
  refine z_istore_n (pc := 1) (ls' := [some (.inr (some (0, 7, 27))), some (.inl x1), some (.inl (nI 0))]) dX7_search_1 rfl rfl rfl ?_
  exact H

set_option maxRecDepth 20000 in
theorem bX7_search_2 {l : Launch} {E : eE} {d bc bs : Nat} {h : aH} {Q : aH → Prop} {x1 : Int32} {x2 : Int32} (S : SH h) (H : (((hI h 27 10) ≤ x2 → (CI l E d 0 0 mX2_isBetter [.inr (some (0, 2, 28)), .inr (some (1, 12, 38))] h (fun v2 h2 => SH h2 ∧ ((¬ v2 = 0 → ((x1 < (hI h2 27 9) → LX7_search_94 l E (d + 1) bc bs x1 (nI 0) h2 Q) ∧ (¬ x1 < (hI h2 27 9) → (CV l E d 0 0 mX2_keep [.inr (some (0, 2, 28)), .inr (some (1, 12, 37))] h2 (fun h5 => SH h5 ∧ (¬ (nI 0) < 0 ∧ ¬ (nI 0) < 0 ∧ ¬ (hI h5 27 9) < 0 ∧ ((nI 0)).toNatClampNeg + ((hI h5 27 9)).toNatClampNeg ≤ 6 ∧ ((nI 0)).toNatClampNeg + ((hI h5 27 9)).toNatClampNeg ≤ 6 ∧ Q (stAA h5 32 (va_cpy (hA h5 33) (hA h5 32) ((nI 0)).toNatClampNeg ((nI 0)).toNatClampNeg ((hI h5 27 9)).toNatClampNeg)))))))) ∧ (v2 = 0 → Q h2))))) ∧ (¬ (hI h 27 10) ≤ x2 → (vp_in x2 12 ∧ (vp_in ((x1 * (nI 12)) + x2) 84 ∧ LX7_search_2 l E (d + 1) bc bs x1 (x2 + (nI 1)) (stA h 38 (x2).toNatClampNeg ((hA h 37 (x2).toNatClampNeg) + (hA h 36 (((x1 * (nI 12)) + x2)).toNatClampNeg))) Q))))) : LX7_search_2 l E (d + 1) bc bs x1 x2 h Q := by
  refine z_iload_n (pc := 2) dX7_search_2 rfl rfl ?_
  refine z_aload_n (pc := 3) dX7_search_3 rfl rfl ?_
  refine z_geti (pc := 4) dX7_search_4 fX7_57 rfl ?_
  refine z_icmp_ge (pc := 7) (tgt := 40) dX7_search_7 (by decide) (fun c1 => ?_) (fun c1 => ?_)
  · replace H := H.1 c1
    refine z_aload_n (pc := 40) dX7_search_40 rfl rfl ?_
    refine z_getk (pc := 41) dX7_search_41 fX7_12 rfl (s_27_0 S) ?_
    refine z_aload_n (pc := 44) dX7_search_44 rfl rfl ?_
    refine z_getk (pc := 45) dX7_search_45 fX7_44 rfl (s_27_8 S) ?_
    refine y_VI (pc := 48) (bc := bc) (bs := bs) (mc := 0) (ms := 0) (As := [.inr (some (1, 12, 38))]) (rest := []) dX7_search_48 kX2_isBetter lX7_97 ⟨_, _, rfl⟩ rfl rfl (H.use (fun v2 h2 H => ?_))
    have S2 := H.1
    replace H := H.2
    refine z_if_ne (pc := 51) (tgt := 55) dX7_search_51 (by decide) (fun c3 => ?_) (fun c3 => ?_)
    · replace H := H.1 c3
      refine z_iload_n (pc := 55) dX7_search_55 rfl rfl ?_
      refine z_aload_n (pc := 56) dX7_search_56 rfl rfl ?_
      refine z_geti (pc := 57) dX7_search_57 fX7_53 rfl ?_
      refine z_icmp_lt (pc := 60) (tgt := 92) dX7_search_60 (by decide) (fun c4 => ?_) (fun c4 => ?_)
      · replace H := H.1 c4
        refine z_iconst (pc := 92) (v := (nI 0)) dX7_search_92 (by decide) ?_
        refine z_istore_n (pc := 93) (ls' := [some (.inr (some (0, 7, 27))), some (.inl x1), some (.inl (nI 0))]) dX7_search_93 rfl rfl rfl ?_
        exact H
      · replace H := H.2 c4
        refine z_aload_n (pc := 63) dX7_search_63 rfl rfl ?_
        refine z_getk (pc := 64) dX7_search_64 fX7_12 rfl (s_27_0 S2) ?_
        refine z_aload_n (pc := 67) dX7_search_67 rfl rfl ?_
        refine z_getk (pc := 68) dX7_search_68 fX7_41 rfl (s_27_7 S2) ?_
        refine y_VV (pc := 71) (bc := bc) (bs := bs) (mc := 0) (ms := 0) (As := [.inr (some (1, 12, 37))]) (rest := []) dX7_search_71 kX2_keep lX7_101 ⟨_, _, rfl⟩ rfl rfl (H.use (fun h5 H => ?_))
        have S5 := H.1
        replace H := H.2
        refine z_aload_n (pc := 74) dX7_search_74 rfl rfl ?_
        refine z_getk (pc := 75) dX7_search_75 fX7_29 rfl (s_27_3 S5) ?_
        refine z_iconst (pc := 78) (v := (nI 0)) dX7_search_78 (by decide) ?_
        refine z_aload_n (pc := 79) dX7_search_79 rfl rfl ?_
        refine z_getk (pc := 80) dX7_search_80 fX7_25 rfl (s_27_2 S5) ?_
        refine z_iconst (pc := 83) (v := (nI 0)) dX7_search_83 (by decide) ?_
        refine z_aload_n (pc := 84) dX7_search_84 rfl rfl ?_
        refine z_geti (pc := 85) dX7_search_85 fX7_53 rfl ?_
        obtain ⟨w1, w2, w3, w4, w5, H⟩ := H
        refine z_copy (pc := 88) dX7_search_88 lX7_105 w1 w2 w3 w4 w5 rfl ?_
        exact z_ret (pc := 91) dX7_search_91 rfl ⟨rfl, H⟩
    · replace H := H.2 c3
      exact z_ret (pc := 54) dX7_search_54 rfl ⟨rfl, H⟩
  · replace H := H.2 c1
    refine z_aload_n (pc := 10) dX7_search_10 rfl rfl ?_
    refine z_getk (pc := 11) dX7_search_11 fX7_44 rfl (s_27_8 S) ?_
    refine z_iload_n (pc := 14) dX7_search_14 rfl rfl ?_
    refine z_aload_n (pc := 15) dX7_search_15 rfl rfl ?_
    refine z_getk (pc := 16) dX7_search_16 fX7_41 rfl (s_27_7 S) ?_
    refine z_iload_n (pc := 19) dX7_search_19 rfl rfl ?_
    have c6 := H.1
    replace H := H.2
    refine z_iald (pc := 20) dX7_search_20 c6 ?_
    refine z_aload_n (pc := 21) dX7_search_21 rfl rfl ?_
    refine z_getk (pc := 22) dX7_search_22 fX7_38 rfl (s_27_6 S) ?_
    refine z_iload_n (pc := 25) dX7_search_25 rfl rfl ?_
    refine z_bipush (pc := 26) (v := (nI 12)) dX7_search_26 (by decide) ?_
    refine z_imul (pc := 28) dX7_search_28 ?_
    refine z_iload_n (pc := 29) dX7_search_29 rfl rfl ?_
    refine z_iadd (pc := 30) dX7_search_30 ?_
    have c7 := H.1
    replace H := H.2
    refine z_iald (pc := 31) dX7_search_31 c7 ?_
    refine z_iadd (pc := 32) dX7_search_32 ?_
    refine z_iast (pc := 33) dX7_search_33 c6 ?_
    refine z_iinc (pc := 34) (v := (x2 + (nI 1))) (ls' := [some (.inr (some (0, 7, 27))), some (.inl x1), some (.inl (x2 + (nI 1)))]) dX7_search_34 rfl (by rw [show Int32.ofInt (1) = (nI 1) by decide]) rfl ?_
    refine z_goto (pc := 37) (tgt := 2) dX7_search_37 (by decide) ?_
    exact H

set_option maxRecDepth 20000 in
theorem bX7_search_94 {l : Launch} {E : eE} {d bc bs : Nat} {h : aH} {Q : aH → Prop} {x1 : Int32} {x2 : Int32} (S : SH h) (H : (((nI 15) ≤ x2 → Q h) ∧ (¬ (nI 15) ≤ x2 → (vp_in x1 6 ∧ (CI l E d 0 0 mX11_isIn [.inl (hA h 34 (x1).toNatClampNeg), .inl x2] h (fun v3 h3 => SH h3 ∧ ((v3 = 0 → LX7_search_94 l E (d + 1) bc bs x1 (x2 + (nI 1)) h3 Q) ∧ (¬ v3 = 0 → (CI l E d 0 0 mX7_priceAt [.inl x1, .inl x2] (stA h3 33 (x1).toNatClampNeg x2) (fun v5 h5 => SH h5 ∧ (CV l E d 0 0 mX7_searchBehind [.inr (some (0, 7, 27)), .inl x1, .inl v5] h5 (fun h6 => SH h6 ∧ LX7_search_94 l E (d + 1) bc bs x1 (x2 + (nI 1)) h6 Q)))))))))))) : LX7_search_94 l E (d + 1) bc bs x1 x2 h Q := by
  refine z_iload_n (pc := 94) dX7_search_94 rfl rfl ?_
  refine z_bipush (pc := 95) (v := (nI 15)) dX7_search_95 (by decide) ?_
  refine z_icmp_ge (pc := 97) (tgt := 136) dX7_search_97 (by decide) (fun c1 => ?_) (fun c1 => ?_)
  · replace H := H.1 c1
    exact z_ret (pc := 136) dX7_search_136 rfl ⟨rfl, H⟩
  · replace H := H.2 c1
    refine z_aload_n (pc := 100) dX7_search_100 rfl rfl ?_
    refine z_getk (pc := 101) dX7_search_101 fX7_32 rfl (s_27_4 S) ?_
    refine z_iload_n (pc := 104) dX7_search_104 rfl rfl ?_
    have c2 := H.1
    replace H := H.2
    refine z_iald (pc := 105) dX7_search_105 c2 ?_
    refine z_iload_n (pc := 106) dX7_search_106 rfl rfl ?_
    refine y_NI (pc := 107) (bc := bc) (bs := bs) (mc := 0) (ms := 0) (As := [.inl (hA h 34 (x1).toNatClampNeg), .inl x2]) (rest := []) dX7_search_107 kX11_isIn lX7_93 rfl rfl (H.use (fun v3 h3 H => ?_))
    have S3 := H.1
    replace H := H.2
    refine z_if_eq (pc := 110) (tgt := 130) dX7_search_110 (by decide) (fun c4 => ?_) (fun c4 => ?_)
    · replace H := H.1 c4
      refine z_iinc (pc := 130) (v := (x2 + (nI 1))) (ls' := [some (.inr (some (0, 7, 27))), some (.inl x1), some (.inl (x2 + (nI 1)))]) dX7_search_130 rfl (by rw [show Int32.ofInt (1) = (nI 1) by decide]) rfl ?_
      refine z_goto (pc := 133) (tgt := 94) dX7_search_133 (by decide) ?_
      exact H
    · replace H := H.2 c4
      refine z_aload_n (pc := 113) dX7_search_113 rfl rfl ?_
      refine z_getk (pc := 114) dX7_search_114 fX7_29 rfl (s_27_3 S3) ?_
      refine z_iload_n (pc := 117) dX7_search_117 rfl rfl ?_
      refine z_iload_n (pc := 118) dX7_search_118 rfl rfl ?_
      refine z_iast (pc := 119) dX7_search_119 c2 ?_
      refine z_aload_n (pc := 120) dX7_search_120 rfl rfl ?_
      refine z_iload_n (pc := 121) dX7_search_121 rfl rfl ?_
      refine z_iload_n (pc := 122) dX7_search_122 rfl rfl ?_
      refine z_iload_n (pc := 123) dX7_search_123 rfl rfl ?_
      refine y_SI (pc := 124) (bc := bc) (bs := bs) (mc := 0) (ms := 0) (As := [.inl x1, .inl x2]) (rest := [.inl x1, .inr (some (0, 7, 27))]) dX7_search_124 kX7_priceAt lX7_80 rfl rfl (H.use (fun v5 h5 H => ?_))
      have S5 := H.1
      replace H := H.2
      refine y_VV (pc := 127) (bc := bc) (bs := bs) (mc := 0) (ms := 0) (As := [.inl x1, .inl v5]) (rest := []) dX7_search_127 kX7_searchBehind lX7_111 ⟨_, _, rfl⟩ rfl rfl (H.use (fun h6 H => ?_))
      have S6 := H.1
      replace H := H.2
      refine z_iinc (pc := 130) (v := (x2 + (nI 1))) (ls' := [some (.inr (some (0, 7, 27))), some (.inl x1), some (.inl (x2 + (nI 1)))]) dX7_search_130 rfl (by rw [show Int32.ofInt (1) = (nI 1) by decide]) rfl ?_
      refine z_goto (pc := 133) (tgt := 94) dX7_search_133 (by decide) ?_
      exact H

abbrev LX7_findBest_15 (l : Launch) (E : eE) (d bc bs : Nat) (x1 : Int32) (h : aH) (Q : aH → Prop) : Prop := TV l E mX7_findBest d bc bs 15 [some (.inr (some (0, 7, 27))), some (.inl x1), none] [] h Q

abbrev LX7_findBest_21 (l : Launch) (E : eE) (d bc bs : Nat) (x1 : Int32) (x2 : Int32) (h : aH) (Q : aH → Prop) : Prop := TV l E mX7_findBest d bc bs 21 [some (.inr (some (0, 7, 27))), some (.inl x1), some (.inl x2)] [] h Q

set_option maxRecDepth 20000 in
theorem bX7_findBest_0 {l : Launch} {E : eE} {d bc bs : Nat} {h : aH} {Q : aH → Prop}  (S : SH h) (H : (CV l E d 0 0 mJ7_fill_53178 [.inr (some (1, 84, 36)), .inl (nI 0)] h (fun h1 => SH h1 ∧ LX7_findBest_15 l E (d + 1) bc bs ((hI h1 27 9) - (nI 1)) h1 Q))) : CV l E (d + 1) bc bs mX7_findBest [.inr (some (0, 7, 27))] h Q := by
  refine CV.of (by decide) rfl ?_
  show TV l E mX7_findBest (d + 1) bc bs 0 [some (.inr (some (0, 7, 27))), none, none] [] h Q
  refine z_aload_n (pc := 0) dX7_findBest_0 rfl rfl ?_
  refine z_getk (pc := 1) dX7_findBest_1 fX7_38 rfl (s_27_6 S) ?_
  refine z_iconst (pc := 4) (v := (nI 0)) dX7_findBest_4 (by decide) ?_
  refine y_SV (pc := 5) (bc := bc) (bs := bs) (mc := 0) (ms := 0) (As := [.inr (some (1, 84, 36)), .inl (nI 0)]) (rest := []) dX7_findBest_5 kJ7_fill_53178 lX7_64 rfl rfl (H.use (fun h1 H => ?_))
  have S1 := H.1
  replace H := H.2
  refine z_aload_n (pc := 8) dX7_findBest_8 rfl rfl ?_
  refine z_geti (pc := 9) dX7_findBest_9 fX7_53 rfl ?_
  refine z_iconst (pc := 12) (v := (nI 1)) dX7_findBest_12 (by decide) ?_
  refine z_isub (pc := 13) dX7_findBest_13 ?_
  refine z_istore_n (pc := 14) (ls' := [some (.inr (some (0, 7, 27))), some (.inl ((hI h1 27 9) - (nI 1))), none]) dX7_findBest_14 rfl rfl rfl ?_
  exact H

set_option maxRecDepth 20000 in
theorem bX7_findBest_15 {l : Launch} {E : eE} {d bc bs : Nat} {h : aH} {Q : aH → Prop} {x1 : Int32} (S : SH h) (H : ((x1 < 0 → (CV l E d 0 0 mX7_search [.inr (some (0, 7, 27)), .inl (nI 0)] h (fun h2 => SH h2 ∧ Q h2))) ∧ (¬ x1 < 0 → LX7_findBest_21 l E (d + 1) bc bs x1 (nI 0) h Q))) : LX7_findBest_15 l E (d + 1) bc bs x1 h Q := by
  refine z_iload_n (pc := 15) dX7_findBest_15 rfl rfl ?_
  refine z_if_lt (pc := 16) (tgt := 72) dX7_findBest_16 (by decide) (fun c1 => ?_) (fun c1 => ?_)
  · replace H := H.1 c1
    refine z_aload_n (pc := 72) dX7_findBest_72 rfl rfl ?_
    refine z_iconst (pc := 73) (v := (nI 0)) dX7_findBest_73 (by decide) ?_
    refine y_VV (pc := 74) (bc := bc) (bs := bs) (mc := 0) (ms := 0) (As := [.inl (nI 0)]) (rest := []) dX7_findBest_74 kX7_search lX7_90 ⟨_, _, rfl⟩ rfl rfl (H.use (fun h2 H => ?_))
    have S2 := H.1
    replace H := H.2
    exact z_ret (pc := 77) dX7_findBest_77 rfl ⟨rfl, H⟩
  · replace H := H.2 c1
    refine z_iconst (pc := 19) (v := (nI 0)) dX7_findBest_19 (by decide) ?_
    refine z_istore_n (pc := 20) (ls' := [some (.inr (some (0, 7, 27))), some (.inl x1), some (.inl (nI 0))]) dX7_findBest_20 rfl rfl rfl ?_
    exact H

set_option maxRecDepth 20000 in
theorem bX7_findBest_21 {l : Launch} {E : eE} {d bc bs : Nat} {h : aH} {Q : aH → Prop} {x1 : Int32} {x2 : Int32} (S : SH h) (H : (((hI h 27 10) ≤ x2 → LX7_findBest_15 l E (d + 1) bc bs (x1 + (-1)) h Q) ∧ (¬ (hI h 27 10) ≤ x2 → (vp_in (((x1 + (nI 1)) * (nI 12)) + x2) 84 ∧ (CI l E d 0 0 mX7_leastAt [.inr (some (0, 7, 27)), .inl x1, .inl x2] h (fun v3 h3 => SH h3 ∧ (vp_in ((x1 * (nI 12)) + x2) 84 ∧ LX7_findBest_21 l E (d + 1) bc bs x1 (x2 + (nI 1)) (stA h3 36 (((x1 * (nI 12)) + x2)).toNatClampNeg ((hA h 36 ((((x1 + (nI 1)) * (nI 12)) + x2)).toNatClampNeg) + v3)) Q))))))) : LX7_findBest_21 l E (d + 1) bc bs x1 x2 h Q := by
  refine z_iload_n (pc := 21) dX7_findBest_21 rfl rfl ?_
  refine z_aload_n (pc := 22) dX7_findBest_22 rfl rfl ?_
  refine z_geti (pc := 23) dX7_findBest_23 fX7_57 rfl ?_
  refine z_icmp_ge (pc := 26) (tgt := 66) dX7_findBest_26 (by decide) (fun c1 => ?_) (fun c1 => ?_)
  · replace H := H.1 c1
    refine z_iinc (pc := 66) (v := (x1 + (-1))) (ls' := [some (.inr (some (0, 7, 27))), some (.inl (x1 + (-1))), some (.inl x2)]) dX7_findBest_66 rfl (by rw [show Int32.ofInt (-1) = (-1) by decide]) rfl ?_
    refine z_goto (pc := 69) (tgt := 15) dX7_findBest_69 (by decide) ?_
    exact z_drop (ls' := [some (.inr (some (0, 7, 27))), some (.inl (x1 + (-1))), none]) (by simp [dropL]) H
  · replace H := H.2 c1
    refine z_aload_n (pc := 29) dX7_findBest_29 rfl rfl ?_
    refine z_getk (pc := 30) dX7_findBest_30 fX7_38 rfl (s_27_6 S) ?_
    refine z_iload_n (pc := 33) dX7_findBest_33 rfl rfl ?_
    refine z_bipush (pc := 34) (v := (nI 12)) dX7_findBest_34 (by decide) ?_
    refine z_imul (pc := 36) dX7_findBest_36 ?_
    refine z_iload_n (pc := 37) dX7_findBest_37 rfl rfl ?_
    refine z_iadd (pc := 38) dX7_findBest_38 ?_
    refine z_aload_n (pc := 39) dX7_findBest_39 rfl rfl ?_
    refine z_getk (pc := 40) dX7_findBest_40 fX7_38 rfl (s_27_6 S) ?_
    refine z_iload_n (pc := 43) dX7_findBest_43 rfl rfl ?_
    refine z_iconst (pc := 44) (v := (nI 1)) dX7_findBest_44 (by decide) ?_
    refine z_iadd (pc := 45) dX7_findBest_45 ?_
    refine z_bipush (pc := 46) (v := (nI 12)) dX7_findBest_46 (by decide) ?_
    refine z_imul (pc := 48) dX7_findBest_48 ?_
    refine z_iload_n (pc := 49) dX7_findBest_49 rfl rfl ?_
    refine z_iadd (pc := 50) dX7_findBest_50 ?_
    have c2 := H.1
    replace H := H.2
    refine z_iald (pc := 51) dX7_findBest_51 c2 ?_
    refine z_aload_n (pc := 52) dX7_findBest_52 rfl rfl ?_
    refine z_iload_n (pc := 53) dX7_findBest_53 rfl rfl ?_
    refine z_iload_n (pc := 54) dX7_findBest_54 rfl rfl ?_
    refine y_VI (pc := 55) (bc := bc) (bs := bs) (mc := 0) (ms := 0) (As := [.inl x1, .inl x2]) (rest := [.inl (hA h 36 ((((x1 + (nI 1)) * (nI 12)) + x2)).toNatClampNeg), .inl ((x1 * (nI 12)) + x2), .inr (some (1, 84, 36))]) dX7_findBest_55 kX7_leastAt lX7_87 ⟨_, _, rfl⟩ rfl rfl (H.use (fun v3 h3 H => ?_))
    have S3 := H.1
    replace H := H.2
    refine z_iadd (pc := 58) dX7_findBest_58 ?_
    have c4 := H.1
    replace H := H.2
    refine z_iast (pc := 59) dX7_findBest_59 c4 ?_
    refine z_iinc (pc := 60) (v := (x2 + (nI 1))) (ls' := [some (.inr (some (0, 7, 27))), some (.inl x1), some (.inl (x2 + (nI 1)))]) dX7_findBest_60 rfl (by rw [show Int32.ofInt (1) = (nI 1) by decide]) rfl ?_
    refine z_goto (pc := 63) (tgt := 21) dX7_findBest_63 (by decide) ?_
    exact H

set_option maxRecDepth 20000 in
theorem bX9_mostWeeks_0 {l : Launch} {E : eE} {d bc bs : Nat} {h : aH} {Q : Int32 → aH → Prop} {o0 : Nat} (S : SH h) (H : (CI l E d 0 0 mX9_isSplit [.inr (some (0, 9, o0))] h (fun v1 h1 => SH h1 ∧ ((v1 = 0 → Q (nI 6) h1) ∧ (¬ v1 = 0 → Q (nI 4) h1))))) : CI l E (d + 1) bc bs mX9_mostWeeks [.inr (some (0, 9, o0))] h Q := by
  refine CI.of (by decide) rfl ?_
  show TI l E mX9_mostWeeks (d + 1) bc bs 0 [some (.inr (some (0, 9, o0)))] [] h Q
  refine z_aload_n (pc := 0) dX9_mostWeeks_0 rfl rfl ?_
  refine y_VI (pc := 1) (bc := bc) (bs := bs) (mc := 0) (ms := 0) (As := []) (rest := []) dX9_mostWeeks_1 kX9_isSplit lX9_35 ⟨_, _, rfl⟩ rfl rfl (H.use (fun v1 h1 H => ?_))
  have S1 := H.1
  replace H := H.2
  refine z_if_eq (pc := 4) (tgt := 11) dX9_mostWeeks_4 (by decide) (fun c2 => ?_) (fun c2 => ?_)
  · replace H := H.1 c2
    refine z_bipush (pc := 11) (v := (nI 6)) dX9_mostWeeks_11 (by decide) ?_
    exact z_iret (pc := 13) dX9_mostWeeks_13 rfl rfl ⟨_, rfl, H⟩
  · replace H := H.2 c2
    refine z_iconst (pc := 7) (v := (nI 4)) dX9_mostWeeks_7 (by decide) ?_
    refine z_goto (pc := 8) (tgt := 13) dX9_mostWeeks_8 (by decide) ?_
    exact z_iret (pc := 13) dX9_mostWeeks_13 rfl rfl ⟨_, rfl, H⟩

abbrev LX9_choiceOf_2 (l : Launch) (E : eE) (d bc bs : Nat) (o0 : Nat) (x1 : Int32) (x2 : Int32) (x3 : Int32) (h : aH) (Q : Int32 → aH → Prop) : Prop := TI l E mX9_choiceOf d bc bs 2 [some (.inr (some (0, 9, o0))), some (.inl x1), some (.inl x2), some (.inl x3)] [] h Q

set_option maxRecDepth 20000 in
theorem bX9_choiceOf_0 {l : Launch} {E : eE} {d bc bs : Nat} {h : aH} {Q : Int32 → aH → Prop} {o0 : Nat} {x1 : Int32} {x2 : Int32} (S : SH h) (H : LX9_choiceOf_2 l E (d + 1) bc bs o0 x1 x2 (nI 0) h Q) : CI l E (d + 1) bc bs mX9_choiceOf [.inr (some (0, 9, o0)), .inl x1, .inl x2] h Q := by
  refine CI.of (by decide) rfl ?_
  show TI l E mX9_choiceOf (d + 1) bc bs 0 [some (.inr (some (0, 9, o0))), some (.inl x1), some (.inl x2), none] [] h Q
  refine z_iconst (pc := 0) (v := (nI 0)) dX9_choiceOf_0 (by decide) ?_
  refine z_istore_n (pc := 1) (ls' := [some (.inr (some (0, 9, o0))), some (.inl x1), some (.inl x2), some (.inl (nI 0))]) dX9_choiceOf_1 rfl rfl rfl ?_
  exact H

set_option maxRecDepth 20000 in
theorem bX9_choiceOf_2 {l : Launch} {E : eE} {d bc bs : Nat} {h : aH} {Q : Int32 → aH → Prop} {o0 : Nat} {x1 : Int32} {x2 : Int32} {x3 : Int32} (S : SH h) (H : (CI l E d 0 0 mX9_choices [.inr (some (0, 9, o0))] h (fun v1 h1 => SH h1 ∧ ((v1 ≤ x3 → Q (-1) h1) ∧ (¬ v1 ≤ x3 → (CI l E d 0 0 mX9_has [.inr (some (0, 9, o0)), .inl x3] h1 (fun v3 h3 => SH h3 ∧ ((v3 = 0 → LX9_choiceOf_2 l E (d + 1) bc bs o0 x1 x2 (x3 + (nI 1)) h3 Q) ∧ (¬ v3 = 0 → (CI l E d 0 0 mX9_firstOf [.inr (some (0, 9, o0)), .inl x3] h3 (fun v5 h5 => SH h5 ∧ ((¬ v5 = x1 → LX9_choiceOf_2 l E (d + 1) bc bs o0 x1 x2 (x3 + (nI 1)) h5 Q) ∧ (v5 = x1 → (CI l E d 0 0 mX9_secondOf [.inr (some (0, 9, o0)), .inl x3] h5 (fun v7 h7 => SH h7 ∧ ((¬ v7 = x2 → LX9_choiceOf_2 l E (d + 1) bc bs o0 x1 x2 (x3 + (nI 1)) h7 Q) ∧ (v7 = x2 → Q x3 h7))))))))))))))))) : LX9_choiceOf_2 l E (d + 1) bc bs o0 x1 x2 x3 h Q := by
  refine z_iload_n (pc := 2) dX9_choiceOf_2 rfl rfl ?_
  refine z_aload_n (pc := 3) dX9_choiceOf_3 rfl rfl ?_
  refine y_VI (pc := 4) (bc := bc) (bs := bs) (mc := 0) (ms := 0) (As := []) (rest := [.inl x3]) dX9_choiceOf_4 kX9_choices lX9_61 ⟨_, _, rfl⟩ rfl rfl (H.use (fun v1 h1 H => ?_))
  have S1 := H.1
  replace H := H.2
  refine z_icmp_ge (pc := 7) (tgt := 44) dX9_choiceOf_7 (by decide) (fun c2 => ?_) (fun c2 => ?_)
  · replace H := H.1 c2
    refine z_iconst (pc := 44) (v := (-1)) dX9_choiceOf_44 (by decide) ?_
    exact z_iret (pc := 45) dX9_choiceOf_45 rfl rfl ⟨_, rfl, H⟩
  · replace H := H.2 c2
    refine z_aload_n (pc := 10) dX9_choiceOf_10 rfl rfl ?_
    refine z_iload_n (pc := 11) dX9_choiceOf_11 rfl rfl ?_
    refine y_VI (pc := 12) (bc := bc) (bs := bs) (mc := 0) (ms := 0) (As := [.inl x3]) (rest := []) dX9_choiceOf_12 kX9_has lX9_65 ⟨_, _, rfl⟩ rfl rfl (H.use (fun v3 h3 H => ?_))
    have S3 := H.1
    replace H := H.2
    refine z_if_eq (pc := 15) (tgt := 38) dX9_choiceOf_15 (by decide) (fun c4 => ?_) (fun c4 => ?_)
    · replace H := H.1 c4
      refine z_iinc (pc := 38) (v := (x3 + (nI 1))) (ls' := [some (.inr (some (0, 9, o0))), some (.inl x1), some (.inl x2), some (.inl (x3 + (nI 1)))]) dX9_choiceOf_38 rfl (by rw [show Int32.ofInt (1) = (nI 1) by decide]) rfl ?_
      refine z_goto (pc := 41) (tgt := 2) dX9_choiceOf_41 (by decide) ?_
      exact H
    · replace H := H.2 c4
      refine z_aload_n (pc := 18) dX9_choiceOf_18 rfl rfl ?_
      refine z_iload_n (pc := 19) dX9_choiceOf_19 rfl rfl ?_
      refine y_VI (pc := 20) (bc := bc) (bs := bs) (mc := 0) (ms := 0) (As := [.inl x3]) (rest := []) dX9_choiceOf_20 kX9_firstOf lX9_45 ⟨_, _, rfl⟩ rfl rfl (H.use (fun v5 h5 H => ?_))
      have S5 := H.1
      replace H := H.2
      refine z_iload_n (pc := 23) dX9_choiceOf_23 rfl rfl ?_
      refine z_icmp_ne (pc := 24) (tgt := 38) dX9_choiceOf_24 (by decide) (fun c6 => ?_) (fun c6 => ?_)
      · replace H := H.1 c6
        refine z_iinc (pc := 38) (v := (x3 + (nI 1))) (ls' := [some (.inr (some (0, 9, o0))), some (.inl x1), some (.inl x2), some (.inl (x3 + (nI 1)))]) dX9_choiceOf_38 rfl (by rw [show Int32.ofInt (1) = (nI 1) by decide]) rfl ?_
        refine z_goto (pc := 41) (tgt := 2) dX9_choiceOf_41 (by decide) ?_
        exact H
      · replace H := H.2 c6
        refine z_aload_n (pc := 27) dX9_choiceOf_27 rfl rfl ?_
        refine z_iload_n (pc := 28) dX9_choiceOf_28 rfl rfl ?_
        refine y_VI (pc := 29) (bc := bc) (bs := bs) (mc := 0) (ms := 0) (As := [.inl x3]) (rest := []) dX9_choiceOf_29 kX9_secondOf lX9_49 ⟨_, _, rfl⟩ rfl rfl (H.use (fun v7 h7 H => ?_))
        have S7 := H.1
        replace H := H.2
        refine z_iload_n (pc := 32) dX9_choiceOf_32 rfl rfl ?_
        refine z_icmp_ne (pc := 33) (tgt := 38) dX9_choiceOf_33 (by decide) (fun c8 => ?_) (fun c8 => ?_)
        · replace H := H.1 c8
          refine z_iinc (pc := 38) (v := (x3 + (nI 1))) (ls' := [some (.inr (some (0, 9, o0))), some (.inl x1), some (.inl x2), some (.inl (x3 + (nI 1)))]) dX9_choiceOf_38 rfl (by rw [show Int32.ofInt (1) = (nI 1) by decide]) rfl ?_
          refine z_goto (pc := 41) (tgt := 2) dX9_choiceOf_41 (by decide) ?_
          exact H
        · replace H := H.2 c8
          refine z_iload_n (pc := 36) dX9_choiceOf_36 rfl rfl ?_
          exact z_iret (pc := 37) dX9_choiceOf_37 rfl rfl ⟨_, rfl, H⟩

set_option maxRecDepth 20000 in
theorem bX9_optionsOf_0 {l : Launch} {E : eE} {d bc bs : Nat} {h : aH} {Q : Int32 → aH → Prop} {o0 : Nat} {x1 : Int32} (S : SH h) (H : (CI l E d 0 0 mX9_isSplit [.inr (some (0, 9, o0))] h (fun v1 h1 => SH h1 ∧ ((v1 = 0 → Q ((nI 1) <<< (x1 &&& 31)) h1) ∧ (¬ v1 = 0 → (CI l E d 0 0 mX9_firstOf [.inr (some (0, 9, o0)), .inl x1] h1 (fun v3 h3 => SH h3 ∧ (CI l E d 0 0 mX9_secondOf [.inr (some (0, 9, o0)), .inl x1] h3 (fun v4 h4 => SH h4 ∧ Q (((nI 1) <<< (v3 &&& 31)) ||| ((nI 1) <<< (v4 &&& 31))) h4))))))))) : CI l E (d + 1) bc bs mX9_optionsOf [.inr (some (0, 9, o0)), .inl x1] h Q := by
  refine CI.of (by decide) rfl ?_
  show TI l E mX9_optionsOf (d + 1) bc bs 0 [some (.inr (some (0, 9, o0))), some (.inl x1)] [] h Q
  refine z_aload_n (pc := 0) dX9_optionsOf_0 rfl rfl ?_
  refine y_VI (pc := 1) (bc := bc) (bs := bs) (mc := 0) (ms := 0) (As := []) (rest := []) dX9_optionsOf_1 kX9_isSplit lX9_35 ⟨_, _, rfl⟩ rfl rfl (H.use (fun v1 h1 H => ?_))
  have S1 := H.1
  replace H := H.2
  refine z_if_eq (pc := 4) (tgt := 25) dX9_optionsOf_4 (by decide) (fun c2 => ?_) (fun c2 => ?_)
  · replace H := H.1 c2
    refine z_iconst (pc := 25) (v := (nI 1)) dX9_optionsOf_25 (by decide) ?_
    refine z_iload_n (pc := 26) dX9_optionsOf_26 rfl rfl ?_
    refine z_ishl (pc := 27) dX9_optionsOf_27 ?_
    exact z_iret (pc := 28) dX9_optionsOf_28 rfl rfl ⟨_, rfl, H⟩
  · replace H := H.2 c2
    refine z_iconst (pc := 7) (v := (nI 1)) dX9_optionsOf_7 (by decide) ?_
    refine z_aload_n (pc := 8) dX9_optionsOf_8 rfl rfl ?_
    refine z_iload_n (pc := 9) dX9_optionsOf_9 rfl rfl ?_
    refine y_VI (pc := 10) (bc := bc) (bs := bs) (mc := 0) (ms := 0) (As := [.inl x1]) (rest := [.inl (nI 1)]) dX9_optionsOf_10 kX9_firstOf lX9_45 ⟨_, _, rfl⟩ rfl rfl (H.use (fun v3 h3 H => ?_))
    have S3 := H.1
    replace H := H.2
    refine z_ishl (pc := 13) dX9_optionsOf_13 ?_
    refine z_iconst (pc := 14) (v := (nI 1)) dX9_optionsOf_14 (by decide) ?_
    refine z_aload_n (pc := 15) dX9_optionsOf_15 rfl rfl ?_
    refine z_iload_n (pc := 16) dX9_optionsOf_16 rfl rfl ?_
    refine y_VI (pc := 17) (bc := bc) (bs := bs) (mc := 0) (ms := 0) (As := [.inl x1]) (rest := [.inl (nI 1), .inl ((nI 1) <<< (v3 &&& 31))]) dX9_optionsOf_17 kX9_secondOf lX9_49 ⟨_, _, rfl⟩ rfl rfl (H.use (fun v4 h4 H => ?_))
    have S4 := H.1
    replace H := H.2
    refine z_ishl (pc := 20) dX9_optionsOf_20 ?_
    refine z_ior (pc := 21) dX9_optionsOf_21 ?_
    refine z_goto (pc := 22) (tgt := 28) dX9_optionsOf_22 (by decide) ?_
    exact z_iret (pc := 28) dX9_optionsOf_28 rfl rfl ⟨_, rfl, H⟩

set_option maxRecDepth 20000 in
theorem bX9_allOptions_0 {l : Launch} {E : eE} {d bc bs : Nat} {h : aH} {Q : Int32 → aH → Prop} {o0 : Nat} (S : SH h) (H : Q (((nI 1) <<< ((hI h o0 7) &&& 31)) - (nI 1)) h) : CI l E d bc bs mX9_allOptions [.inr (some (0, 9, o0))] h Q := by
  refine CI.of (by decide) rfl ?_
  show TI l E mX9_allOptions d bc bs 0 [some (.inr (some (0, 9, o0)))] [] h Q
  refine z_iconst (pc := 0) (v := (nI 1)) dX9_allOptions_0 (by decide) ?_
  refine z_aload_n (pc := 1) dX9_allOptions_1 rfl rfl ?_
  refine z_geti (pc := 2) dX9_allOptions_2 fX9_58 rfl ?_
  refine z_ishl (pc := 5) dX9_allOptions_5 ?_
  refine z_iconst (pc := 6) (v := (nI 1)) dX9_allOptions_6 (by decide) ?_
  refine z_isub (pc := 7) dX9_allOptions_7 ?_
  exact z_iret (pc := 8) dX9_allOptions_8 rfl rfl ⟨_, rfl, H⟩

set_option maxRecDepth 20000 in
theorem bX9_startOf_0 {l : Launch} {E : eE} {d bc bs : Nat} {h : aH} {Q : Int32 → aH → Prop} {o0 : Nat} {x1 : Int32} {x2 : Int32} (S : SH h) (H : ((¬ x1 = (-1) → (∃ p2, (hR h o0 4) = some (1, 6, p2) ∧ (vp_in x1 6 ∧ Q ((x2 * (nI 336)) + (hA h p2 (x1).toNatClampNeg)) h))) ∧ (x1 = (-1) → Q (-1) h))) : CI l E d bc bs mX9_startOf [.inr (some (0, 9, o0)), .inl x1, .inl x2] h Q := by
  refine CI.of (by decide) rfl ?_
  show TI l E mX9_startOf d bc bs 0 [some (.inr (some (0, 9, o0))), some (.inl x1), some (.inl x2)] [] h Q
  refine z_iload_n (pc := 0) dX9_startOf_0 rfl rfl ?_
  refine z_iconst (pc := 1) (v := (-1)) dX9_startOf_1 (by decide) ?_
  refine z_icmp_ne (pc := 2) (tgt := 9) dX9_startOf_2 (by decide) (fun c1 => ?_) (fun c1 => ?_)
  · replace H := H.1 c1
    refine z_iload_n (pc := 9) dX9_startOf_9 rfl rfl ?_
    refine z_sipush (pc := 10) (v := (nI 336)) dX9_startOf_10 (by decide) ?_
    refine z_imul (pc := 13) dX9_startOf_13 ?_
    refine z_aload_n (pc := 14) dX9_startOf_14 rfl rfl ?_
    refine z_getr (pc := 15) dX9_startOf_15 fX9_25 rfl ?_
    obtain ⟨p2, e2, H⟩ := H
    refine z_cast e2 ?_
    refine z_iload_n (pc := 18) dX9_startOf_18 rfl rfl ?_
    have c3 := H.1
    replace H := H.2
    refine z_iald (pc := 19) dX9_startOf_19 c3 ?_
    refine z_iadd (pc := 20) dX9_startOf_20 ?_
    exact z_iret (pc := 21) dX9_startOf_21 rfl rfl ⟨_, rfl, H⟩
  · replace H := H.2 c1
    refine z_iconst (pc := 5) (v := (-1)) dX9_startOf_5 (by decide) ?_
    refine z_goto (pc := 6) (tgt := 21) dX9_startOf_6 (by decide) ?_
    exact z_iret (pc := 21) dX9_startOf_21 rfl rfl ⟨_, rfl, H⟩

abbrev LX9_giveRole_2 (l : Launch) (E : eE) (d bc bs : Nat) (o0 : Nat) (x1 : Int32) (x2 : Int32) (x3 : Int32) (h : aH) (Q : aH → Prop) : Prop := TV l E mX9_giveRole d bc bs 2 [some (.inr (some (0, 9, o0))), some (.inl x1), some (.inl x2), some (.inl x3)] [] h Q

set_option maxRecDepth 20000 in
theorem bX9_giveRole_0 {l : Launch} {E : eE} {d bc bs : Nat} {h : aH} {Q : aH → Prop} {o0 : Nat} {x1 : Int32} {x2 : Int32} (S : SH h) (H : LX9_giveRole_2 l E d bc bs o0 x1 x2 (nI 0) h Q) : CV l E d bc bs mX9_giveRole [.inr (some (0, 9, o0)), .inl x1, .inl x2] h Q := by
  refine CV.of (by decide) rfl ?_
  show TV l E mX9_giveRole d bc bs 0 [some (.inr (some (0, 9, o0))), some (.inl x1), some (.inl x2), none] [] h Q
  refine z_iconst (pc := 0) (v := (nI 0)) dX9_giveRole_0 (by decide) ?_
  refine z_istore_n (pc := 1) (ls' := [some (.inr (some (0, 9, o0))), some (.inl x1), some (.inl x2), some (.inl (nI 0))]) dX9_giveRole_1 rfl rfl rfl ?_
  exact H

set_option maxRecDepth 20000 in
theorem bX9_giveRole_2 {l : Launch} {E : eE} {d bc bs : Nat} {h : aH} {Q : aH → Prop} {o0 : Nat} {x1 : Int32} {x2 : Int32} {x3 : Int32} (S : SH h) (H : (((nI 6) ≤ x3 → (∃ p2, (hR h o0 5) = some (1, 6, p2) ∧ (vp_in x2 6 ∧ Q (stA h p2 (x2).toNatClampNeg ((hA h p2 (x2).toNatClampNeg) ||| ((nI 1) <<< (x1 &&& 31))))))) ∧ (¬ (nI 6) ≤ x3 → (∃ p4, (hR h o0 5) = some (1, 6, p4) ∧ (vp_in x3 6 ∧ LX9_giveRole_2 l E d bc bs o0 x1 x2 (x3 + (nI 1)) (stA h p4 (x3).toNatClampNeg ((hA h p4 (x3).toNatClampNeg) &&& (((nI 1) <<< (x1 &&& 31)) ^^^ (-1)))) Q))))) : LX9_giveRole_2 l E d bc bs o0 x1 x2 x3 h Q := by
  refine z_iload_n (pc := 2) dX9_giveRole_2 rfl rfl ?_
  refine z_bipush (pc := 3) (v := (nI 6)) dX9_giveRole_3 (by decide) ?_
  refine z_icmp_ge (pc := 5) (tgt := 28) dX9_giveRole_5 (by decide) (fun c1 => ?_) (fun c1 => ?_)
  · replace H := H.1 c1
    refine z_aload_n (pc := 28) dX9_giveRole_28 rfl rfl ?_
    refine z_getr (pc := 29) dX9_giveRole_29 fX9_29 rfl ?_
    obtain ⟨p2, e2, H⟩ := H
    refine z_cast e2 ?_
    refine z_iload_n (pc := 32) dX9_giveRole_32 rfl rfl ?_
    refine z_dup2 (pc := 33) dX9_giveRole_33 ?_
    have c3 := H.1
    replace H := H.2
    refine z_iald (pc := 34) dX9_giveRole_34 c3 ?_
    refine z_iconst (pc := 35) (v := (nI 1)) dX9_giveRole_35 (by decide) ?_
    refine z_iload_n (pc := 36) dX9_giveRole_36 rfl rfl ?_
    refine z_ishl (pc := 37) dX9_giveRole_37 ?_
    refine z_ior (pc := 38) dX9_giveRole_38 ?_
    refine z_iast (pc := 39) dX9_giveRole_39 c3 ?_
    exact z_ret (pc := 40) dX9_giveRole_40 rfl ⟨rfl, H⟩
  · replace H := H.2 c1
    refine z_aload_n (pc := 8) dX9_giveRole_8 rfl rfl ?_
    refine z_getr (pc := 9) dX9_giveRole_9 fX9_29 rfl ?_
    obtain ⟨p4, e4, H⟩ := H
    refine z_cast e4 ?_
    refine z_iload_n (pc := 12) dX9_giveRole_12 rfl rfl ?_
    refine z_dup2 (pc := 13) dX9_giveRole_13 ?_
    have c5 := H.1
    replace H := H.2
    refine z_iald (pc := 14) dX9_giveRole_14 c5 ?_
    refine z_iconst (pc := 15) (v := (nI 1)) dX9_giveRole_15 (by decide) ?_
    refine z_iload_n (pc := 16) dX9_giveRole_16 rfl rfl ?_
    refine z_ishl (pc := 17) dX9_giveRole_17 ?_
    refine z_iconst (pc := 18) (v := (-1)) dX9_giveRole_18 (by decide) ?_
    refine z_ixor (pc := 19) dX9_giveRole_19 ?_
    refine z_iand (pc := 20) dX9_giveRole_20 ?_
    refine z_iast (pc := 21) dX9_giveRole_21 c5 ?_
    refine z_iinc (pc := 22) (v := (x3 + (nI 1))) (ls' := [some (.inr (some (0, 9, o0))), some (.inl x1), some (.inl x2), some (.inl (x3 + (nI 1)))]) dX9_giveRole_22 rfl (by rw [show Int32.ofInt (1) = (nI 1) by decide]) rfl ?_
    refine z_goto (pc := 25) (tgt := 2) dX9_giveRole_25 (by decide) ?_
    exact H

abbrev LX9_withRole_4 (l : Launch) (E : eE) (d bc bs : Nat) (o0 : Nat) (x1 : Int32) (x2 : Int32) (h : aH) (Q : Int32 → aH → Prop) : Prop := TI l E mX9_withRole d bc bs 4 [some (.inr (some (0, 9, o0))), some (.inl x1), some (.inl x2)] [] h Q

set_option maxRecDepth 20000 in
theorem bX9_withRole_0 {l : Launch} {E : eE} {d bc bs : Nat} {h : aH} {Q : Int32 → aH → Prop} {o0 : Nat} (S : SH h) (H : LX9_withRole_4 l E d bc bs o0 (nI 0) (nI 1) h Q) : CI l E d bc bs mX9_withRole [.inr (some (0, 9, o0))] h Q := by
  refine CI.of (by decide) rfl ?_
  show TI l E mX9_withRole d bc bs 0 [some (.inr (some (0, 9, o0))), none, none] [] h Q
  refine z_iconst (pc := 0) (v := (nI 0)) dX9_withRole_0 (by decide) ?_
  refine z_istore_n (pc := 1) (ls' := [some (.inr (some (0, 9, o0))), some (.inl (nI 0)), none]) dX9_withRole_1 rfl rfl rfl ?_
  refine z_iconst (pc := 2) (v := (nI 1)) dX9_withRole_2 (by decide) ?_
  refine z_istore_n (pc := 3) (ls' := [some (.inr (some (0, 9, o0))), some (.inl (nI 0)), some (.inl (nI 1))]) dX9_withRole_3 rfl rfl rfl ?_
  exact H

set_option maxRecDepth 20000 in
theorem bX9_withRole_4 {l : Launch} {E : eE} {d bc bs : Nat} {h : aH} {Q : Int32 → aH → Prop} {o0 : Nat} {x1 : Int32} {x2 : Int32} (S : SH h) (H : (((nI 6) ≤ x2 → Q x1 h) ∧ (¬ (nI 6) ≤ x2 → (∃ p2, (hR h o0 5) = some (1, 6, p2) ∧ (vp_in x2 6 ∧ LX9_withRole_4 l E d bc bs o0 (x1 ||| (hA h p2 (x2).toNatClampNeg)) (x2 + (nI 1)) h Q))))) : LX9_withRole_4 l E d bc bs o0 x1 x2 h Q := by
  refine z_iload_n (pc := 4) dX9_withRole_4 rfl rfl ?_
  refine z_bipush (pc := 5) (v := (nI 6)) dX9_withRole_5 (by decide) ?_
  refine z_icmp_ge (pc := 7) (tgt := 25) dX9_withRole_7 (by decide) (fun c1 => ?_) (fun c1 => ?_)
  · replace H := H.1 c1
    refine z_iload_n (pc := 25) dX9_withRole_25 rfl rfl ?_
    exact z_iret (pc := 26) dX9_withRole_26 rfl rfl ⟨_, rfl, H⟩
  · replace H := H.2 c1
    refine z_iload_n (pc := 10) dX9_withRole_10 rfl rfl ?_
    refine z_aload_n (pc := 11) dX9_withRole_11 rfl rfl ?_
    refine z_getr (pc := 12) dX9_withRole_12 fX9_29 rfl ?_
    obtain ⟨p2, e2, H⟩ := H
    refine z_cast e2 ?_
    refine z_iload_n (pc := 15) dX9_withRole_15 rfl rfl ?_
    have c3 := H.1
    replace H := H.2
    refine z_iald (pc := 16) dX9_withRole_16 c3 ?_
    refine z_ior (pc := 17) dX9_withRole_17 ?_
    refine z_istore_n (pc := 18) (ls' := [some (.inr (some (0, 9, o0))), some (.inl (x1 ||| (hA h p2 (x2).toNatClampNeg))), some (.inl x2)]) dX9_withRole_18 rfl rfl rfl ?_
    refine z_iinc (pc := 19) (v := (x2 + (nI 1))) (ls' := [some (.inr (some (0, 9, o0))), some (.inl (x1 ||| (hA h p2 (x2).toNatClampNeg))), some (.inl (x2 + (nI 1)))]) dX9_withRole_19 rfl (by rw [show Int32.ofInt (1) = (nI 1) by decide]) rfl ?_
    refine z_goto (pc := 22) (tgt := 4) dX9_withRole_22 (by decide) ?_
    exact H

set_option maxRecDepth 20000 in
theorem bX9_everyone_0 {l : Launch} {E : eE} {d bc bs : Nat} {h : aH} {Q : Int32 → aH → Prop} {o0 : Nat} (S : SH h) (H : (CI l E d 0 0 mX9_withRole [.inr (some (0, 9, o0))] h (fun v1 h1 => SH h1 ∧ (CI l E d 0 0 mX9_chairAlone [.inr (some (0, 9, o0))] h1 (fun v2 h2 => SH h2 ∧ Q (v1 ||| v2) h2))))) : CI l E (d + 1) bc bs mX9_everyone [.inr (some (0, 9, o0))] h Q := by
  refine CI.of (by decide) rfl ?_
  show TI l E mX9_everyone (d + 1) bc bs 0 [some (.inr (some (0, 9, o0)))] [] h Q
  refine z_aload_n (pc := 0) dX9_everyone_0 rfl rfl ?_
  refine y_VI (pc := 1) (bc := bc) (bs := bs) (mc := 0) (ms := 0) (As := []) (rest := []) dX9_everyone_1 kX9_withRole lX9_69 ⟨_, _, rfl⟩ rfl rfl (H.use (fun v1 h1 H => ?_))
  have S1 := H.1
  replace H := H.2
  refine z_aload_n (pc := 4) dX9_everyone_4 rfl rfl ?_
  refine y_VI (pc := 5) (bc := bc) (bs := bs) (mc := 0) (ms := 0) (As := []) (rest := [.inl v1]) dX9_everyone_5 kX9_chairAlone lX9_72 ⟨_, _, rfl⟩ rfl rfl (H.use (fun v2 h2 H => ?_))
  have S2 := H.1
  replace H := H.2
  refine z_ior (pc := 8) dX9_everyone_8 ?_
  exact z_iret (pc := 9) dX9_everyone_9 rfl rfl ⟨_, rfl, H⟩

abbrev LX9_hasCant_6 (l : Launch) (E : eE) (d bc bs : Nat) (o0 : Nat) (x1 : Int32) (x2 : Int32) (x3 : Int32) (r4 : aR) (h : aH) (Q : Int32 → aH → Prop) : Prop := TI l E mX9_hasCant d bc bs 6 [some (.inr (some (0, 9, o0))), some (.inl x1), some (.inl x2), some (.inl x3), some (.inr r4)] [] h Q

set_option maxRecDepth 20000 in
theorem bX9_hasCant_0 {l : Launch} {E : eE} {d bc bs : Nat} {h : aH} {Q : Int32 → aH → Prop} {o0 : Nat} {x1 : Int32} {x2 : Int32} {x3 : Int32} (S : SH h) (H : LX9_hasCant_6 l E d bc bs o0 x1 x2 x3 ((hR h o0 8)) h Q) : CI l E d bc bs mX9_hasCant [.inr (some (0, 9, o0)), .inl x1, .inl x2, .inl x3] h Q := by
  refine CI.of (by decide) rfl ?_
  show TI l E mX9_hasCant d bc bs 0 [some (.inr (some (0, 9, o0))), some (.inl x1), some (.inl x2), some (.inl x3), none] [] h Q
  refine z_aload_n (pc := 0) dX9_hasCant_0 rfl rfl ?_
  refine z_getr (pc := 1) dX9_hasCant_1 fX9_75 rfl ?_
  refine z_astore (pc := 4) (ls' := [some (.inr (some (0, 9, o0))), some (.inl x1), some (.inl x2), some (.inl x3), some (.inr ((hR h o0 8)))]) dX9_hasCant_4 rfl rfl ?_
  exact H

set_option maxRecDepth 20000 in
theorem bX9_hasCant_6 {l : Launch} {E : eE} {d bc bs : Nat} {h : aH} {Q : Int32 → aH → Prop} {o0 : Nat} {x1 : Int32} {x2 : Int32} {x3 : Int32} {r4 : aR} (S : SH h) (H : ((r4 = none → Q (nI 0) h) ∧ (∀ q1, r4 = some q1 → (∃ p2, r4 = some (0, 3, p2) ∧ ((x3 ≤ (hI h p2 0) → LX9_hasCant_6 l E d bc bs o0 x1 x2 x3 ((hR h p2 4)) h Q) ∧ (¬ x3 ≤ (hI h p2 0) → ((¬ (hI h p2 1) = x1 → LX9_hasCant_6 l E d bc bs o0 x1 x2 x3 ((hR h p2 4)) h Q) ∧ ((hI h p2 1) = x1 → ((¬ (hI h p2 2) = x2 → LX9_hasCant_6 l E d bc bs o0 x1 x2 x3 ((hR h p2 4)) h Q) ∧ ((hI h p2 2) = x2 → Q (nI 1) h)))))))))) : LX9_hasCant_6 l E d bc bs o0 x1 x2 x3 r4 h Q := by
  refine z_aload (pc := 6) dX9_hasCant_6 rfl ?_
  refine z_ifnull (pc := 8) (tgt := 50) dX9_hasCant_8 (by decide) (fun c1 => ?_) (fun q1 c1 => ?_)
  · replace H := H.1 c1
    refine z_iconst (pc := 50) (v := (nI 0)) dX9_hasCant_50 (by decide) ?_
    exact z_iret (pc := 51) dX9_hasCant_51 rfl rfl ⟨_, rfl, H⟩
  · replace H := H.2 q1 c1
    refine z_aload (pc := 11) dX9_hasCant_11 rfl ?_
    obtain ⟨p2, e2, H⟩ := H
    refine z_cast e2 ?_
    refine z_geti (pc := 13) dX9_hasCant_13 fX9_79 rfl ?_
    refine z_iload_n (pc := 16) dX9_hasCant_16 rfl rfl ?_
    refine z_icmp_ge (pc := 17) (tgt := 40) dX9_hasCant_17 (by decide) (fun c3 => ?_) (fun c3 => ?_)
    · replace H := H.1 c3
      refine z_aload (pc := 40) dX9_hasCant_40 rfl ?_
      refine z_cast e2 ?_
      refine z_getr (pc := 42) dX9_hasCant_42 fX9_88 rfl ?_
      refine z_astore (pc := 45) (ls' := [some (.inr (some (0, 9, o0))), some (.inl x1), some (.inl x2), some (.inl x3), some (.inr ((hR h p2 4)))]) dX9_hasCant_45 rfl rfl ?_
      refine z_goto (pc := 47) (tgt := 6) dX9_hasCant_47 (by decide) ?_
      exact H
    · replace H := H.2 c3
      refine z_aload (pc := 20) dX9_hasCant_20 rfl ?_
      refine z_cast e2 ?_
      refine z_geti (pc := 22) dX9_hasCant_22 fX9_82 rfl ?_
      refine z_iload_n (pc := 25) dX9_hasCant_25 rfl rfl ?_
      refine z_icmp_ne (pc := 26) (tgt := 40) dX9_hasCant_26 (by decide) (fun c4 => ?_) (fun c4 => ?_)
      · replace H := H.1 c4
        refine z_aload (pc := 40) dX9_hasCant_40 rfl ?_
        refine z_cast e2 ?_
        refine z_getr (pc := 42) dX9_hasCant_42 fX9_88 rfl ?_
        refine z_astore (pc := 45) (ls' := [some (.inr (some (0, 9, o0))), some (.inl x1), some (.inl x2), some (.inl x3), some (.inr ((hR h p2 4)))]) dX9_hasCant_45 rfl rfl ?_
        refine z_goto (pc := 47) (tgt := 6) dX9_hasCant_47 (by decide) ?_
        exact H
      · replace H := H.2 c4
        refine z_aload (pc := 29) dX9_hasCant_29 rfl ?_
        refine z_cast e2 ?_
        refine z_geti (pc := 31) dX9_hasCant_31 fX9_85 rfl ?_
        refine z_iload_n (pc := 34) dX9_hasCant_34 rfl rfl ?_
        refine z_icmp_ne (pc := 35) (tgt := 40) dX9_hasCant_35 (by decide) (fun c5 => ?_) (fun c5 => ?_)
        · replace H := H.1 c5
          refine z_aload (pc := 40) dX9_hasCant_40 rfl ?_
          refine z_cast e2 ?_
          refine z_getr (pc := 42) dX9_hasCant_42 fX9_88 rfl ?_
          refine z_astore (pc := 45) (ls' := [some (.inr (some (0, 9, o0))), some (.inl x1), some (.inl x2), some (.inl x3), some (.inr ((hR h p2 4)))]) dX9_hasCant_45 rfl rfl ?_
          refine z_goto (pc := 47) (tgt := 6) dX9_hasCant_47 (by decide) ?_
          exact H
        · replace H := H.2 c5
          refine z_iconst (pc := 38) (v := (nI 1)) dX9_hasCant_38 (by decide) ?_
          exact z_iret (pc := 39) dX9_hasCant_39 rfl rfl ⟨_, rfl, H⟩

abbrev LX10_fill_3 (l : Launch) (E : eE) (d bc bs : Nat) (o0 : Nat) (o1 : Nat) (x2 : Int32) (x3 : Int32) (x4 : Int32) (x5 : Int32) (a6 : Nat) (x7 : Int32) (h : aH) (Q : aH → Prop) : Prop := TV l E mX10_fill d bc bs 3 [some (.inr (some (0, 10, o0))), some (.inr (some (0, 9, o1))), some (.inl x2), some (.inl x3), some (.inl x4), some (.inl x5), some (.inr (some (14, 12, a6))), some (.inl x7), none, none, none, none] [] h Q

abbrev LX10_fill_79 (l : Launch) (E : eE) (d bc bs : Nat) (o0 : Nat) (o1 : Nat) (x2 : Int32) (x3 : Int32) (x4 : Int32) (x5 : Int32) (a6 : Nat) (x7 : Int32) (x8 : Int32) (x9 : Int32) (x10 : Int32) (h : aH) (Q : aH → Prop) : Prop := TV l E mX10_fill d bc bs 79 [some (.inr (some (0, 10, o0))), some (.inr (some (0, 9, o1))), some (.inl x2), some (.inl x3), some (.inl x4), some (.inl x5), some (.inr (some (14, 12, a6))), some (.inl x7), some (.inl x8), some (.inl x9), some (.inl x10), none] [] h Q

set_option maxRecDepth 20000 in
theorem bX10_fill_0 {l : Launch} {E : eE} {d bc bs : Nat} {h : aH} {Q : aH → Prop} {o0 : Nat} {o1 : Nat} {x2 : Int32} {x3 : Int32} {x4 : Int32} {x5 : Int32} {a6 : Nat} (S : SH h) (g0 : isSh o0) (H : LX10_fill_3 l E (d + 1) bc bs o0 o1 x2 x3 x4 x5 a6 (nI 0) h Q) : CV l E (d + 1) bc bs mX10_fill [.inr (some (0, 10, o0)), .inr (some (0, 9, o1)), .inl x2, .inl x3, .inl x4, .inl x5, .inr (some (14, 12, a6))] h Q := by
  refine CV.of (by decide) rfl ?_
  show TV l E mX10_fill (d + 1) bc bs 0 [some (.inr (some (0, 10, o0))), some (.inr (some (0, 9, o1))), some (.inl x2), some (.inl x3), some (.inl x4), some (.inl x5), some (.inr (some (14, 12, a6))), none, none, none, none, none] [] h Q
  refine z_iconst (pc := 0) (v := (nI 0)) dX10_fill_0 (by decide) ?_
  refine z_istore (pc := 1) (ls' := [some (.inr (some (0, 10, o0))), some (.inr (some (0, 9, o1))), some (.inl x2), some (.inl x3), some (.inl x4), some (.inl x5), some (.inr (some (14, 12, a6))), some (.inl (nI 0)), none, none, none, none]) dX10_fill_1 rfl rfl ?_
  exact H

set_option maxRecDepth 20000 in
theorem bX10_fill_3 {l : Launch} {E : eE} {d bc bs : Nat} {h : aH} {Q : aH → Prop} {o0 : Nat} {o1 : Nat} {x2 : Int32} {x3 : Int32} {x4 : Int32} {x5 : Int32} {a6 : Nat} {x7 : Int32} (S : SH h) (g0 : isSh o0) (H : (((hI h o1 7) ≤ x7 → Q h) ∧ (¬ (hI h o1 7) ≤ x7 → (CI l E d 0 0 mX11_isIn [.inl x2, .inl x7] h (fun v2 h2 => SH h2 ∧ ((v2 = 0 → LX10_fill_3 l E (d + 1) bc bs o0 o1 x2 x3 x4 x5 a6 (x7 + (nI 1)) h2 Q) ∧ (¬ v2 = 0 → (CI l E d 0 0 mX9_startOf [.inr (some (0, 9, o1)), .inl x7, .inl x3] h2 (fun v4 h4 => SH h4 ∧ (((nI 17472) < (v4 + (hI h4 o1 1)) → (((nI 0) = 0 → (vp_in x7 6 ∧ LX10_fill_79 l E (d + 1) bc bs o0 o1 x2 x3 x4 x5 a6 x7 v4 (nI 0) (nI 0) (stA (stA h4 (o0 + 1) (x7).toNatClampNeg (-1)) (o0 + 2) (x7).toNatClampNeg (nI 0)) Q)) ∧ (¬ (nI 0) = 0 → (vp_in x7 6 ∧ LX10_fill_79 l E (d + 1) bc bs o0 o1 x2 x3 x4 x5 a6 x7 v4 (nI 0) (nI 0) (stA (stA h4 (o0 + 1) (x7).toNatClampNeg v4) (o0 + 2) (x7).toNatClampNeg (nI 0)) Q)))) ∧ (¬ (nI 17472) < (v4 + (hI h4 o1 1)) → (((nI 1) = 0 → (vp_in x7 6 ∧ LX10_fill_79 l E (d + 1) bc bs o0 o1 x2 x3 x4 x5 a6 x7 v4 (nI 1) (nI 0) (stA (stA h4 (o0 + 1) (x7).toNatClampNeg (-1)) (o0 + 2) (x7).toNatClampNeg (nI 0)) Q)) ∧ (¬ (nI 1) = 0 → (vp_in x7 6 ∧ LX10_fill_79 l E (d + 1) bc bs o0 o1 x2 x3 x4 x5 a6 x7 v4 (nI 1) (nI 0) (stA (stA h4 (o0 + 1) (x7).toNatClampNeg v4) (o0 + 2) (x7).toNatClampNeg (nI 0)) Q)))))))))))))) : LX10_fill_3 l E (d + 1) bc bs o0 o1 x2 x3 x4 x5 a6 x7 h Q := by
  refine z_iload (pc := 3) dX10_fill_3 rfl ?_
  refine z_aload_n (pc := 5) dX10_fill_5 rfl rfl ?_
  refine z_geti (pc := 6) dX10_fill_6 fX10_21 rfl ?_
  refine z_icmp_ge (pc := 9) (tgt := 194) dX10_fill_9 (by decide) (fun c1 => ?_) (fun c1 => ?_)
  · replace H := H.1 c1
    exact z_ret (pc := 194) dX10_fill_194 rfl ⟨rfl, H⟩
  · replace H := H.2 c1
    refine z_iload_n (pc := 12) dX10_fill_12 rfl rfl ?_
    refine z_iload (pc := 13) dX10_fill_13 rfl ?_
    refine y_NI (pc := 15) (bc := bc) (bs := bs) (mc := 0) (ms := 0) (As := [.inl x2, .inl x7]) (rest := []) dX10_fill_15 kX11_isIn lX10_27 rfl rfl (H.use (fun v2 h2 H => ?_))
    have S2 := H.1
    replace H := H.2
    refine z_if_eq (pc := 18) (tgt := 188) dX10_fill_18 (by decide) (fun c3 => ?_) (fun c3 => ?_)
    · replace H := H.1 c3
      refine z_iinc (pc := 188) (v := (x7 + (nI 1))) (ls' := [some (.inr (some (0, 10, o0))), some (.inr (some (0, 9, o1))), some (.inl x2), some (.inl x3), some (.inl x4), some (.inl x5), some (.inr (some (14, 12, a6))), some (.inl (x7 + (nI 1))), none, none, none, none]) dX10_fill_188 rfl (by rw [show Int32.ofInt (1) = (nI 1) by decide]) rfl ?_
      refine z_goto (pc := 191) (tgt := 3) dX10_fill_191 (by decide) ?_
      exact H
    · replace H := H.2 c3
      refine z_aload_n (pc := 21) dX10_fill_21 rfl rfl ?_
      refine z_iload (pc := 22) dX10_fill_22 rfl ?_
      refine z_iload_n (pc := 24) dX10_fill_24 rfl rfl ?_
      refine y_VI (pc := 25) (bc := bc) (bs := bs) (mc := 0) (ms := 0) (As := [.inl x7, .inl x3]) (rest := []) dX10_fill_25 kX9_startOf lX10_31 ⟨_, _, rfl⟩ rfl rfl (H.use (fun v4 h4 H => ?_))
      have S4 := H.1
      replace H := H.2
      refine z_istore (pc := 28) (ls' := [some (.inr (some (0, 10, o0))), some (.inr (some (0, 9, o1))), some (.inl x2), some (.inl x3), some (.inl x4), some (.inl x5), some (.inr (some (14, 12, a6))), some (.inl x7), some (.inl v4), none, none, none]) dX10_fill_28 rfl rfl ?_
      refine z_iload (pc := 30) dX10_fill_30 rfl ?_
      refine z_aload_n (pc := 32) dX10_fill_32 rfl rfl ?_
      refine z_geti (pc := 33) dX10_fill_33 fX10_35 rfl ?_
      refine z_iadd (pc := 36) dX10_fill_36 ?_
      refine z_sipush (pc := 37) (v := (nI 17472)) dX10_fill_37 (by decide) ?_
      refine z_icmp_gt (pc := 40) (tgt := 47) dX10_fill_40 (by decide) (fun c5 => ?_) (fun c5 => ?_)
      · replace H := H.1 c5
        refine z_iconst (pc := 47) (v := (nI 0)) dX10_fill_47 (by decide) ?_
        refine z_istore (pc := 48) (ls' := [some (.inr (some (0, 10, o0))), some (.inr (some (0, 9, o1))), some (.inl x2), some (.inl x3), some (.inl x4), some (.inl x5), some (.inr (some (14, 12, a6))), some (.inl x7), some (.inl v4), some (.inl (nI 0)), none, none]) dX10_fill_48 rfl rfl ?_
        refine z_aload_n (pc := 50) dX10_fill_50 rfl rfl ?_
        refine z_getk (pc := 51) dX10_fill_51 fX10_9 rfl (sS_0 S4 g0) ?_
        refine z_iload (pc := 54) dX10_fill_54 rfl ?_
        refine z_iload (pc := 56) dX10_fill_56 rfl ?_
        refine z_if_eq (pc := 58) (tgt := 66) dX10_fill_58 (by decide) (fun c6 => ?_) (fun c6 => ?_)
        · replace H := H.1 c6
          refine z_iconst (pc := 66) (v := (-1)) dX10_fill_66 (by decide) ?_
          have c7 := H.1
          replace H := H.2
          refine z_iast (pc := 67) dX10_fill_67 c7 ?_
          refine z_aload_n (pc := 68) dX10_fill_68 rfl rfl ?_
          refine z_getk (pc := 69) dX10_fill_69 fX10_15 rfl (sS_1 S4 g0) ?_
          refine z_iload (pc := 72) dX10_fill_72 rfl ?_
          refine z_iconst (pc := 74) (v := (nI 0)) dX10_fill_74 (by decide) ?_
          refine z_iast (pc := 75) dX10_fill_75 c7 ?_
          refine z_iconst (pc := 76) (v := (nI 0)) dX10_fill_76 (by decide) ?_
          refine z_istore (pc := 77) (ls' := [some (.inr (some (0, 10, o0))), some (.inr (some (0, 9, o1))), some (.inl x2), some (.inl x3), some (.inl x4), some (.inl x5), some (.inr (some (14, 12, a6))), some (.inl x7), some (.inl v4), some (.inl (nI 0)), some (.inl (nI 0)), none]) dX10_fill_77 rfl rfl ?_
          exact H
        · replace H := H.2 c6
          refine z_iload (pc := 61) dX10_fill_61 rfl ?_
          refine z_goto (pc := 63) (tgt := 67) dX10_fill_63 (by decide) ?_
          have c8 := H.1
          replace H := H.2
          refine z_iast (pc := 67) dX10_fill_67 c8 ?_
          refine z_aload_n (pc := 68) dX10_fill_68 rfl rfl ?_
          refine z_getk (pc := 69) dX10_fill_69 fX10_15 rfl (sS_1 S4 g0) ?_
          refine z_iload (pc := 72) dX10_fill_72 rfl ?_
          refine z_iconst (pc := 74) (v := (nI 0)) dX10_fill_74 (by decide) ?_
          refine z_iast (pc := 75) dX10_fill_75 c8 ?_
          refine z_iconst (pc := 76) (v := (nI 0)) dX10_fill_76 (by decide) ?_
          refine z_istore (pc := 77) (ls' := [some (.inr (some (0, 10, o0))), some (.inr (some (0, 9, o1))), some (.inl x2), some (.inl x3), some (.inl x4), some (.inl x5), some (.inr (some (14, 12, a6))), some (.inl x7), some (.inl v4), some (.inl (nI 0)), some (.inl (nI 0)), none]) dX10_fill_77 rfl rfl ?_
          exact H
      · replace H := H.2 c5
        refine z_iconst (pc := 43) (v := (nI 1)) dX10_fill_43 (by decide) ?_
        refine z_goto (pc := 44) (tgt := 48) dX10_fill_44 (by decide) ?_
        refine z_istore (pc := 48) (ls' := [some (.inr (some (0, 10, o0))), some (.inr (some (0, 9, o1))), some (.inl x2), some (.inl x3), some (.inl x4), some (.inl x5), some (.inr (some (14, 12, a6))), some (.inl x7), some (.inl v4), some (.inl (nI 1)), none, none]) dX10_fill_48 rfl rfl ?_
        refine z_aload_n (pc := 50) dX10_fill_50 rfl rfl ?_
        refine z_getk (pc := 51) dX10_fill_51 fX10_9 rfl (sS_0 S4 g0) ?_
        refine z_iload (pc := 54) dX10_fill_54 rfl ?_
        refine z_iload (pc := 56) dX10_fill_56 rfl ?_
        refine z_if_eq (pc := 58) (tgt := 66) dX10_fill_58 (by decide) (fun c9 => ?_) (fun c9 => ?_)
        · replace H := H.1 c9
          refine z_iconst (pc := 66) (v := (-1)) dX10_fill_66 (by decide) ?_
          have c10 := H.1
          replace H := H.2
          refine z_iast (pc := 67) dX10_fill_67 c10 ?_
          refine z_aload_n (pc := 68) dX10_fill_68 rfl rfl ?_
          refine z_getk (pc := 69) dX10_fill_69 fX10_15 rfl (sS_1 S4 g0) ?_
          refine z_iload (pc := 72) dX10_fill_72 rfl ?_
          refine z_iconst (pc := 74) (v := (nI 0)) dX10_fill_74 (by decide) ?_
          refine z_iast (pc := 75) dX10_fill_75 c10 ?_
          refine z_iconst (pc := 76) (v := (nI 0)) dX10_fill_76 (by decide) ?_
          refine z_istore (pc := 77) (ls' := [some (.inr (some (0, 10, o0))), some (.inr (some (0, 9, o1))), some (.inl x2), some (.inl x3), some (.inl x4), some (.inl x5), some (.inr (some (14, 12, a6))), some (.inl x7), some (.inl v4), some (.inl (nI 1)), some (.inl (nI 0)), none]) dX10_fill_77 rfl rfl ?_
          exact H
        · replace H := H.2 c9
          refine z_iload (pc := 61) dX10_fill_61 rfl ?_
          refine z_goto (pc := 63) (tgt := 67) dX10_fill_63 (by decide) ?_
          have c11 := H.1
          replace H := H.2
          refine z_iast (pc := 67) dX10_fill_67 c11 ?_
          refine z_aload_n (pc := 68) dX10_fill_68 rfl rfl ?_
          refine z_getk (pc := 69) dX10_fill_69 fX10_15 rfl (sS_1 S4 g0) ?_
          refine z_iload (pc := 72) dX10_fill_72 rfl ?_
          refine z_iconst (pc := 74) (v := (nI 0)) dX10_fill_74 (by decide) ?_
          refine z_iast (pc := 75) dX10_fill_75 c11 ?_
          refine z_iconst (pc := 76) (v := (nI 0)) dX10_fill_76 (by decide) ?_
          refine z_istore (pc := 77) (ls' := [some (.inr (some (0, 10, o0))), some (.inr (some (0, 9, o1))), some (.inl x2), some (.inl x3), some (.inl x4), some (.inl x5), some (.inr (some (14, 12, a6))), some (.inl x7), some (.inl v4), some (.inl (nI 1)), some (.inl (nI 0)), none]) dX10_fill_77 rfl rfl ?_
          exact H

set_option maxRecDepth 20000 in
theorem bX10_fill_79 {l : Launch} {E : eE} {d bc bs : Nat} {h : aH} {Q : aH → Prop} {o0 : Nat} {o1 : Nat} {x2 : Int32} {x3 : Int32} {x4 : Int32} {x5 : Int32} {a6 : Nat} {x7 : Int32} {x8 : Int32} {x9 : Int32} {x10 : Int32} (S : SH h) (g0 : isSh o0) (H : (((nI 12) ≤ x10 → LX10_fill_3 l E (d + 1) bc bs o0 o1 x2 x3 x4 x5 a6 (x7 + (nI 1)) h Q) ∧ (¬ (nI 12) ≤ x10 → ((x9 = 0 → LX10_fill_3 l E (d + 1) bc bs o0 o1 x2 x3 x4 x5 a6 (x7 + (nI 1)) h Q) ∧ (¬ x9 = 0 → (vp_in x10 12 ∧ (((hQ h a6 (x10).toNatClampNeg) = none → LX10_fill_79 l E (d + 1) bc bs o0 o1 x2 x3 x4 x5 a6 x7 x8 x9 (x10 + (nI 1)) h Q) ∧ (∀ q4, (hQ h a6 (x10).toNatClampNeg) = some q4 → (CI l E d 0 0 mX11_isIn [.inl x5, .inl x10] h (fun v5 h5 => SH h5 ∧ ((v5 = 0 → LX10_fill_79 l E (d + 1) bc bs o0 o1 x2 x3 x4 x5 a6 x7 x8 x9 (x10 + (nI 1)) h5 Q) ∧ (¬ v5 = 0 → (CI l E d 0 0 mX9_hasCant [.inr (some (0, 9, o1)), .inl x10, .inl x3, .inl x4] h5 (fun v7 h7 => SH h7 ∧ ((¬ v7 = 0 → LX10_fill_79 l E (d + 1) bc bs o0 o1 x2 x3 x4 x5 a6 x7 x8 x9 (x10 + (nI 1)) h7 Q) ∧ (v7 = 0 → (∃ p9, (hQ h a6 (x10).toNatClampNeg) = some (0, 6, p9) ∧ (CI l E d 0 0 mX6_hindrance [.inr (some (0, 6, p9)), .inl x8, .inl (hI h7 o1 1), .inl x4] h7 (fun v10 h10 => SH h10 ∧ ((¬ v10 = 0 → LX10_fill_79 l E (d + 1) bc bs o0 o1 x2 x3 x4 x5 a6 x7 x8 x9 (x10 + (nI 1)) h10 Q) ∧ (v10 = 0 → (vp_in x7 6 ∧ (CI l E d 0 0 mX6_price [.inr (some (0, 6, p9)), .inl x8, .inl (hI h10 o1 1), .inl x4] (stA h10 (o0 + 2) (x7).toNatClampNeg ((hA h10 (o0 + 2) (x7).toNatClampNeg) ||| ((nI 1) <<< (x10 &&& 31)))) (fun v13 h13 => SH h13 ∧ (vp_in ((x7 * (nI 12)) + x10) 72 ∧ LX10_fill_79 l E (d + 1) bc bs o0 o1 x2 x3 x4 x5 a6 x7 x8 x9 (x10 + (nI 1)) (stA h13 (o0 + 3) (((x7 * (nI 12)) + x10)).toNatClampNeg v13) Q))))))))))))))))))))))))) : LX10_fill_79 l E (d + 1) bc bs o0 o1 x2 x3 x4 x5 a6 x7 x8 x9 x10 h Q := by
  refine z_iload (pc := 79) dX10_fill_79 rfl ?_
  refine z_aload (pc := 81) dX10_fill_81 rfl ?_
  refine z_alen (pc := 83) dX10_fill_83 rfl ?_
  refine z_icmp_ge (pc := 84) (tgt := 188) dX10_fill_84 (by decide) (fun c1 => ?_) (fun c1 => ?_)
  · replace H := H.1 c1
    refine z_iinc (pc := 188) (v := (x7 + (nI 1))) (ls' := [some (.inr (some (0, 10, o0))), some (.inr (some (0, 9, o1))), some (.inl x2), some (.inl x3), some (.inl x4), some (.inl x5), some (.inr (some (14, 12, a6))), some (.inl (x7 + (nI 1))), some (.inl x8), some (.inl x9), some (.inl x10), none]) dX10_fill_188 rfl (by rw [show Int32.ofInt (1) = (nI 1) by decide]) rfl ?_
    refine z_goto (pc := 191) (tgt := 3) dX10_fill_191 (by decide) ?_
    exact z_drop (ls' := [some (.inr (some (0, 10, o0))), some (.inr (some (0, 9, o1))), some (.inl x2), some (.inl x3), some (.inl x4), some (.inl x5), some (.inr (some (14, 12, a6))), some (.inl (x7 + (nI 1))), none, none, none, none]) (by simp [dropL]) H
  · replace H := H.2 c1
    refine z_iload (pc := 87) dX10_fill_87 rfl ?_
    refine z_if_eq (pc := 89) (tgt := 188) dX10_fill_89 (by decide) (fun c2 => ?_) (fun c2 => ?_)
    · replace H := H.1 c2
      refine z_iinc (pc := 188) (v := (x7 + (nI 1))) (ls' := [some (.inr (some (0, 10, o0))), some (.inr (some (0, 9, o1))), some (.inl x2), some (.inl x3), some (.inl x4), some (.inl x5), some (.inr (some (14, 12, a6))), some (.inl (x7 + (nI 1))), some (.inl x8), some (.inl x9), some (.inl x10), none]) dX10_fill_188 rfl (by rw [show Int32.ofInt (1) = (nI 1) by decide]) rfl ?_
      refine z_goto (pc := 191) (tgt := 3) dX10_fill_191 (by decide) ?_
      exact z_drop (ls' := [some (.inr (some (0, 10, o0))), some (.inr (some (0, 9, o1))), some (.inl x2), some (.inl x3), some (.inl x4), some (.inl x5), some (.inr (some (14, 12, a6))), some (.inl (x7 + (nI 1))), none, none, none, none]) (by simp [dropL]) H
    · replace H := H.2 c2
      refine z_aload (pc := 92) dX10_fill_92 rfl ?_
      refine z_iload (pc := 94) dX10_fill_94 rfl ?_
      have c3 := H.1
      replace H := H.2
      refine z_aald (pc := 96) dX10_fill_96 rfl rfl rfl c3 ?_
      refine z_astore (pc := 97) (ls' := [some (.inr (some (0, 10, o0))), some (.inr (some (0, 9, o1))), some (.inl x2), some (.inl x3), some (.inl x4), some (.inl x5), some (.inr (some (14, 12, a6))), some (.inl x7), some (.inl x8), some (.inl x9), some (.inl x10), some (.inr ((hQ h a6 (x10).toNatClampNeg)))]) dX10_fill_97 rfl rfl ?_
      refine z_aload (pc := 99) dX10_fill_99 rfl ?_
      refine z_ifnull (pc := 101) (tgt := 182) dX10_fill_101 (by decide) (fun c4 => ?_) (fun q4 c4 => ?_)
      · replace H := H.1 c4
        refine z_iinc (pc := 182) (v := (x10 + (nI 1))) (ls' := [some (.inr (some (0, 10, o0))), some (.inr (some (0, 9, o1))), some (.inl x2), some (.inl x3), some (.inl x4), some (.inl x5), some (.inr (some (14, 12, a6))), some (.inl x7), some (.inl x8), some (.inl x9), some (.inl (x10 + (nI 1))), some (.inr ((hQ h a6 (x10).toNatClampNeg)))]) dX10_fill_182 rfl (by rw [show Int32.ofInt (1) = (nI 1) by decide]) rfl ?_
        refine z_goto (pc := 185) (tgt := 79) dX10_fill_185 (by decide) ?_
        exact z_drop (ls' := [some (.inr (some (0, 10, o0))), some (.inr (some (0, 9, o1))), some (.inl x2), some (.inl x3), some (.inl x4), some (.inl x5), some (.inr (some (14, 12, a6))), some (.inl x7), some (.inl x8), some (.inl x9), some (.inl (x10 + (nI 1))), none]) (by simp [dropL]) H
      · replace H := H.2 q4 c4
        refine z_iload (pc := 104) dX10_fill_104 rfl ?_
        refine z_iload (pc := 106) dX10_fill_106 rfl ?_
        refine y_NI (pc := 108) (bc := bc) (bs := bs) (mc := 0) (ms := 0) (As := [.inl x5, .inl x10]) (rest := []) dX10_fill_108 kX11_isIn lX10_27 rfl rfl (H.use (fun v5 h5 H => ?_))
        have S5 := H.1
        replace H := H.2
        refine z_if_eq (pc := 111) (tgt := 182) dX10_fill_111 (by decide) (fun c6 => ?_) (fun c6 => ?_)
        · replace H := H.1 c6
          refine z_iinc (pc := 182) (v := (x10 + (nI 1))) (ls' := [some (.inr (some (0, 10, o0))), some (.inr (some (0, 9, o1))), some (.inl x2), some (.inl x3), some (.inl x4), some (.inl x5), some (.inr (some (14, 12, a6))), some (.inl x7), some (.inl x8), some (.inl x9), some (.inl (x10 + (nI 1))), some (.inr ((hQ h a6 (x10).toNatClampNeg)))]) dX10_fill_182 rfl (by rw [show Int32.ofInt (1) = (nI 1) by decide]) rfl ?_
          refine z_goto (pc := 185) (tgt := 79) dX10_fill_185 (by decide) ?_
          exact z_drop (ls' := [some (.inr (some (0, 10, o0))), some (.inr (some (0, 9, o1))), some (.inl x2), some (.inl x3), some (.inl x4), some (.inl x5), some (.inr (some (14, 12, a6))), some (.inl x7), some (.inl x8), some (.inl x9), some (.inl (x10 + (nI 1))), none]) (by simp [dropL]) H
        · replace H := H.2 c6
          refine z_aload_n (pc := 114) dX10_fill_114 rfl rfl ?_
          refine z_iload (pc := 115) dX10_fill_115 rfl ?_
          refine z_iload_n (pc := 117) dX10_fill_117 rfl rfl ?_
          refine z_iload (pc := 118) dX10_fill_118 rfl ?_
          refine y_VI (pc := 120) (bc := bc) (bs := bs) (mc := 0) (ms := 0) (As := [.inl x10, .inl x3, .inl x4]) (rest := []) dX10_fill_120 kX9_hasCant lX10_38 ⟨_, _, rfl⟩ rfl rfl (H.use (fun v7 h7 H => ?_))
          have S7 := H.1
          replace H := H.2
          refine z_if_ne (pc := 123) (tgt := 182) dX10_fill_123 (by decide) (fun c8 => ?_) (fun c8 => ?_)
          · replace H := H.1 c8
            refine z_iinc (pc := 182) (v := (x10 + (nI 1))) (ls' := [some (.inr (some (0, 10, o0))), some (.inr (some (0, 9, o1))), some (.inl x2), some (.inl x3), some (.inl x4), some (.inl x5), some (.inr (some (14, 12, a6))), some (.inl x7), some (.inl x8), some (.inl x9), some (.inl (x10 + (nI 1))), some (.inr ((hQ h a6 (x10).toNatClampNeg)))]) dX10_fill_182 rfl (by rw [show Int32.ofInt (1) = (nI 1) by decide]) rfl ?_
            refine z_goto (pc := 185) (tgt := 79) dX10_fill_185 (by decide) ?_
            exact z_drop (ls' := [some (.inr (some (0, 10, o0))), some (.inr (some (0, 9, o1))), some (.inl x2), some (.inl x3), some (.inl x4), some (.inl x5), some (.inr (some (14, 12, a6))), some (.inl x7), some (.inl x8), some (.inl x9), some (.inl (x10 + (nI 1))), none]) (by simp [dropL]) H
          · replace H := H.2 c8
            refine z_aload (pc := 126) dX10_fill_126 rfl ?_
            obtain ⟨p9, e9, H⟩ := H
            refine z_cast e9 ?_
            refine z_iload (pc := 128) dX10_fill_128 rfl ?_
            refine z_aload_n (pc := 130) dX10_fill_130 rfl rfl ?_
            refine z_geti (pc := 131) dX10_fill_131 fX10_35 rfl ?_
            refine z_iload (pc := 134) dX10_fill_134 rfl ?_
            refine y_VI (pc := 136) (bc := bc) (bs := bs) (mc := 0) (ms := 0) (As := [.inl x8, .inl (hI h7 o1 1), .inl x4]) (rest := []) dX10_fill_136 kX6_hindrance lX10_42 ⟨_, _, rfl⟩ rfl rfl (H.use (fun v10 h10 H => ?_))
            have S10 := H.1
            replace H := H.2
            refine z_if_ne (pc := 139) (tgt := 182) dX10_fill_139 (by decide) (fun c11 => ?_) (fun c11 => ?_)
            · replace H := H.1 c11
              refine z_iinc (pc := 182) (v := (x10 + (nI 1))) (ls' := [some (.inr (some (0, 10, o0))), some (.inr (some (0, 9, o1))), some (.inl x2), some (.inl x3), some (.inl x4), some (.inl x5), some (.inr (some (14, 12, a6))), some (.inl x7), some (.inl x8), some (.inl x9), some (.inl (x10 + (nI 1))), some (.inr ((hQ h a6 (x10).toNatClampNeg)))]) dX10_fill_182 rfl (by rw [show Int32.ofInt (1) = (nI 1) by decide]) rfl ?_
              refine z_goto (pc := 185) (tgt := 79) dX10_fill_185 (by decide) ?_
              exact z_drop (ls' := [some (.inr (some (0, 10, o0))), some (.inr (some (0, 9, o1))), some (.inl x2), some (.inl x3), some (.inl x4), some (.inl x5), some (.inr (some (14, 12, a6))), some (.inl x7), some (.inl x8), some (.inl x9), some (.inl (x10 + (nI 1))), none]) (by simp [dropL]) H
            · replace H := H.2 c11
              refine z_aload_n (pc := 142) dX10_fill_142 rfl rfl ?_
              refine z_getk (pc := 143) dX10_fill_143 fX10_15 rfl (sS_1 S10 g0) ?_
              refine z_iload (pc := 146) dX10_fill_146 rfl ?_
              refine z_dup2 (pc := 148) dX10_fill_148 ?_
              have c12 := H.1
              replace H := H.2
              refine z_iald (pc := 149) dX10_fill_149 c12 ?_
              refine z_iconst (pc := 150) (v := (nI 1)) dX10_fill_150 (by decide) ?_
              refine z_iload (pc := 151) dX10_fill_151 rfl ?_
              refine z_ishl (pc := 153) dX10_fill_153 ?_
              refine z_ior (pc := 154) dX10_fill_154 ?_
              refine z_iast (pc := 155) dX10_fill_155 c12 ?_
              refine z_aload_n (pc := 156) dX10_fill_156 rfl rfl ?_
              refine z_getk (pc := 157) dX10_fill_157 fX10_18 rfl (sS_2 S10 g0) ?_
              refine z_iload (pc := 160) dX10_fill_160 rfl ?_
              refine z_bipush (pc := 162) (v := (nI 12)) dX10_fill_162 (by decide) ?_
              refine z_imul (pc := 164) dX10_fill_164 ?_
              refine z_iload (pc := 165) dX10_fill_165 rfl ?_
              refine z_iadd (pc := 167) dX10_fill_167 ?_
              refine z_aload (pc := 168) dX10_fill_168 rfl ?_
              refine z_cast e9 ?_
              refine z_iload (pc := 170) dX10_fill_170 rfl ?_
              refine z_aload_n (pc := 172) dX10_fill_172 rfl rfl ?_
              refine z_geti (pc := 173) dX10_fill_173 fX10_35 rfl ?_
              refine z_iload (pc := 176) dX10_fill_176 rfl ?_
              refine y_VI (pc := 178) (bc := bc) (bs := bs) (mc := 0) (ms := 0) (As := [.inl x8, .inl (hI h10 o1 1), .inl x4]) (rest := [.inl ((x7 * (nI 12)) + x10), .inr (some (1, 72, (o0 + 3)))]) dX10_fill_178 kX6_price lX10_48 ⟨_, _, rfl⟩ rfl rfl (H.use (fun v13 h13 H => ?_))
              have S13 := H.1
              replace H := H.2
              have c14 := H.1
              replace H := H.2
              refine z_iast (pc := 181) dX10_fill_181 c14 ?_
              refine z_iinc (pc := 182) (v := (x10 + (nI 1))) (ls' := [some (.inr (some (0, 10, o0))), some (.inr (some (0, 9, o1))), some (.inl x2), some (.inl x3), some (.inl x4), some (.inl x5), some (.inr (some (14, 12, a6))), some (.inl x7), some (.inl x8), some (.inl x9), some (.inl (x10 + (nI 1))), some (.inr ((hQ h a6 (x10).toNatClampNeg)))]) dX10_fill_182 rfl (by rw [show Int32.ofInt (1) = (nI 1) by decide]) rfl ?_
              refine z_goto (pc := 185) (tgt := 79) dX10_fill_185 (by decide) ?_
              exact z_drop (ls' := [some (.inr (some (0, 10, o0))), some (.inr (some (0, 9, o1))), some (.inl x2), some (.inl x3), some (.inl x4), some (.inl x5), some (.inr (some (14, 12, a6))), some (.inl x7), some (.inl x8), some (.inl x9), some (.inl (x10 + (nI 1))), none]) (by simp [dropL]) H

set_option maxRecDepth 20000 in
theorem bJ6_bitCount_0f7a4_0 {l : Launch} {E : eE} {d bc bs : Nat} {h : aH} {Q : Int32 → aH → Prop} {x0 : Int32} (S : SH h) (H : Q ((((((((x0 - (((x0).toUInt32 >>> (((nI 1)).toUInt32 &&& Int32.toUInt32 31)).toInt32 &&& (nI 1431655765))) &&& (nI 858993459)) + ((((x0 - (((x0).toUInt32 >>> (((nI 1)).toUInt32 &&& Int32.toUInt32 31)).toInt32 &&& (nI 1431655765)))).toUInt32 >>> (((nI 2)).toUInt32 &&& Int32.toUInt32 31)).toInt32 &&& (nI 858993459))) + (((((x0 - (((x0).toUInt32 >>> (((nI 1)).toUInt32 &&& Int32.toUInt32 31)).toInt32 &&& (nI 1431655765))) &&& (nI 858993459)) + ((((x0 - (((x0).toUInt32 >>> (((nI 1)).toUInt32 &&& Int32.toUInt32 31)).toInt32 &&& (nI 1431655765)))).toUInt32 >>> (((nI 2)).toUInt32 &&& Int32.toUInt32 31)).toInt32 &&& (nI 858993459)))).toUInt32 >>> (((nI 4)).toUInt32 &&& Int32.toUInt32 31)).toInt32) &&& (nI 252645135)) + (((((((x0 - (((x0).toUInt32 >>> (((nI 1)).toUInt32 &&& Int32.toUInt32 31)).toInt32 &&& (nI 1431655765))) &&& (nI 858993459)) + ((((x0 - (((x0).toUInt32 >>> (((nI 1)).toUInt32 &&& Int32.toUInt32 31)).toInt32 &&& (nI 1431655765)))).toUInt32 >>> (((nI 2)).toUInt32 &&& Int32.toUInt32 31)).toInt32 &&& (nI 858993459))) + (((((x0 - (((x0).toUInt32 >>> (((nI 1)).toUInt32 &&& Int32.toUInt32 31)).toInt32 &&& (nI 1431655765))) &&& (nI 858993459)) + ((((x0 - (((x0).toUInt32 >>> (((nI 1)).toUInt32 &&& Int32.toUInt32 31)).toInt32 &&& (nI 1431655765)))).toUInt32 >>> (((nI 2)).toUInt32 &&& Int32.toUInt32 31)).toInt32 &&& (nI 858993459)))).toUInt32 >>> (((nI 4)).toUInt32 &&& Int32.toUInt32 31)).toInt32) &&& (nI 252645135))).toUInt32 >>> (((nI 8)).toUInt32 &&& Int32.toUInt32 31)).toInt32) + ((((((((x0 - (((x0).toUInt32 >>> (((nI 1)).toUInt32 &&& Int32.toUInt32 31)).toInt32 &&& (nI 1431655765))) &&& (nI 858993459)) + ((((x0 - (((x0).toUInt32 >>> (((nI 1)).toUInt32 &&& Int32.toUInt32 31)).toInt32 &&& (nI 1431655765)))).toUInt32 >>> (((nI 2)).toUInt32 &&& Int32.toUInt32 31)).toInt32 &&& (nI 858993459))) + (((((x0 - (((x0).toUInt32 >>> (((nI 1)).toUInt32 &&& Int32.toUInt32 31)).toInt32 &&& (nI 1431655765))) &&& (nI 858993459)) + ((((x0 - (((x0).toUInt32 >>> (((nI 1)).toUInt32 &&& Int32.toUInt32 31)).toInt32 &&& (nI 1431655765)))).toUInt32 >>> (((nI 2)).toUInt32 &&& Int32.toUInt32 31)).toInt32 &&& (nI 858993459)))).toUInt32 >>> (((nI 4)).toUInt32 &&& Int32.toUInt32 31)).toInt32) &&& (nI 252645135)) + (((((((x0 - (((x0).toUInt32 >>> (((nI 1)).toUInt32 &&& Int32.toUInt32 31)).toInt32 &&& (nI 1431655765))) &&& (nI 858993459)) + ((((x0 - (((x0).toUInt32 >>> (((nI 1)).toUInt32 &&& Int32.toUInt32 31)).toInt32 &&& (nI 1431655765)))).toUInt32 >>> (((nI 2)).toUInt32 &&& Int32.toUInt32 31)).toInt32 &&& (nI 858993459))) + (((((x0 - (((x0).toUInt32 >>> (((nI 1)).toUInt32 &&& Int32.toUInt32 31)).toInt32 &&& (nI 1431655765))) &&& (nI 858993459)) + ((((x0 - (((x0).toUInt32 >>> (((nI 1)).toUInt32 &&& Int32.toUInt32 31)).toInt32 &&& (nI 1431655765)))).toUInt32 >>> (((nI 2)).toUInt32 &&& Int32.toUInt32 31)).toInt32 &&& (nI 858993459)))).toUInt32 >>> (((nI 4)).toUInt32 &&& Int32.toUInt32 31)).toInt32) &&& (nI 252645135))).toUInt32 >>> (((nI 8)).toUInt32 &&& Int32.toUInt32 31)).toInt32)).toUInt32 >>> (((nI 16)).toUInt32 &&& Int32.toUInt32 31)).toInt32) &&& (nI 63)) h) : CI l E d bc bs mJ6_bitCount_0f7a4 [.inl x0] h Q := by
  refine CI.ofF (by decide +kernel) rfl ?_
  show TI l E mJ6_bitCount_0f7a4 d bc bs 0 [some (.inl x0)] [] h Q
  refine z_iload_n (pc := 0) dJ6_bitCount_0f7a4_0 rfl rfl ?_
  refine z_iload_n (pc := 1) dJ6_bitCount_0f7a4_1 rfl rfl ?_
  refine z_iconst (pc := 2) (v := (nI 1)) dJ6_bitCount_0f7a4_2 (by decide) ?_
  refine z_iushr (pc := 3) dJ6_bitCount_0f7a4_3 ?_
  refine z_ldcw (pc := 4) (v := (nI 1431655765)) dJ6_bitCount_0f7a4_4 tJ6_265 ?_
  refine z_iand (pc := 7) dJ6_bitCount_0f7a4_7 ?_
  refine z_isub (pc := 8) dJ6_bitCount_0f7a4_8 ?_
  refine z_istore_n (pc := 9) (ls' := [some (.inl (x0 - (((x0).toUInt32 >>> (((nI 1)).toUInt32 &&& Int32.toUInt32 31)).toInt32 &&& (nI 1431655765))))]) dJ6_bitCount_0f7a4_9 rfl rfl rfl ?_
  refine z_iload_n (pc := 10) dJ6_bitCount_0f7a4_10 rfl rfl ?_
  refine z_ldcw (pc := 11) (v := (nI 858993459)) dJ6_bitCount_0f7a4_11 tJ6_266 ?_
  refine z_iand (pc := 14) dJ6_bitCount_0f7a4_14 ?_
  refine z_iload_n (pc := 15) dJ6_bitCount_0f7a4_15 rfl rfl ?_
  refine z_iconst (pc := 16) (v := (nI 2)) dJ6_bitCount_0f7a4_16 (by decide) ?_
  refine z_iushr (pc := 17) dJ6_bitCount_0f7a4_17 ?_
  refine z_ldcw (pc := 18) (v := (nI 858993459)) dJ6_bitCount_0f7a4_18 tJ6_266 ?_
  refine z_iand (pc := 21) dJ6_bitCount_0f7a4_21 ?_
  refine z_iadd (pc := 22) dJ6_bitCount_0f7a4_22 ?_
  refine z_istore_n (pc := 23) (ls' := [some (.inl (((x0 - (((x0).toUInt32 >>> (((nI 1)).toUInt32 &&& Int32.toUInt32 31)).toInt32 &&& (nI 1431655765))) &&& (nI 858993459)) + ((((x0 - (((x0).toUInt32 >>> (((nI 1)).toUInt32 &&& Int32.toUInt32 31)).toInt32 &&& (nI 1431655765)))).toUInt32 >>> (((nI 2)).toUInt32 &&& Int32.toUInt32 31)).toInt32 &&& (nI 858993459))))]) dJ6_bitCount_0f7a4_23 rfl rfl rfl ?_
  refine z_iload_n (pc := 24) dJ6_bitCount_0f7a4_24 rfl rfl ?_
  refine z_iload_n (pc := 25) dJ6_bitCount_0f7a4_25 rfl rfl ?_
  refine z_iconst (pc := 26) (v := (nI 4)) dJ6_bitCount_0f7a4_26 (by decide) ?_
  refine z_iushr (pc := 27) dJ6_bitCount_0f7a4_27 ?_
  refine z_iadd (pc := 28) dJ6_bitCount_0f7a4_28 ?_
  refine z_ldcw (pc := 29) (v := (nI 252645135)) dJ6_bitCount_0f7a4_29 tJ6_267 ?_
  refine z_iand (pc := 32) dJ6_bitCount_0f7a4_32 ?_
  refine z_istore_n (pc := 33) (ls' := [some (.inl (((((x0 - (((x0).toUInt32 >>> (((nI 1)).toUInt32 &&& Int32.toUInt32 31)).toInt32 &&& (nI 1431655765))) &&& (nI 858993459)) + ((((x0 - (((x0).toUInt32 >>> (((nI 1)).toUInt32 &&& Int32.toUInt32 31)).toInt32 &&& (nI 1431655765)))).toUInt32 >>> (((nI 2)).toUInt32 &&& Int32.toUInt32 31)).toInt32 &&& (nI 858993459))) + (((((x0 - (((x0).toUInt32 >>> (((nI 1)).toUInt32 &&& Int32.toUInt32 31)).toInt32 &&& (nI 1431655765))) &&& (nI 858993459)) + ((((x0 - (((x0).toUInt32 >>> (((nI 1)).toUInt32 &&& Int32.toUInt32 31)).toInt32 &&& (nI 1431655765)))).toUInt32 >>> (((nI 2)).toUInt32 &&& Int32.toUInt32 31)).toInt32 &&& (nI 858993459)))).toUInt32 >>> (((nI 4)).toUInt32 &&& Int32.toUInt32 31)).toInt32) &&& (nI 252645135)))]) dJ6_bitCount_0f7a4_33 rfl rfl rfl ?_
  refine z_iload_n (pc := 34) dJ6_bitCount_0f7a4_34 rfl rfl ?_
  refine z_iload_n (pc := 35) dJ6_bitCount_0f7a4_35 rfl rfl ?_
  refine z_bipush (pc := 36) (v := (nI 8)) dJ6_bitCount_0f7a4_36 (by decide) ?_
  refine z_iushr (pc := 38) dJ6_bitCount_0f7a4_38 ?_
  refine z_iadd (pc := 39) dJ6_bitCount_0f7a4_39 ?_
  refine z_istore_n (pc := 40) (ls' := [some (.inl ((((((x0 - (((x0).toUInt32 >>> (((nI 1)).toUInt32 &&& Int32.toUInt32 31)).toInt32 &&& (nI 1431655765))) &&& (nI 858993459)) + ((((x0 - (((x0).toUInt32 >>> (((nI 1)).toUInt32 &&& Int32.toUInt32 31)).toInt32 &&& (nI 1431655765)))).toUInt32 >>> (((nI 2)).toUInt32 &&& Int32.toUInt32 31)).toInt32 &&& (nI 858993459))) + (((((x0 - (((x0).toUInt32 >>> (((nI 1)).toUInt32 &&& Int32.toUInt32 31)).toInt32 &&& (nI 1431655765))) &&& (nI 858993459)) + ((((x0 - (((x0).toUInt32 >>> (((nI 1)).toUInt32 &&& Int32.toUInt32 31)).toInt32 &&& (nI 1431655765)))).toUInt32 >>> (((nI 2)).toUInt32 &&& Int32.toUInt32 31)).toInt32 &&& (nI 858993459)))).toUInt32 >>> (((nI 4)).toUInt32 &&& Int32.toUInt32 31)).toInt32) &&& (nI 252645135)) + (((((((x0 - (((x0).toUInt32 >>> (((nI 1)).toUInt32 &&& Int32.toUInt32 31)).toInt32 &&& (nI 1431655765))) &&& (nI 858993459)) + ((((x0 - (((x0).toUInt32 >>> (((nI 1)).toUInt32 &&& Int32.toUInt32 31)).toInt32 &&& (nI 1431655765)))).toUInt32 >>> (((nI 2)).toUInt32 &&& Int32.toUInt32 31)).toInt32 &&& (nI 858993459))) + (((((x0 - (((x0).toUInt32 >>> (((nI 1)).toUInt32 &&& Int32.toUInt32 31)).toInt32 &&& (nI 1431655765))) &&& (nI 858993459)) + ((((x0 - (((x0).toUInt32 >>> (((nI 1)).toUInt32 &&& Int32.toUInt32 31)).toInt32 &&& (nI 1431655765)))).toUInt32 >>> (((nI 2)).toUInt32 &&& Int32.toUInt32 31)).toInt32 &&& (nI 858993459)))).toUInt32 >>> (((nI 4)).toUInt32 &&& Int32.toUInt32 31)).toInt32) &&& (nI 252645135))).toUInt32 >>> (((nI 8)).toUInt32 &&& Int32.toUInt32 31)).toInt32))]) dJ6_bitCount_0f7a4_40 rfl rfl rfl ?_
  refine z_iload_n (pc := 41) dJ6_bitCount_0f7a4_41 rfl rfl ?_
  refine z_iload_n (pc := 42) dJ6_bitCount_0f7a4_42 rfl rfl ?_
  refine z_bipush (pc := 43) (v := (nI 16)) dJ6_bitCount_0f7a4_43 (by decide) ?_
  refine z_iushr (pc := 45) dJ6_bitCount_0f7a4_45 ?_
  refine z_iadd (pc := 46) dJ6_bitCount_0f7a4_46 ?_
  refine z_istore_n (pc := 47) (ls' := [some (.inl (((((((x0 - (((x0).toUInt32 >>> (((nI 1)).toUInt32 &&& Int32.toUInt32 31)).toInt32 &&& (nI 1431655765))) &&& (nI 858993459)) + ((((x0 - (((x0).toUInt32 >>> (((nI 1)).toUInt32 &&& Int32.toUInt32 31)).toInt32 &&& (nI 1431655765)))).toUInt32 >>> (((nI 2)).toUInt32 &&& Int32.toUInt32 31)).toInt32 &&& (nI 858993459))) + (((((x0 - (((x0).toUInt32 >>> (((nI 1)).toUInt32 &&& Int32.toUInt32 31)).toInt32 &&& (nI 1431655765))) &&& (nI 858993459)) + ((((x0 - (((x0).toUInt32 >>> (((nI 1)).toUInt32 &&& Int32.toUInt32 31)).toInt32 &&& (nI 1431655765)))).toUInt32 >>> (((nI 2)).toUInt32 &&& Int32.toUInt32 31)).toInt32 &&& (nI 858993459)))).toUInt32 >>> (((nI 4)).toUInt32 &&& Int32.toUInt32 31)).toInt32) &&& (nI 252645135)) + (((((((x0 - (((x0).toUInt32 >>> (((nI 1)).toUInt32 &&& Int32.toUInt32 31)).toInt32 &&& (nI 1431655765))) &&& (nI 858993459)) + ((((x0 - (((x0).toUInt32 >>> (((nI 1)).toUInt32 &&& Int32.toUInt32 31)).toInt32 &&& (nI 1431655765)))).toUInt32 >>> (((nI 2)).toUInt32 &&& Int32.toUInt32 31)).toInt32 &&& (nI 858993459))) + (((((x0 - (((x0).toUInt32 >>> (((nI 1)).toUInt32 &&& Int32.toUInt32 31)).toInt32 &&& (nI 1431655765))) &&& (nI 858993459)) + ((((x0 - (((x0).toUInt32 >>> (((nI 1)).toUInt32 &&& Int32.toUInt32 31)).toInt32 &&& (nI 1431655765)))).toUInt32 >>> (((nI 2)).toUInt32 &&& Int32.toUInt32 31)).toInt32 &&& (nI 858993459)))).toUInt32 >>> (((nI 4)).toUInt32 &&& Int32.toUInt32 31)).toInt32) &&& (nI 252645135))).toUInt32 >>> (((nI 8)).toUInt32 &&& Int32.toUInt32 31)).toInt32) + ((((((((x0 - (((x0).toUInt32 >>> (((nI 1)).toUInt32 &&& Int32.toUInt32 31)).toInt32 &&& (nI 1431655765))) &&& (nI 858993459)) + ((((x0 - (((x0).toUInt32 >>> (((nI 1)).toUInt32 &&& Int32.toUInt32 31)).toInt32 &&& (nI 1431655765)))).toUInt32 >>> (((nI 2)).toUInt32 &&& Int32.toUInt32 31)).toInt32 &&& (nI 858993459))) + (((((x0 - (((x0).toUInt32 >>> (((nI 1)).toUInt32 &&& Int32.toUInt32 31)).toInt32 &&& (nI 1431655765))) &&& (nI 858993459)) + ((((x0 - (((x0).toUInt32 >>> (((nI 1)).toUInt32 &&& Int32.toUInt32 31)).toInt32 &&& (nI 1431655765)))).toUInt32 >>> (((nI 2)).toUInt32 &&& Int32.toUInt32 31)).toInt32 &&& (nI 858993459)))).toUInt32 >>> (((nI 4)).toUInt32 &&& Int32.toUInt32 31)).toInt32) &&& (nI 252645135)) + (((((((x0 - (((x0).toUInt32 >>> (((nI 1)).toUInt32 &&& Int32.toUInt32 31)).toInt32 &&& (nI 1431655765))) &&& (nI 858993459)) + ((((x0 - (((x0).toUInt32 >>> (((nI 1)).toUInt32 &&& Int32.toUInt32 31)).toInt32 &&& (nI 1431655765)))).toUInt32 >>> (((nI 2)).toUInt32 &&& Int32.toUInt32 31)).toInt32 &&& (nI 858993459))) + (((((x0 - (((x0).toUInt32 >>> (((nI 1)).toUInt32 &&& Int32.toUInt32 31)).toInt32 &&& (nI 1431655765))) &&& (nI 858993459)) + ((((x0 - (((x0).toUInt32 >>> (((nI 1)).toUInt32 &&& Int32.toUInt32 31)).toInt32 &&& (nI 1431655765)))).toUInt32 >>> (((nI 2)).toUInt32 &&& Int32.toUInt32 31)).toInt32 &&& (nI 858993459)))).toUInt32 >>> (((nI 4)).toUInt32 &&& Int32.toUInt32 31)).toInt32) &&& (nI 252645135))).toUInt32 >>> (((nI 8)).toUInt32 &&& Int32.toUInt32 31)).toInt32)).toUInt32 >>> (((nI 16)).toUInt32 &&& Int32.toUInt32 31)).toInt32))]) dJ6_bitCount_0f7a4_47 rfl rfl rfl ?_
  refine z_iload_n (pc := 48) dJ6_bitCount_0f7a4_48 rfl rfl ?_
  refine z_bipush (pc := 49) (v := (nI 63)) dJ6_bitCount_0f7a4_49 (by decide) ?_
  refine z_iand (pc := 51) dJ6_bitCount_0f7a4_51 ?_
  exact z_iret (pc := 52) dJ6_bitCount_0f7a4_52 rfl rfl ⟨_, rfl, H⟩

abbrev LJ7_fill_53178_5 (l : Launch) (E : eE) (d bc bs : Nat) (n0 : Nat) (a0 : Nat) (x1 : Int32) (x2 : Int32) (x3 : Int32) (h : aH) (Q : aH → Prop) : Prop := TV l E mJ7_fill_53178 d bc bs 5 [some (.inr (some (1, n0, a0))), some (.inl x1), some (.inl x2), some (.inl x3)] [] h Q

set_option maxRecDepth 20000 in
theorem bJ7_fill_53178_0 {l : Launch} {E : eE} {d bc bs : Nat} {h : aH} {Q : aH → Prop} {n0 : Nat} {a0 : Nat} {x1 : Int32} (S : SH h) (H : LJ7_fill_53178_5 l E d bc bs n0 a0 x1 (nI 0) (nI n0) h Q) : CV l E d bc bs mJ7_fill_53178 [.inr (some (1, n0, a0)), .inl x1] h Q := by
  refine CV.ofF (by decide +kernel) rfl ?_
  show TV l E mJ7_fill_53178 d bc bs 0 [some (.inr (some (1, n0, a0))), some (.inl x1), none, none] [] h Q
  refine z_iconst (pc := 0) (v := (nI 0)) dJ7_fill_53178_0 (by decide) ?_
  refine z_istore_n (pc := 1) (ls' := [some (.inr (some (1, n0, a0))), some (.inl x1), some (.inl (nI 0)), none]) dJ7_fill_53178_1 rfl rfl rfl ?_
  refine z_aload_n (pc := 2) dJ7_fill_53178_2 rfl rfl ?_
  refine z_alen (pc := 3) dJ7_fill_53178_3 rfl ?_
  refine z_istore_n (pc := 4) (ls' := [some (.inr (some (1, n0, a0))), some (.inl x1), some (.inl (nI 0)), some (.inl (nI n0))]) dJ7_fill_53178_4 rfl rfl rfl ?_
  exact H

set_option maxRecDepth 20000 in
theorem bJ7_fill_53178_5 {l : Launch} {E : eE} {d bc bs : Nat} {h : aH} {Q : aH → Prop} {n0 : Nat} {a0 : Nat} {x1 : Int32} {x2 : Int32} {x3 : Int32} (S : SH h) (H : ((x3 ≤ x2 → Q h) ∧ (¬ x3 ≤ x2 → (vp_in x2 n0 ∧ LJ7_fill_53178_5 l E d bc bs n0 a0 x1 (x2 + (nI 1)) x3 (stA h a0 (x2).toNatClampNeg x1) Q)))) : LJ7_fill_53178_5 l E d bc bs n0 a0 x1 x2 x3 h Q := by
  refine z_iload_n (pc := 5) dJ7_fill_53178_5 rfl rfl ?_
  refine z_iload_n (pc := 6) dJ7_fill_53178_6 rfl rfl ?_
  refine z_icmp_ge (pc := 7) (tgt := 20) dJ7_fill_53178_7 (by decide) (fun c1 => ?_) (fun c1 => ?_)
  · replace H := H.1 c1
    exact z_ret (pc := 20) dJ7_fill_53178_20 rfl ⟨rfl, H⟩
  · replace H := H.2 c1
    refine z_aload_n (pc := 10) dJ7_fill_53178_10 rfl rfl ?_
    refine z_iload_n (pc := 11) dJ7_fill_53178_11 rfl rfl ?_
    refine z_iload_n (pc := 12) dJ7_fill_53178_12 rfl rfl ?_
    have c2 := H.1
    replace H := H.2
    refine z_iast (pc := 13) dJ7_fill_53178_13 c2 ?_
    refine z_iinc (pc := 14) (v := (x2 + (nI 1))) (ls' := [some (.inr (some (1, n0, a0))), some (.inl x1), some (.inl (x2 + (nI 1))), some (.inl x3)]) dJ7_fill_53178_14 rfl (by rw [show Int32.ofInt (1) = (nI 1) by decide]) rfl ?_
    refine z_goto (pc := 17) (tgt := 5) dJ7_fill_53178_17 (by decide) ?_
    exact H

abbrev LJ7_fill_031fb_5 (l : Launch) (E : eE) (d bc bs : Nat) (n0 : Nat) (a0 : Nat) (x1 : Int32) (x2 : Int32) (x3 : Int32) (h : aH) (Q : aH → Prop) : Prop := TV l E mJ7_fill_031fb d bc bs 5 [some (.inr (some (3, n0, a0))), some (.inl x1), some (.inl x2), some (.inl x3)] [] h Q

set_option maxRecDepth 20000 in
theorem bJ7_fill_031fb_0 {l : Launch} {E : eE} {d bc bs : Nat} {h : aH} {Q : aH → Prop} {n0 : Nat} {a0 : Nat} {x1 : Int32} (S : SH h) (H : LJ7_fill_031fb_5 l E d bc bs n0 a0 x1 (nI 0) (nI n0) h Q) : CV l E d bc bs mJ7_fill_031fb [.inr (some (3, n0, a0)), .inl x1] h Q := by
  refine CV.ofF (by decide +kernel) rfl ?_
  show TV l E mJ7_fill_031fb d bc bs 0 [some (.inr (some (3, n0, a0))), some (.inl x1), none, none] [] h Q
  refine z_iconst (pc := 0) (v := (nI 0)) dJ7_fill_031fb_0 (by decide) ?_
  refine z_istore_n (pc := 1) (ls' := [some (.inr (some (3, n0, a0))), some (.inl x1), some (.inl (nI 0)), none]) dJ7_fill_031fb_1 rfl rfl rfl ?_
  refine z_aload_n (pc := 2) dJ7_fill_031fb_2 rfl rfl ?_
  refine z_alen (pc := 3) dJ7_fill_031fb_3 rfl ?_
  refine z_istore_n (pc := 4) (ls' := [some (.inr (some (3, n0, a0))), some (.inl x1), some (.inl (nI 0)), some (.inl (nI n0))]) dJ7_fill_031fb_4 rfl rfl rfl ?_
  exact H

set_option maxRecDepth 20000 in
theorem bJ7_fill_031fb_5 {l : Launch} {E : eE} {d bc bs : Nat} {h : aH} {Q : aH → Prop} {n0 : Nat} {a0 : Nat} {x1 : Int32} {x2 : Int32} {x3 : Int32} (S : SH h) (H : ((x3 ≤ x2 → Q h) ∧ (¬ x3 ≤ x2 → (vp_in x2 n0 ∧ LJ7_fill_031fb_5 l E d bc bs n0 a0 x1 (x2 + (nI 1)) x3 (stA h a0 (x2).toNatClampNeg (vp_nar .byte x1)) Q)))) : LJ7_fill_031fb_5 l E d bc bs n0 a0 x1 x2 x3 h Q := by
  refine z_iload_n (pc := 5) dJ7_fill_031fb_5 rfl rfl ?_
  refine z_iload_n (pc := 6) dJ7_fill_031fb_6 rfl rfl ?_
  refine z_icmp_ge (pc := 7) (tgt := 20) dJ7_fill_031fb_7 (by decide) (fun c1 => ?_) (fun c1 => ?_)
  · replace H := H.1 c1
    exact z_ret (pc := 20) dJ7_fill_031fb_20 rfl ⟨rfl, H⟩
  · replace H := H.2 c1
    refine z_aload_n (pc := 10) dJ7_fill_031fb_10 rfl rfl ?_
    refine z_iload_n (pc := 11) dJ7_fill_031fb_11 rfl rfl ?_
    refine z_iload_n (pc := 12) dJ7_fill_031fb_12 rfl rfl ?_
    have c2 := H.1
    replace H := H.2
    refine z_bast (pc := 13) dJ7_fill_031fb_13 c2 ?_
    refine z_iinc (pc := 14) (v := (x2 + (nI 1))) (ls' := [some (.inr (some (3, n0, a0))), some (.inl x1), some (.inl (x2 + (nI 1))), some (.inl x3)]) dJ7_fill_031fb_14 rfl (by rw [show Int32.ofInt (1) = (nI 1) by decide]) rfl ?_
    refine z_goto (pc := 17) (tgt := 5) dJ7_fill_031fb_17 (by decide) ?_
    exact H

set_option maxRecDepth 20000 in
theorem bJ9_floorMod_7cf53_0 {l : Launch} {E : eE} {d bc bs : Nat} {h : aH} {Q : Int32 → aH → Prop} {x0 : Int32} {x1 : Int32} (S : SH h) (H : (¬ x1 = 0 ∧ ((0 ≤ (x0 ^^^ x1) → Q (x0 - x0 / x1 * x1) h) ∧ (¬ 0 ≤ (x0 ^^^ x1) → (((x0 - x0 / x1 * x1) = 0 → Q (x0 - x0 / x1 * x1) h) ∧ (¬ (x0 - x0 / x1 * x1) = 0 → Q ((x0 - x0 / x1 * x1) + x1) h)))))) : CI l E d bc bs mJ9_floorMod_7cf53 [.inl x0, .inl x1] h Q := by
  refine CI.ofF (by decide +kernel) rfl ?_
  show TI l E mJ9_floorMod_7cf53 d bc bs 0 [some (.inl x0), some (.inl x1), none] [] h Q
  refine z_iload_n (pc := 0) dJ9_floorMod_7cf53_0 rfl rfl ?_
  refine z_iload_n (pc := 1) dJ9_floorMod_7cf53_1 rfl rfl ?_
  refine z_irem (pc := 2) dJ9_floorMod_7cf53_2 H.1 ?_
  replace H := H.2
  refine z_istore_n (pc := 3) (ls' := [some (.inl x0), some (.inl x1), some (.inl (x0 - x0 / x1 * x1))]) dJ9_floorMod_7cf53_3 rfl rfl rfl ?_
  refine z_iload_n (pc := 4) dJ9_floorMod_7cf53_4 rfl rfl ?_
  refine z_iload_n (pc := 5) dJ9_floorMod_7cf53_5 rfl rfl ?_
  refine z_ixor (pc := 6) dJ9_floorMod_7cf53_6 ?_
  refine z_if_ge (pc := 7) (tgt := 18) dJ9_floorMod_7cf53_7 (by decide) (fun c1 => ?_) (fun c1 => ?_)
  · replace H := H.1 c1
    refine z_iload_n (pc := 18) dJ9_floorMod_7cf53_18 rfl rfl ?_
    exact z_iret (pc := 19) dJ9_floorMod_7cf53_19 rfl rfl ⟨_, rfl, H⟩
  · replace H := H.2 c1
    refine z_iload_n (pc := 10) dJ9_floorMod_7cf53_10 rfl rfl ?_
    refine z_if_eq (pc := 11) (tgt := 18) dJ9_floorMod_7cf53_11 (by decide) (fun c2 => ?_) (fun c2 => ?_)
    · replace H := H.1 c2
      refine z_iload_n (pc := 18) dJ9_floorMod_7cf53_18 rfl rfl ?_
      exact z_iret (pc := 19) dJ9_floorMod_7cf53_19 rfl rfl ⟨_, rfl, H⟩
    · replace H := H.2 c2
      refine z_iload_n (pc := 14) dJ9_floorMod_7cf53_14 rfl rfl ?_
      refine z_iload_n (pc := 15) dJ9_floorMod_7cf53_15 rfl rfl ?_
      refine z_iadd (pc := 16) dJ9_floorMod_7cf53_16 ?_
      exact z_iret (pc := 17) dJ9_floorMod_7cf53_17 rfl rfl ⟨_, rfl, H⟩

set_option maxRecDepth 20000 in
theorem bJ9_floorDiv_7cf53_0 {l : Launch} {E : eE} {d bc bs : Nat} {h : aH} {Q : Int32 → aH → Prop} {x0 : Int32} {x1 : Int32} (S : SH h) (H : (¬ x1 = 0 ∧ ((0 ≤ (x0 ^^^ x1) → Q (x0 / x1) h) ∧ (¬ 0 ≤ (x0 ^^^ x1) → ((((x0 / x1) * x1) = x0 → Q (x0 / x1) h) ∧ (¬ ((x0 / x1) * x1) = x0 → Q ((x0 / x1) - (nI 1)) h)))))) : CI l E d bc bs mJ9_floorDiv_7cf53 [.inl x0, .inl x1] h Q := by
  refine CI.ofF (by decide +kernel) rfl ?_
  show TI l E mJ9_floorDiv_7cf53 d bc bs 0 [some (.inl x0), some (.inl x1), none] [] h Q
  refine z_iload_n (pc := 0) dJ9_floorDiv_7cf53_0 rfl rfl ?_
  refine z_iload_n (pc := 1) dJ9_floorDiv_7cf53_1 rfl rfl ?_
  refine z_idiv (pc := 2) dJ9_floorDiv_7cf53_2 H.1 ?_
  replace H := H.2
  refine z_istore_n (pc := 3) (ls' := [some (.inl x0), some (.inl x1), some (.inl (x0 / x1))]) dJ9_floorDiv_7cf53_3 rfl rfl rfl ?_
  refine z_iload_n (pc := 4) dJ9_floorDiv_7cf53_4 rfl rfl ?_
  refine z_iload_n (pc := 5) dJ9_floorDiv_7cf53_5 rfl rfl ?_
  refine z_ixor (pc := 6) dJ9_floorDiv_7cf53_6 ?_
  refine z_if_ge (pc := 7) (tgt := 21) dJ9_floorDiv_7cf53_7 (by decide) (fun c1 => ?_) (fun c1 => ?_)
  · replace H := H.1 c1
    refine z_iload_n (pc := 21) dJ9_floorDiv_7cf53_21 rfl rfl ?_
    exact z_iret (pc := 22) dJ9_floorDiv_7cf53_22 rfl rfl ⟨_, rfl, H⟩
  · replace H := H.2 c1
    refine z_iload_n (pc := 10) dJ9_floorDiv_7cf53_10 rfl rfl ?_
    refine z_iload_n (pc := 11) dJ9_floorDiv_7cf53_11 rfl rfl ?_
    refine z_imul (pc := 12) dJ9_floorDiv_7cf53_12 ?_
    refine z_iload_n (pc := 13) dJ9_floorDiv_7cf53_13 rfl rfl ?_
    refine z_icmp_eq (pc := 14) (tgt := 21) dJ9_floorDiv_7cf53_14 (by decide) (fun c2 => ?_) (fun c2 => ?_)
    · replace H := H.1 c2
      refine z_iload_n (pc := 21) dJ9_floorDiv_7cf53_21 rfl rfl ?_
      exact z_iret (pc := 22) dJ9_floorDiv_7cf53_22 rfl rfl ⟨_, rfl, H⟩
    · replace H := H.2 c2
      refine z_iload_n (pc := 17) dJ9_floorDiv_7cf53_17 rfl rfl ?_
      refine z_iconst (pc := 18) (v := (nI 1)) dJ9_floorDiv_7cf53_18 (by decide) ?_
      refine z_isub (pc := 19) dJ9_floorDiv_7cf53_19 ?_
      exact z_iret (pc := 20) dJ9_floorDiv_7cf53_20 rfl rfl ⟨_, rfl, H⟩

set_option maxRecDepth 20000 in
theorem bJ9_abs_0f7a4_0 {l : Launch} {E : eE} {d bc bs : Nat} {h : aH} {Q : Int32 → aH → Prop} {x0 : Int32} (S : SH h) (H : ((0 ≤ x0 → Q x0 h) ∧ (¬ 0 ≤ x0 → Q (0 - x0) h))) : CI l E d bc bs mJ9_abs_0f7a4 [.inl x0] h Q := by
  refine CI.ofF (by decide +kernel) rfl ?_
  show TI l E mJ9_abs_0f7a4 d bc bs 0 [some (.inl x0)] [] h Q
  refine z_iload_n (pc := 0) dJ9_abs_0f7a4_0 rfl rfl ?_
  refine z_if_ge (pc := 1) (tgt := 9) dJ9_abs_0f7a4_1 (by decide) (fun c1 => ?_) (fun c1 => ?_)
  · replace H := H.1 c1
    refine z_iload_n (pc := 9) dJ9_abs_0f7a4_9 rfl rfl ?_
    exact z_iret (pc := 10) dJ9_abs_0f7a4_10 rfl rfl ⟨_, rfl, H⟩
  · replace H := H.2 c1
    refine z_iload_n (pc := 4) dJ9_abs_0f7a4_4 rfl rfl ?_
    refine z_ineg (pc := 5) dJ9_abs_0f7a4_5 ?_
    refine z_goto (pc := 6) (tgt := 10) dJ9_abs_0f7a4_6 (by decide) ?_
    exact z_iret (pc := 10) dJ9_abs_0f7a4_10 rfl rfl ⟨_, rfl, H⟩

set_option maxRecDepth 20000 in
theorem bJ9_max_7cf53_0 {l : Launch} {E : eE} {d bc bs : Nat} {h : aH} {Q : Int32 → aH → Prop} {x0 : Int32} {x1 : Int32} (S : SH h) (H : ((x0 < x1 → Q x1 h) ∧ (¬ x0 < x1 → Q x0 h))) : CI l E d bc bs mJ9_max_7cf53 [.inl x0, .inl x1] h Q := by
  refine CI.ofF (by decide +kernel) rfl ?_
  show TI l E mJ9_max_7cf53 d bc bs 0 [some (.inl x0), some (.inl x1)] [] h Q
  refine z_iload_n (pc := 0) dJ9_max_7cf53_0 rfl rfl ?_
  refine z_iload_n (pc := 1) dJ9_max_7cf53_1 rfl rfl ?_
  refine z_icmp_lt (pc := 2) (tgt := 9) dJ9_max_7cf53_2 (by decide) (fun c1 => ?_) (fun c1 => ?_)
  · replace H := H.1 c1
    refine z_iload_n (pc := 9) dJ9_max_7cf53_9 rfl rfl ?_
    exact z_iret (pc := 10) dJ9_max_7cf53_10 rfl rfl ⟨_, rfl, H⟩
  · replace H := H.2 c1
    refine z_iload_n (pc := 5) dJ9_max_7cf53_5 rfl rfl ?_
    refine z_goto (pc := 6) (tgt := 10) dJ9_max_7cf53_6 (by decide) ?_
    exact z_iret (pc := 10) dJ9_max_7cf53_10 rfl rfl ⟨_, rfl, H⟩

set_option maxRecDepth 20000 in
theorem bJ9_min_7cf53_0 {l : Launch} {E : eE} {d bc bs : Nat} {h : aH} {Q : Int32 → aH → Prop} {x0 : Int32} {x1 : Int32} (S : SH h) (H : ((x1 < x0 → Q x1 h) ∧ (¬ x1 < x0 → Q x0 h))) : CI l E d bc bs mJ9_min_7cf53 [.inl x0, .inl x1] h Q := by
  refine CI.ofF (by decide +kernel) rfl ?_
  show TI l E mJ9_min_7cf53 d bc bs 0 [some (.inl x0), some (.inl x1)] [] h Q
  refine z_iload_n (pc := 0) dJ9_min_7cf53_0 rfl rfl ?_
  refine z_iload_n (pc := 1) dJ9_min_7cf53_1 rfl rfl ?_
  refine z_icmp_gt (pc := 2) (tgt := 9) dJ9_min_7cf53_2 (by decide) (fun c1 => ?_) (fun c1 => ?_)
  · replace H := H.1 c1
    refine z_iload_n (pc := 9) dJ9_min_7cf53_9 rfl rfl ?_
    exact z_iret (pc := 10) dJ9_min_7cf53_10 rfl rfl ⟨_, rfl, H⟩
  · replace H := H.2 c1
    refine z_iload_n (pc := 5) dJ9_min_7cf53_5 rfl rfl ?_
    refine z_goto (pc := 6) (tgt := 10) dJ9_min_7cf53_6 (by decide) ?_
    exact z_iret (pc := 10) dJ9_min_7cf53_10 rfl rfl ⟨_, rfl, H⟩
