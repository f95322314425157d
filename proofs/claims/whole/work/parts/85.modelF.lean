abbrev LX12_goesFor_2 (l : Launch) (E : eE) (d bc bs : Nat) (x1 : Int32) (x2 : Int32) (x3 : Int32) (h : aH) (Q : Int32 → aH → Prop) : Prop := TI l E mX12_goesFor d bc bs 2 [some (.inr (some (0, 12, 63))), some (.inl x1), some (.inl x2), some (.inl x3), none, none, none, none, none, none] [] h Q

abbrev LX12_goesFor_86 (l : Launch) (E : eE) (d bc bs : Nat) (x1 : Int32) (x2 : Int32) (x3 : Int32) (x4 : Int32) (x5 : Int32) (x6 : Int32) (x7 : Int32) (h : aH) (Q : Int32 → aH → Prop) : Prop := TI l E mX12_goesFor d bc bs 86 [some (.inr (some (0, 12, 63))), some (.inl x1), some (.inl x2), some (.inl x3), some (.inl x4), some (.inl x5), some (.inl x6), some (.inl x7), none, none] [] h Q

abbrev LX12_goesFor_153 (l : Launch) (E : eE) (d bc bs : Nat) (x1 : Int32) (x2 : Int32) (x3 : Int32) (x4 : Int32) (x5 : Int32) (x6 : Int32) (x7 : Int32) (x8 : Int32) (h : aH) (Q : Int32 → aH → Prop) : Prop := TI l E mX12_goesFor d bc bs 153 [some (.inr (some (0, 12, 63))), some (.inl x1), some (.inl x2), some (.inl x3), some (.inl x4), some (.inl x5), some (.inl x6), some (.inl x7), some (.inl x8), none] [] h Q

set_option maxRecDepth 20000 in
theorem bX12_goesFor_0 {l : Launch} {E : eE} {d bc bs : Nat} {h : aH} {Q : Int32 → aH → Prop} {x1 : Int32} {x2 : Int32} (S : SH h) (H : LX12_goesFor_2 l E (d + 1) bc bs x1 x2 (nI 0) h Q) : CI l E (d + 1) bc bs mX12_goesFor [.inr (some (0, 12, 63)), .inl x1, .inl x2] h Q := by
  refine CI.of (by decide) rfl ?_
  show TI l E mX12_goesFor (d + 1) bc bs 0 [some (.inr (some (0, 12, 63))), some (.inl x1), some (.inl x2), none, none, none, none, none, none, none] [] h Q
  refine z_iconst (pc := 0) (v := (nI 0)) dX12_goesFor_0 (by decide) ?_
  refine z_istore_n (pc := 1) (ls' := [some (.inr (some (0, 12, 63))), some (.inl x1), some (.inl x2), some (.inl (nI 0)), none, none, none, none, none, none]) dX12_goesFor_1 rfl rfl rfl ?_
  exact H

set_option maxRecDepth 20000 in
theorem bX12_goesFor_2 {l : Launch} {E : eE} {d bc bs : Nat} {h : aH} {Q : Int32 → aH → Prop} {x1 : Int32} {x2 : Int32} {x3 : Int32} (S : SH h) (hd : 1 ≤ d) (H : (vp_in x1 4 ∧ (((hA h 87 (x1).toNatClampNeg) ≤ x3 → Q (nI 0) h) ∧ (¬ (hA h 87 (x1).toNatClampNeg) ≤ x3 → (vp_in (((nI 15) * x1) + x3) 60 ∧ ((vp_in x1 4 ∧ vp_in (hA h 85 ((((nI 15) * x1) + x3)).toNatClampNeg) 6) ∧ ((¬ (rSlot h x1 (hA h 85 ((((nI 15) * x1) + x3)).toNatClampNeg) + hA h 74 (x1).toNatClampNeg ≤ nI 17472) → LX12_goesFor_2 l E (d + 1) bc bs x1 x2 (x3 + (nI 1)) h Q) ∧ ((rSlot h x1 (hA h 85 ((((nI 15) * x1) + x3)).toNatClampNeg) + hA h 74 (x1).toNatClampNeg ≤ nI 17472) → (((hA h 86 ((((nI 15) * x1) + x3)).toNatClampNeg) = (-1) → LX12_goesFor_86 l E (d + 1) bc bs x1 x2 x3 (hA h 85 ((((nI 15) * x1) + x3)).toNatClampNeg) (hA h 86 ((((nI 15) * x1) + x3)).toNatClampNeg) (nI 1) (nI 0) h Q) ∧ (¬ (hA h 86 ((((nI 15) * x1) + x3)).toNatClampNeg) = (-1) → ((vp_in x1 4 ∧ vp_in (hA h 86 ((((nI 15) * x1) + x3)).toNatClampNeg) 6) ∧ ((¬ (rSlot h x1 (hA h 86 ((((nI 15) * x1) + x3)).toNatClampNeg) + hA h 74 (x1).toNatClampNeg ≤ nI 17472) → LX12_goesFor_2 l E (d + 1) bc bs x1 x2 (x3 + (nI 1)) h Q) ∧ ((rSlot h x1 (hA h 86 ((((nI 15) * x1) + x3)).toNatClampNeg) + hA h 74 (x1).toNatClampNeg ≤ nI 17472) → (((vp_in x1 4 ∧ vp_in (hA h 85 ((((nI 15) * x1) + x3)).toNatClampNeg) 6) ∧ vp_in x1 4 ∧ vp_in (hA h 86 ((((nI 15) * x1) + x3)).toNatClampNeg) 6) ∧ ((¬ (rMeet h x1 (hA h 85 ((((nI 15) * x1) + x3)).toNatClampNeg) x1 (hA h 86 ((((nI 15) * x1) + x3)).toNatClampNeg)) → LX12_goesFor_86 l E (d + 1) bc bs x1 x2 x3 (hA h 85 ((((nI 15) * x1) + x3)).toNatClampNeg) (hA h 86 ((((nI 15) * x1) + x3)).toNatClampNeg) (nI 1) (nI 0) h Q) ∧ ((rMeet h x1 (hA h 85 ((((nI 15) * x1) + x3)).toNatClampNeg) x1 (hA h 86 ((((nI 15) * x1) + x3)).toNatClampNeg)) → LX12_goesFor_2 l E (d + 1) bc bs x1 x2 (x3 + (nI 1)) h Q)))))))))))))))) : LX12_goesFor_2 l E (d + 1) bc bs x1 x2 x3 h Q := by
  refine z_iload_n (pc := 2) dX12_goesFor_2 rfl rfl ?_
  refine z_aload_n (pc := 3) dX12_goesFor_3 rfl rfl ?_
  refine z_getk (pc := 4) dX12_goesFor_4 fX12_84 rfl (s_63_30 S) ?_
  refine z_iload_n (pc := 7) dX12_goesFor_7 rfl rfl ?_
  have c1 := H.1
  replace H := H.2
  refine z_iald (pc := 8) dX12_goesFor_8 c1 ?_
  refine z_icmp_ge (pc := 9) (tgt := 227) dX12_goesFor_9 (by decide) (fun c2 => ?_) (fun c2 => ?_)
  · replace H := H.1 c2
    refine z_iconst (pc := 227) (v := (nI 0)) dX12_goesFor_227 (by decide) ?_
    exact z_iret (pc := 228) dX12_goesFor_228 rfl rfl ⟨_, rfl, H⟩
  · replace H := H.2 c2
    refine z_aload_n (pc := 12) dX12_goesFor_12 rfl rfl ?_
    refine z_getk (pc := 13) dX12_goesFor_13 fX12_78 rfl (s_63_28 S) ?_
    refine z_bipush (pc := 16) (v := (nI 15)) dX12_goesFor_16 (by decide) ?_
    refine z_iload_n (pc := 18) dX12_goesFor_18 rfl rfl ?_
    refine z_imul (pc := 19) dX12_goesFor_19 ?_
    refine z_iload_n (pc := 20) dX12_goesFor_20 rfl rfl ?_
    refine z_iadd (pc := 21) dX12_goesFor_21 ?_
    have c3 := H.1
    replace H := H.2
    refine z_iald (pc := 22) dX12_goesFor_22 c3 ?_
    refine z_istore (pc := 23) (ls' := [some (.inr (some (0, 12, 63))), some (.inl x1), some (.inl x2), some (.inl x3), some (.inl (hA h 85 ((((nI 15) * x1) + x3)).toNatClampNeg)), none, none, none, none, none]) dX12_goesFor_23 rfl rfl ?_
    refine z_aload_n (pc := 25) dX12_goesFor_25 rfl rfl ?_
    refine z_getk (pc := 26) dX12_goesFor_26 fX12_81 rfl (s_63_29 S) ?_
    refine z_bipush (pc := 29) (v := (nI 15)) dX12_goesFor_29 (by decide) ?_
    refine z_iload_n (pc := 31) dX12_goesFor_31 rfl rfl ?_
    refine z_imul (pc := 32) dX12_goesFor_32 ?_
    refine z_iload_n (pc := 33) dX12_goesFor_33 rfl rfl ?_
    refine z_iadd (pc := 34) dX12_goesFor_34 ?_
    refine z_iald (pc := 35) dX12_goesFor_35 c3 ?_
    refine z_istore (pc := 36) (ls' := [some (.inr (some (0, 12, 63))), some (.inl x1), some (.inl x2), some (.inl x3), some (.inl (hA h 85 ((((nI 15) * x1) + x3)).toNatClampNeg)), some (.inl (hA h 86 ((((nI 15) * x1) + x3)).toNatClampNeg)), none, none, none, none]) dX12_goesFor_36 rfl rfl ?_
    refine z_aload_n (pc := 38) dX12_goesFor_38 rfl rfl ?_
    refine z_iload_n (pc := 39) dX12_goesFor_39 rfl rfl ?_
    refine z_iload (pc := 40) dX12_goesFor_40 rfl ?_
    have c4 := H.1
    replace H := H.2
    refine y_VI (pc := 42) (bc := bc) (bs := bs) (mc := 0) (ms := 0) (As := [.inl x1, .inl (hA h 85 ((((nI 15) * x1) + x3)).toNatClampNeg)]) (rest := []) dX12_goesFor_42 kX12_isIn lX12_193 ⟨_, _, rfl⟩ rfl rfl (c_isInO S (by omega) c4 ?_)
    refine z_if_eq (pc := 45) (tgt := 221) dX12_goesFor_45 (by decide) (fun c5 => ?_) (fun c5 => ?_)
    · replace H := H.1 (bI0.mp c5)
      refine z_iinc (pc := 221) (v := (x3 + (nI 1))) (ls' := [some (.inr (some (0, 12, 63))), some (.inl x1), some (.inl x2), some (.inl (x3 + (nI 1))), some (.inl (hA h 85 ((((nI 15) * x1) + x3)).toNatClampNeg)), some (.inl (hA h 86 ((((nI 15) * x1) + x3)).toNatClampNeg)), none, none, none, none]) dX12_goesFor_221 rfl (by rw [show Int32.ofInt (1) = (nI 1) by decide]) rfl ?_
      refine z_goto (pc := 224) (tgt := 2) dX12_goesFor_224 (by decide) ?_
      exact z_drop (ls' := [some (.inr (some (0, 12, 63))), some (.inl x1), some (.inl x2), some (.inl (x3 + (nI 1))), none, none, none, none, none, none]) (by simp [dropL]) H
    · replace H := H.2 (bI1.mp c5)
      refine z_iload (pc := 48) dX12_goesFor_48 rfl ?_
      refine z_iconst (pc := 50) (v := (-1)) dX12_goesFor_50 (by decide) ?_
      refine z_icmp_eq (pc := 51) (tgt := 80) dX12_goesFor_51 (by decide) (fun c6 => ?_) (fun c6 => ?_)
      · replace H := H.1 c6
        refine z_iconst (pc := 80) (v := (nI 1)) dX12_goesFor_80 (by decide) ?_
        refine z_istore (pc := 81) (ls' := [some (.inr (some (0, 12, 63))), some (.inl x1), some (.inl x2), some (.inl x3), some (.inl (hA h 85 ((((nI 15) * x1) + x3)).toNatClampNeg)), some (.inl (hA h 86 ((((nI 15) * x1) + x3)).toNatClampNeg)), some (.inl (nI 1)), none, none, none]) dX12_goesFor_81 rfl rfl ?_
        refine z_iconst (pc := 83) (v := (nI 0)) dX12_goesFor_83 (by decide) ?_
        refine z_istore (pc := 84) (ls' := [some (.inr (some (0, 12, 63))), some (.inl x1), some (.inl x2), some (.inl x3), some (.inl (hA h 85 ((((nI 15) * x1) + x3)).toNatClampNeg)), some (.inl (hA h 86 ((((nI 15) * x1) + x3)).toNatClampNeg)), some (.inl (nI 1)), some (.inl (nI 0)), none, none]) dX12_goesFor_84 rfl rfl ?_
        exact H
      · replace H := H.2 c6
        refine z_aload_n (pc := 54) dX12_goesFor_54 rfl rfl ?_
        refine z_iload_n (pc := 55) dX12_goesFor_55 rfl rfl ?_
        refine z_iload (pc := 56) dX12_goesFor_56 rfl ?_
        have c7 := H.1
        replace H := H.2
        refine y_VI (pc := 58) (bc := bc) (bs := bs) (mc := 0) (ms := 0) (As := [.inl x1, .inl (hA h 86 ((((nI 15) * x1) + x3)).toNatClampNeg)]) (rest := []) dX12_goesFor_58 kX12_isIn lX12_193 ⟨_, _, rfl⟩ rfl rfl (c_isInO S (by omega) c7 ?_)
        refine z_if_eq (pc := 61) (tgt := 221) dX12_goesFor_61 (by decide) (fun c8 => ?_) (fun c8 => ?_)
        · replace H := H.1 (bI0.mp c8)
          refine z_iinc (pc := 221) (v := (x3 + (nI 1))) (ls' := [some (.inr (some (0, 12, 63))), some (.inl x1), some (.inl x2), some (.inl (x3 + (nI 1))), some (.inl (hA h 85 ((((nI 15) * x1) + x3)).toNatClampNeg)), some (.inl (hA h 86 ((((nI 15) * x1) + x3)).toNatClampNeg)), none, none, none, none]) dX12_goesFor_221 rfl (by rw [show Int32.ofInt (1) = (nI 1) by decide]) rfl ?_
          refine z_goto (pc := 224) (tgt := 2) dX12_goesFor_224 (by decide) ?_
          exact z_drop (ls' := [some (.inr (some (0, 12, 63))), some (.inl x1), some (.inl x2), some (.inl (x3 + (nI 1))), none, none, none, none, none, none]) (by simp [dropL]) H
        · replace H := H.2 (bI1.mp c8)
          refine z_aload_n (pc := 64) dX12_goesFor_64 rfl rfl ?_
          refine z_iload_n (pc := 65) dX12_goesFor_65 rfl rfl ?_
          refine z_iload (pc := 66) dX12_goesFor_66 rfl ?_
          refine z_iload_n (pc := 68) dX12_goesFor_68 rfl rfl ?_
          refine z_iload (pc := 69) dX12_goesFor_69 rfl ?_
          have c9 := H.1
          replace H := H.2
          refine y_VI (pc := 71) (bc := bc) (bs := bs) (mc := 0) (ms := 0) (As := [.inl x1, .inl (hA h 85 ((((nI 15) * x1) + x3)).toNatClampNeg), .inl x1, .inl (hA h 86 ((((nI 15) * x1) + x3)).toNatClampNeg)]) (rest := []) dX12_goesFor_71 kX12_meet lX12_190 ⟨_, _, rfl⟩ rfl rfl (c_meet S (by omega) c9 ?_)
          refine z_if_eq (pc := 74) (tgt := 80) dX12_goesFor_74 (by decide) (fun c10 => ?_) (fun c10 => ?_)
          · replace H := H.1 (bI0.mp c10)
            refine z_iconst (pc := 80) (v := (nI 1)) dX12_goesFor_80 (by decide) ?_
            refine z_istore (pc := 81) (ls' := [some (.inr (some (0, 12, 63))), some (.inl x1), some (.inl x2), some (.inl x3), some (.inl (hA h 85 ((((nI 15) * x1) + x3)).toNatClampNeg)), some (.inl (hA h 86 ((((nI 15) * x1) + x3)).toNatClampNeg)), some (.inl (nI 1)), none, none, none]) dX12_goesFor_81 rfl rfl ?_
            refine z_iconst (pc := 83) (v := (nI 0)) dX12_goesFor_83 (by decide) ?_
            refine z_istore (pc := 84) (ls' := [some (.inr (some (0, 12, 63))), some (.inl x1), some (.inl x2), some (.inl x3), some (.inl (hA h 85 ((((nI 15) * x1) + x3)).toNatClampNeg)), some (.inl (hA h 86 ((((nI 15) * x1) + x3)).toNatClampNeg)), some (.inl (nI 1)), some (.inl (nI 0)), none, none]) dX12_goesFor_84 rfl rfl ?_
            exact H
          · replace H := H.2 (bI1.mp c10)
            refine z_goto (pc := 77) (tgt := 221) dX12_goesFor_77 (by decide) ?_
            refine z_iinc (pc := 221) (v := (x3 + (nI 1))) (ls' := [some (.inr (some (0, 12, 63))), some (.inl x1), some (.inl x2), some (.inl (x3 + (nI 1))), some (.inl (hA h 85 ((((nI 15) * x1) + x3)).toNatClampNeg)), some (.inl (hA h 86 ((((nI 15) * x1) + x3)).toNatClampNeg)), none, none, none, none]) dX12_goesFor_221 rfl (by rw [show Int32.ofInt (1) = (nI 1) by decide]) rfl ?_
            refine z_goto (pc := 224) (tgt := 2) dX12_goesFor_224 (by decide) ?_
            exact z_drop (ls' := [some (.inr (some (0, 12, 63))), some (.inl x1), some (.inl x2), some (.inl (x3 + (nI 1))), none, none, none, none, none, none]) (by simp [dropL]) H

set_option maxRecDepth 20000 in
theorem bX12_goesFor_86 {l : Launch} {E : eE} {d bc bs : Nat} {h : aH} {Q : Int32 → aH → Prop} {x1 : Int32} {x2 : Int32} {x3 : Int32} {x4 : Int32} {x5 : Int32} {x6 : Int32} {x7 : Int32} (S : SH h) (H : (((hI h 63 3) ≤ x7 → ((x6 = 0 → LX12_goesFor_2 l E (d + 1) bc bs x1 x2 (x3 + (nI 1)) h Q) ∧ (¬ x6 = 0 → Q (nI 1) h))) ∧ (¬ (hI h 63 3) ≤ x7 → ((x6 = 0 → ((x6 = 0 → LX12_goesFor_2 l E (d + 1) bc bs x1 x2 (x3 + (nI 1)) h Q) ∧ (¬ x6 = 0 → Q (nI 1) h))) ∧ (¬ x6 = 0 → ((¬ ((x2 >>> (x7 &&& 31)) &&& (nI 1)) = 0 → (vp_in (((nI 6) * x7) + x4) 72 ∧ ((x5 = (-1) → LX12_goesFor_153 l E (d + 1) bc bs x1 x2 x3 x4 x5 x6 x7 (hA h 84 ((((nI 6) * x7) + x4)).toNatClampNeg) h Q) ∧ (¬ x5 = (-1) → (vp_in (((nI 6) * x7) + x5) 72 ∧ (((hA h 84 ((((nI 6) * x7) + x5)).toNatClampNeg) = 0 → LX12_goesFor_153 l E (d + 1) bc bs x1 x2 x3 x4 x5 x6 x7 (hA h 84 ((((nI 6) * x7) + x4)).toNatClampNeg) h Q) ∧ (¬ (hA h 84 ((((nI 6) * x7) + x5)).toNatClampNeg) = 0 → (vp_in x1 4 ∧ ((¬ x7 = (hA h 76 (x1).toNatClampNeg) → ((¬ (hA h 84 ((((nI 6) * x7) + x4)).toNatClampNeg) = 0 → LX12_goesFor_86 l E (d + 1) bc bs x1 x2 x3 x4 x5 (nI 1) (x7 + (nI 1)) h Q) ∧ ((hA h 84 ((((nI 6) * x7) + x4)).toNatClampNeg) = 0 → (((nI 1) = 0 → LX12_goesFor_86 l E (d + 1) bc bs x1 x2 x3 x4 x5 (nI 0) (x7 + (nI 1)) h Q) ∧ (¬ (nI 1) = 0 → LX12_goesFor_86 l E (d + 1) bc bs x1 x2 x3 x4 x5 (nI 1) (x7 + (nI 1)) h Q))))) ∧ (x7 = (hA h 76 (x1).toNatClampNeg) → ((x5 = (-1) → ((¬ (hA h 84 ((((nI 6) * x7) + x4)).toNatClampNeg) = 0 → LX12_goesFor_86 l E (d + 1) bc bs x1 x2 x3 x4 x5 (nI 1) (x7 + (nI 1)) h Q) ∧ ((hA h 84 ((((nI 6) * x7) + x4)).toNatClampNeg) = 0 → (((nI 1) = 0 → LX12_goesFor_86 l E (d + 1) bc bs x1 x2 x3 x4 x5 (nI 0) (x7 + (nI 1)) h Q) ∧ (¬ (nI 1) = 0 → LX12_goesFor_86 l E (d + 1) bc bs x1 x2 x3 x4 x5 (nI 1) (x7 + (nI 1)) h Q))))) ∧ (¬ x5 = (-1) → (((hA h 84 ((((nI 6) * x7) + x4)).toNatClampNeg) = 0 → LX12_goesFor_86 l E (d + 1) bc bs x1 x2 x3 x4 x5 (nI 0) (x7 + (nI 1)) h Q) ∧ (¬ (hA h 84 ((((nI 6) * x7) + x4)).toNatClampNeg) = 0 → (((nI 1) = 0 → LX12_goesFor_86 l E (d + 1) bc bs x1 x2 x3 x4 x5 (nI 0) (x7 + (nI 1)) h Q) ∧ (¬ (nI 1) = 0 → LX12_goesFor_86 l E (d + 1) bc bs x1 x2 x3 x4 x5 (nI 1) (x7 + (nI 1)) h Q)))))))))))))))) ∧ (((x2 >>> (x7 &&& 31)) &&& (nI 1)) = 0 → LX12_goesFor_86 l E (d + 1) bc bs x1 x2 x3 x4 x5 x6 (x7 + (nI 1)) h Q))))))) : LX12_goesFor_86 l E (d + 1) bc bs x1 x2 x3 x4 x5 x6 x7 h Q := by
  refine z_iload (pc := 86) dX12_goesFor_86 rfl ?_
  refine z_aload_n (pc := 88) dX12_goesFor_88 rfl rfl ?_
  refine z_geti (pc := 89) dX12_goesFor_89 fX12_123 rfl ?_
  refine z_icmp_ge (pc := 92) (tgt := 214) dX12_goesFor_92 (by decide) (fun c1 => ?_) (fun c1 => ?_)
  · replace H := H.1 c1
    refine z_iload (pc := 214) dX12_goesFor_214 rfl ?_
    refine z_if_eq (pc := 216) (tgt := 221) dX12_goesFor_216 (by decide) (fun c2 => ?_) (fun c2 => ?_)
    · replace H := H.1 c2
      refine z_iinc (pc := 221) (v := (x3 + (nI 1))) (ls' := [some (.inr (some (0, 12, 63))), some (.inl x1), some (.inl x2), some (.inl (x3 + (nI 1))), some (.inl x4), some (.inl x5), some (.inl x6), some (.inl x7), none, none]) dX12_goesFor_221 rfl (by rw [show Int32.ofInt (1) = (nI 1) by decide]) rfl ?_
      refine z_goto (pc := 224) (tgt := 2) dX12_goesFor_224 (by decide) ?_
      exact z_drop (ls' := [some (.inr (some (0, 12, 63))), some (.inl x1), some (.inl x2), some (.inl (x3 + (nI 1))), none, none, none, none, none, none]) (by simp [dropL]) H
    · replace H := H.2 c2
      refine z_iconst (pc := 219) (v := (nI 1)) dX12_goesFor_219 (by decide) ?_
      exact z_iret (pc := 220) dX12_goesFor_220 rfl rfl ⟨_, rfl, H⟩
  · replace H := H.2 c1
    refine z_iload (pc := 95) dX12_goesFor_95 rfl ?_
    refine z_if_eq (pc := 97) (tgt := 214) dX12_goesFor_97 (by decide) (fun c3 => ?_) (fun c3 => ?_)
    · replace H := H.1 c3
      refine z_iload (pc := 214) dX12_goesFor_214 rfl ?_
      refine z_if_eq (pc := 216) (tgt := 221) dX12_goesFor_216 (by decide) (fun c4 => ?_) (fun c4 => ?_)
      · replace H := H.1 c4
        refine z_iinc (pc := 221) (v := (x3 + (nI 1))) (ls' := [some (.inr (some (0, 12, 63))), some (.inl x1), some (.inl x2), some (.inl (x3 + (nI 1))), some (.inl x4), some (.inl x5), some (.inl x6), some (.inl x7), none, none]) dX12_goesFor_221 rfl (by rw [show Int32.ofInt (1) = (nI 1) by decide]) rfl ?_
        refine z_goto (pc := 224) (tgt := 2) dX12_goesFor_224 (by decide) ?_
        exact z_drop (ls' := [some (.inr (some (0, 12, 63))), some (.inl x1), some (.inl x2), some (.inl (x3 + (nI 1))), none, none, none, none, none, none]) (by simp [dropL]) H
      · replace H := H.2 c4
        refine z_iconst (pc := 219) (v := (nI 1)) dX12_goesFor_219 (by decide) ?_
        exact z_iret (pc := 220) dX12_goesFor_220 rfl rfl ⟨_, rfl, H⟩
    · replace H := H.2 c3
      refine z_iload_n (pc := 100) dX12_goesFor_100 rfl rfl ?_
      refine z_iload (pc := 101) dX12_goesFor_101 rfl ?_
      refine z_ishr (pc := 103) dX12_goesFor_103 ?_
      refine z_iconst (pc := 104) (v := (nI 1)) dX12_goesFor_104 (by decide) ?_
      refine z_iand (pc := 105) dX12_goesFor_105 ?_
      refine z_if_ne (pc := 106) (tgt := 112) dX12_goesFor_106 (by decide) (fun c5 => ?_) (fun c5 => ?_)
      · replace H := H.1 c5
        refine z_aload_n (pc := 112) dX12_goesFor_112 rfl rfl ?_
        refine z_getk (pc := 113) dX12_goesFor_113 fX12_75 rfl (s_63_27 S) ?_
        refine z_bipush (pc := 116) (v := (nI 6)) dX12_goesFor_116 (by decide) ?_
        refine z_iload (pc := 118) dX12_goesFor_118 rfl ?_
        refine z_imul (pc := 120) dX12_goesFor_120 ?_
        refine z_iload (pc := 121) dX12_goesFor_121 rfl ?_
        refine z_iadd (pc := 123) dX12_goesFor_123 ?_
        have c6 := H.1
        replace H := H.2
        refine z_zald (pc := 124) dX12_goesFor_124 c6 ?_
        refine z_istore (pc := 125) (ls' := [some (.inr (some (0, 12, 63))), some (.inl x1), some (.inl x2), some (.inl x3), some (.inl x4), some (.inl x5), some (.inl x6), some (.inl x7), some (.inl (hA h 84 ((((nI 6) * x7) + x4)).toNatClampNeg)), none]) dX12_goesFor_125 rfl rfl ?_
        refine z_iload (pc := 127) dX12_goesFor_127 rfl ?_
        refine z_iconst (pc := 129) (v := (-1)) dX12_goesFor_129 (by decide) ?_
        refine z_icmp_eq (pc := 130) (tgt := 153) dX12_goesFor_130 (by decide) (fun c7 => ?_) (fun c7 => ?_)
        · replace H := H.1 c7
          exact H
        · replace H := H.2 c7
          refine z_aload_n (pc := 133) dX12_goesFor_133 rfl rfl ?_
          refine z_getk (pc := 134) dX12_goesFor_134 fX12_75 rfl (s_63_27 S) ?_
          refine z_bipush (pc := 137) (v := (nI 6)) dX12_goesFor_137 (by decide) ?_
          refine z_iload (pc := 139) dX12_goesFor_139 rfl ?_
          refine z_imul (pc := 141) dX12_goesFor_141 ?_
          refine z_iload (pc := 142) dX12_goesFor_142 rfl ?_
          refine z_iadd (pc := 144) dX12_goesFor_144 ?_
          have c8 := H.1
          replace H := H.2
          refine z_zald (pc := 145) dX12_goesFor_145 c8 ?_
          refine z_if_eq (pc := 146) (tgt := 153) dX12_goesFor_146 (by decide) (fun c9 => ?_) (fun c9 => ?_)
          · replace H := H.1 c9
            exact H
          · replace H := H.2 c9
            refine z_iconst (pc := 149) (v := (nI 1)) dX12_goesFor_149 (by decide) ?_
            refine z_goto (pc := 150) (tgt := 154) dX12_goesFor_150 (by decide) ?_
            refine z_istore (pc := 154) (ls' := [some (.inr (some (0, 12, 63))), some (.inl x1), some (.inl x2), some (.inl x3), some (.inl x4), some (.inl x5), some (.inl x6), some (.inl x7), some (.inl (hA h 84 ((((nI 6) * x7) + x4)).toNatClampNeg)), some (.inl (nI 1))]) dX12_goesFor_154 rfl rfl ?_
            refine z_iload (pc := 156) dX12_goesFor_156 rfl ?_
            refine z_aload_n (pc := 158) dX12_goesFor_158 rfl rfl ?_
            refine z_getk (pc := 159) dX12_goesFor_159 fX12_51 rfl (s_63_17 S) ?_
            refine z_iload_n (pc := 162) dX12_goesFor_162 rfl rfl ?_
            have c10 := H.1
            replace H := H.2
            refine z_iald (pc := 163) dX12_goesFor_163 c10 ?_
            refine z_icmp_ne (pc := 164) (tgt := 191) dX12_goesFor_164 (by decide) (fun c11 => ?_) (fun c11 => ?_)
            · replace H := H.1 c11
              refine z_iload (pc := 191) dX12_goesFor_191 rfl ?_
              refine z_if_ne (pc := 193) (tgt := 201) dX12_goesFor_193 (by decide) (fun c12 => ?_) (fun c12 => ?_)
              · replace H := H.1 c12
                refine z_iconst (pc := 201) (v := (nI 1)) dX12_goesFor_201 (by decide) ?_
                refine z_goto (pc := 202) (tgt := 206) dX12_goesFor_202 (by decide) ?_
                refine z_istore (pc := 206) (ls' := [some (.inr (some (0, 12, 63))), some (.inl x1), some (.inl x2), some (.inl x3), some (.inl x4), some (.inl x5), some (.inl (nI 1)), some (.inl x7), some (.inl (hA h 84 ((((nI 6) * x7) + x4)).toNatClampNeg)), some (.inl (nI 1))]) dX12_goesFor_206 rfl rfl ?_
                refine z_iinc (pc := 208) (v := (x7 + (nI 1))) (ls' := [some (.inr (some (0, 12, 63))), some (.inl x1), some (.inl x2), some (.inl x3), some (.inl x4), some (.inl x5), some (.inl (nI 1)), some (.inl (x7 + (nI 1))), some (.inl (hA h 84 ((((nI 6) * x7) + x4)).toNatClampNeg)), some (.inl (nI 1))]) dX12_goesFor_208 rfl (by rw [show Int32.ofInt (1) = (nI 1) by decide]) rfl ?_
                refine z_goto (pc := 211) (tgt := 86) dX12_goesFor_211 (by decide) ?_
                exact z_drop (ls' := [some (.inr (some (0, 12, 63))), some (.inl x1), some (.inl x2), some (.inl x3), some (.inl x4), some (.inl x5), some (.inl (nI 1)), some (.inl (x7 + (nI 1))), none, none]) (by simp [dropL]) H
              · replace H := H.2 c12
                refine z_iload (pc := 196) dX12_goesFor_196 rfl ?_
                refine z_if_eq (pc := 198) (tgt := 205) dX12_goesFor_198 (by decide) (fun c13 => ?_) (fun c13 => ?_)
                · replace H := H.1 c13
                  refine z_iconst (pc := 205) (v := (nI 0)) dX12_goesFor_205 (by decide) ?_
                  refine z_istore (pc := 206) (ls' := [some (.inr (some (0, 12, 63))), some (.inl x1), some (.inl x2), some (.inl x3), some (.inl x4), some (.inl x5), some (.inl (nI 0)), some (.inl x7), some (.inl (hA h 84 ((((nI 6) * x7) + x4)).toNatClampNeg)), some (.inl (nI 1))]) dX12_goesFor_206 rfl rfl ?_
                  refine z_iinc (pc := 208) (v := (x7 + (nI 1))) (ls' := [some (.inr (some (0, 12, 63))), some (.inl x1), some (.inl x2), some (.inl x3), some (.inl x4), some (.inl x5), some (.inl (nI 0)), some (.inl (x7 + (nI 1))), some (.inl (hA h 84 ((((nI 6) * x7) + x4)).toNatClampNeg)), some (.inl (nI 1))]) dX12_goesFor_208 rfl (by rw [show Int32.ofInt (1) = (nI 1) by decide]) rfl ?_
                  refine z_goto (pc := 211) (tgt := 86) dX12_goesFor_211 (by decide) ?_
                  exact z_drop (ls' := [some (.inr (some (0, 12, 63))), some (.inl x1), some (.inl x2), some (.inl x3), some (.inl x4), some (.inl x5), some (.inl (nI 0)), some (.inl (x7 + (nI 1))), none, none]) (by simp [dropL]) H
                · replace H := H.2 c13
                  refine z_iconst (pc := 201) (v := (nI 1)) dX12_goesFor_201 (by decide) ?_
                  refine z_goto (pc := 202) (tgt := 206) dX12_goesFor_202 (by decide) ?_
                  refine z_istore (pc := 206) (ls' := [some (.inr (some (0, 12, 63))), some (.inl x1), some (.inl x2), some (.inl x3), some (.inl x4), some (.inl x5), some (.inl (nI 1)), some (.inl x7), some (.inl (hA h 84 ((((nI 6) * x7) + x4)).toNatClampNeg)), some (.inl (nI 1))]) dX12_goesFor_206 rfl rfl ?_
                  refine z_iinc (pc := 208) (v := (x7 + (nI 1))) (ls' := [some (.inr (some (0, 12, 63))), some (.inl x1), some (.inl x2), some (.inl x3), some (.inl x4), some (.inl x5), some (.inl (nI 1)), some (.inl (x7 + (nI 1))), some (.inl (hA h 84 ((((nI 6) * x7) + x4)).toNatClampNeg)), some (.inl (nI 1))]) dX12_goesFor_208 rfl (by rw [show Int32.ofInt (1) = (nI 1) by decide]) rfl ?_
                  refine z_goto (pc := 211) (tgt := 86) dX12_goesFor_211 (by decide) ?_
                  exact z_drop (ls' := [some (.inr (some (0, 12, 63))), some (.inl x1), some (.inl x2), some (.inl x3), some (.inl x4), some (.inl x5), some (.inl (nI 1)), some (.inl (x7 + (nI 1))), none, none]) (by simp [dropL]) H
            · replace H := H.2 c11
              refine z_iload (pc := 167) dX12_goesFor_167 rfl ?_
              refine z_iconst (pc := 169) (v := (-1)) dX12_goesFor_169 (by decide) ?_
              refine z_icmp_eq (pc := 170) (tgt := 191) dX12_goesFor_170 (by decide) (fun c14 => ?_) (fun c14 => ?_)
              · replace H := H.1 c14
                refine z_iload (pc := 191) dX12_goesFor_191 rfl ?_
                refine z_if_ne (pc := 193) (tgt := 201) dX12_goesFor_193 (by decide) (fun c15 => ?_) (fun c15 => ?_)
                · replace H := H.1 c15
                  refine z_iconst (pc := 201) (v := (nI 1)) dX12_goesFor_201 (by decide) ?_
                  refine z_goto (pc := 202) (tgt := 206) dX12_goesFor_202 (by decide) ?_
                  refine z_istore (pc := 206) (ls' := [some (.inr (some (0, 12, 63))), some (.inl x1), some (.inl x2), some (.inl x3), some (.inl x4), some (.inl x5), some (.inl (nI 1)), some (.inl x7), some (.inl (hA h 84 ((((nI 6) * x7) + x4)).toNatClampNeg)), some (.inl (nI 1))]) dX12_goesFor_206 rfl rfl ?_
                  refine z_iinc (pc := 208) (v := (x7 + (nI 1))) (ls' := [some (.inr (some (0, 12, 63))), some (.inl x1), some (.inl x2), some (.inl x3), some (.inl x4), some (.inl x5), some (.inl (nI 1)), some (.inl (x7 + (nI 1))), some (.inl (hA h 84 ((((nI 6) * x7) + x4)).toNatClampNeg)), some (.inl (nI 1))]) dX12_goesFor_208 rfl (by rw [show Int32.ofInt (1) = (nI 1) by decide]) rfl ?_
                  refine z_goto (pc := 211) (tgt := 86) dX12_goesFor_211 (by decide) ?_
                  exact z_drop (ls' := [some (.inr (some (0, 12, 63))), some (.inl x1), some (.inl x2), some (.inl x3), some (.inl x4), some (.inl x5), some (.inl (nI 1)), some (.inl (x7 + (nI 1))), none, none]) (by simp [dropL]) H
                · replace H := H.2 c15
                  refine z_iload (pc := 196) dX12_goesFor_196 rfl ?_
                  refine z_if_eq (pc := 198) (tgt := 205) dX12_goesFor_198 (by decide) (fun c16 => ?_) (fun c16 => ?_)
                  · replace H := H.1 c16
                    refine z_iconst (pc := 205) (v := (nI 0)) dX12_goesFor_205 (by decide) ?_
                    refine z_istore (pc := 206) (ls' := [some (.inr (some (0, 12, 63))), some (.inl x1), some (.inl x2), some (.inl x3), some (.inl x4), some (.inl x5), some (.inl (nI 0)), some (.inl x7), some (.inl (hA h 84 ((((nI 6) * x7) + x4)).toNatClampNeg)), some (.inl (nI 1))]) dX12_goesFor_206 rfl rfl ?_
                    refine z_iinc (pc := 208) (v := (x7 + (nI 1))) (ls' := [some (.inr (some (0, 12, 63))), some (.inl x1), some (.inl x2), some (.inl x3), some (.inl x4), some (.inl x5), some (.inl (nI 0)), some (.inl (x7 + (nI 1))), some (.inl (hA h 84 ((((nI 6) * x7) + x4)).toNatClampNeg)), some (.inl (nI 1))]) dX12_goesFor_208 rfl (by rw [show Int32.ofInt (1) = (nI 1) by decide]) rfl ?_
                    refine z_goto (pc := 211) (tgt := 86) dX12_goesFor_211 (by decide) ?_
                    exact z_drop (ls' := [some (.inr (some (0, 12, 63))), some (.inl x1), some (.inl x2), some (.inl x3), some (.inl x4), some (.inl x5), some (.inl (nI 0)), some (.inl (x7 + (nI 1))), none, none]) (by simp [dropL]) H
                  · replace H := H.2 c16
                    refine z_iconst (pc := 201) (v := (nI 1)) dX12_goesFor_201 (by decide) ?_
                    refine z_goto (pc := 202) (tgt := 206) dX12_goesFor_202 (by decide) ?_
                    refine z_istore (pc := 206) (ls' := [some (.inr (some (0, 12, 63))), some (.inl x1), some (.inl x2), some (.inl x3), some (.inl x4), some (.inl x5), some (.inl (nI 1)), some (.inl x7), some (.inl (hA h 84 ((((nI 6) * x7) + x4)).toNatClampNeg)), some (.inl (nI 1))]) dX12_goesFor_206 rfl rfl ?_
                    refine z_iinc (pc := 208) (v := (x7 + (nI 1))) (ls' := [some (.inr (some (0, 12, 63))), some (.inl x1), some (.inl x2), some (.inl x3), some (.inl x4), some (.inl x5), some (.inl (nI 1)), some (.inl (x7 + (nI 1))), some (.inl (hA h 84 ((((nI 6) * x7) + x4)).toNatClampNeg)), some (.inl (nI 1))]) dX12_goesFor_208 rfl (by rw [show Int32.ofInt (1) = (nI 1) by decide]) rfl ?_
                    refine z_goto (pc := 211) (tgt := 86) dX12_goesFor_211 (by decide) ?_
                    exact z_drop (ls' := [some (.inr (some (0, 12, 63))), some (.inl x1), some (.inl x2), some (.inl x3), some (.inl x4), some (.inl x5), some (.inl (nI 1)), some (.inl (x7 + (nI 1))), none, none]) (by simp [dropL]) H
              · replace H := H.2 c14
                refine z_iload (pc := 173) dX12_goesFor_173 rfl ?_
                refine z_if_eq (pc := 175) (tgt := 187) dX12_goesFor_175 (by decide) (fun c17 => ?_) (fun c17 => ?_)
                · replace H := H.1 c17
                  refine z_iconst (pc := 187) (v := (nI 0)) dX12_goesFor_187 (by decide) ?_
                  refine z_goto (pc := 188) (tgt := 206) dX12_goesFor_188 (by decide) ?_
                  refine z_istore (pc := 206) (ls' := [some (.inr (some (0, 12, 63))), some (.inl x1), some (.inl x2), some (.inl x3), some (.inl x4), some (.inl x5), some (.inl (nI 0)), some (.inl x7), some (.inl (hA h 84 ((((nI 6) * x7) + x4)).toNatClampNeg)), some (.inl (nI 1))]) dX12_goesFor_206 rfl rfl ?_
                  refine z_iinc (pc := 208) (v := (x7 + (nI 1))) (ls' := [some (.inr (some (0, 12, 63))), some (.inl x1), some (.inl x2), some (.inl x3), some (.inl x4), some (.inl x5), some (.inl (nI 0)), some (.inl (x7 + (nI 1))), some (.inl (hA h 84 ((((nI 6) * x7) + x4)).toNatClampNeg)), some (.inl (nI 1))]) dX12_goesFor_208 rfl (by rw [show Int32.ofInt (1) = (nI 1) by decide]) rfl ?_
                  refine z_goto (pc := 211) (tgt := 86) dX12_goesFor_211 (by decide) ?_
                  exact z_drop (ls' := [some (.inr (some (0, 12, 63))), some (.inl x1), some (.inl x2), some (.inl x3), some (.inl x4), some (.inl x5), some (.inl (nI 0)), some (.inl (x7 + (nI 1))), none, none]) (by simp [dropL]) H
                · replace H := H.2 c17
                  refine z_iload (pc := 178) dX12_goesFor_178 rfl ?_
                  refine z_if_eq (pc := 180) (tgt := 187) dX12_goesFor_180 (by decide) (fun c18 => ?_) (fun c18 => ?_)
                  · replace H := H.1 c18
                    refine z_iconst (pc := 187) (v := (nI 0)) dX12_goesFor_187 (by decide) ?_
                    refine z_goto (pc := 188) (tgt := 206) dX12_goesFor_188 (by decide) ?_
                    refine z_istore (pc := 206) (ls' := [some (.inr (some (0, 12, 63))), some (.inl x1), some (.inl x2), some (.inl x3), some (.inl x4), some (.inl x5), some (.inl (nI 0)), some (.inl x7), some (.inl (hA h 84 ((((nI 6) * x7) + x4)).toNatClampNeg)), some (.inl (nI 1))]) dX12_goesFor_206 rfl rfl ?_
                    refine z_iinc (pc := 208) (v := (x7 + (nI 1))) (ls' := [some (.inr (some (0, 12, 63))), some (.inl x1), some (.inl x2), some (.inl x3), some (.inl x4), some (.inl x5), some (.inl (nI 0)), some (.inl (x7 + (nI 1))), some (.inl (hA h 84 ((((nI 6) * x7) + x4)).toNatClampNeg)), some (.inl (nI 1))]) dX12_goesFor_208 rfl (by rw [show Int32.ofInt (1) = (nI 1) by decide]) rfl ?_
                    refine z_goto (pc := 211) (tgt := 86) dX12_goesFor_211 (by decide) ?_
                    exact z_drop (ls' := [some (.inr (some (0, 12, 63))), some (.inl x1), some (.inl x2), some (.inl x3), some (.inl x4), some (.inl x5), some (.inl (nI 0)), some (.inl (x7 + (nI 1))), none, none]) (by simp [dropL]) H
                  · replace H := H.2 c18
                    refine z_iconst (pc := 183) (v := (nI 1)) dX12_goesFor_183 (by decide) ?_
                    refine z_goto (pc := 184) (tgt := 206) dX12_goesFor_184 (by decide) ?_
                    refine z_istore (pc := 206) (ls' := [some (.inr (some (0, 12, 63))), some (.inl x1), some (.inl x2), some (.inl x3), some (.inl x4), some (.inl x5), some (.inl (nI 1)), some (.inl x7), some (.inl (hA h 84 ((((nI 6) * x7) + x4)).toNatClampNeg)), some (.inl (nI 1))]) dX12_goesFor_206 rfl rfl ?_
                    refine z_iinc (pc := 208) (v := (x7 + (nI 1))) (ls' := [some (.inr (some (0, 12, 63))), some (.inl x1), some (.inl x2), some (.inl x3), some (.inl x4), some (.inl x5), some (.inl (nI 1)), some (.inl (x7 + (nI 1))), some (.inl (hA h 84 ((((nI 6) * x7) + x4)).toNatClampNeg)), some (.inl (nI 1))]) dX12_goesFor_208 rfl (by rw [show Int32.ofInt (1) = (nI 1) by decide]) rfl ?_
                    refine z_goto (pc := 211) (tgt := 86) dX12_goesFor_211 (by decide) ?_
                    exact z_drop (ls' := [some (.inr (some (0, 12, 63))), some (.inl x1), some (.inl x2), some (.inl x3), some (.inl x4), some (.inl x5), some (.inl (nI 1)), some (.inl (x7 + (nI 1))), none, none]) (by simp [dropL]) H
      · replace H := H.2 c5
        refine z_goto (pc := 109) (tgt := 208) dX12_goesFor_109 (by decide) ?_
        refine z_iinc (pc := 208) (v := (x7 + (nI 1))) (ls' := [some (.inr (some (0, 12, 63))), some (.inl x1), some (.inl x2), some (.inl x3), some (.inl x4), some (.inl x5), some (.inl x6), some (.inl (x7 + (nI 1))), none, none]) dX12_goesFor_208 rfl (by rw [show Int32.ofInt (1) = (nI 1) by decide]) rfl ?_
        refine z_goto (pc := 211) (tgt := 86) dX12_goesFor_211 (by decide) ?_
        exact H

set_option maxRecDepth 20000 in
theorem bX12_goesFor_153 {l : Launch} {E : eE} {d bc bs : Nat} {h : aH} {Q : Int32 → aH → Prop} {x1 : Int32} {x2 : Int32} {x3 : Int32} {x4 : Int32} {x5 : Int32} {x6 : Int32} {x7 : Int32} {x8 : Int32} (S : SH h) (H : (vp_in x1 4 ∧ ((¬ x7 = (hA h 76 (x1).toNatClampNeg) → ((¬ x8 = 0 → LX12_goesFor_86 l E (d + 1) bc bs x1 x2 x3 x4 x5 (nI 1) (x7 + (nI 1)) h Q) ∧ (x8 = 0 → (((nI 0) = 0 → LX12_goesFor_86 l E (d + 1) bc bs x1 x2 x3 x4 x5 (nI 0) (x7 + (nI 1)) h Q) ∧ (¬ (nI 0) = 0 → LX12_goesFor_86 l E (d + 1) bc bs x1 x2 x3 x4 x5 (nI 1) (x7 + (nI 1)) h Q))))) ∧ (x7 = (hA h 76 (x1).toNatClampNeg) → ((x5 = (-1) → ((¬ x8 = 0 → LX12_goesFor_86 l E (d + 1) bc bs x1 x2 x3 x4 x5 (nI 1) (x7 + (nI 1)) h Q) ∧ (x8 = 0 → (((nI 0) = 0 → LX12_goesFor_86 l E (d + 1) bc bs x1 x2 x3 x4 x5 (nI 0) (x7 + (nI 1)) h Q) ∧ (¬ (nI 0) = 0 → LX12_goesFor_86 l E (d + 1) bc bs x1 x2 x3 x4 x5 (nI 1) (x7 + (nI 1)) h Q))))) ∧ (¬ x5 = (-1) → ((x8 = 0 → LX12_goesFor_86 l E (d + 1) bc bs x1 x2 x3 x4 x5 (nI 0) (x7 + (nI 1)) h Q) ∧ (¬ x8 = 0 → (((nI 0) = 0 → LX12_goesFor_86 l E (d + 1) bc bs x1 x2 x3 x4 x5 (nI 0) (x7 + (nI 1)) h Q) ∧ (¬ (nI 0) = 0 → LX12_goesFor_86 l E (d + 1) bc bs x1 x2 x3 x4 x5 (nI 1) (x7 + (nI 1)) h Q)))))))))) : LX12_goesFor_153 l E (d + 1) bc bs x1 x2 x3 x4 x5 x6 x7 x8 h Q := by
  refine z_iconst (pc := 153) (v := (nI 0)) dX12_goesFor_153 (by decide) ?_
  refine z_istore (pc := 154) (ls' := [some (.inr (some (0, 12, 63))), some (.inl x1), some (.inl x2), some (.inl x3), some (.inl x4), some (.inl x5), some (.inl x6), some (.inl x7), some (.inl x8), some (.inl (nI 0))]) dX12_goesFor_154 rfl rfl ?_
  refine z_iload (pc := 156) dX12_goesFor_156 rfl ?_
  refine z_aload_n (pc := 158) dX12_goesFor_158 rfl rfl ?_
  refine z_getk (pc := 159) dX12_goesFor_159 fX12_51 rfl (s_63_17 S) ?_
  refine z_iload_n (pc := 162) dX12_goesFor_162 rfl rfl ?_
  have c1 := H.1
  replace H := H.2
  refine z_iald (pc := 163) dX12_goesFor_163 c1 ?_
  refine z_icmp_ne (pc := 164) (tgt := 191) dX12_goesFor_164 (by decide) (fun c2 => ?_) (fun c2 => ?_)
  · replace H := H.1 c2
    refine z_iload (pc := 191) dX12_goesFor_191 rfl ?_
    refine z_if_ne (pc := 193) (tgt := 201) dX12_goesFor_193 (by decide) (fun c3 => ?_) (fun c3 => ?_)
    · replace H := H.1 c3
      refine z_iconst (pc := 201) (v := (nI 1)) dX12_goesFor_201 (by decide) ?_
      refine z_goto (pc := 202) (tgt := 206) dX12_goesFor_202 (by decide) ?_
      refine z_istore (pc := 206) (ls' := [some (.inr (some (0, 12, 63))), some (.inl x1), some (.inl x2), some (.inl x3), some (.inl x4), some (.inl x5), some (.inl (nI 1)), some (.inl x7), some (.inl x8), some (.inl (nI 0))]) dX12_goesFor_206 rfl rfl ?_
      refine z_iinc (pc := 208) (v := (x7 + (nI 1))) (ls' := [some (.inr (some (0, 12, 63))), some (.inl x1), some (.inl x2), some (.inl x3), some (.inl x4), some (.inl x5), some (.inl (nI 1)), some (.inl (x7 + (nI 1))), some (.inl x8), some (.inl (nI 0))]) dX12_goesFor_208 rfl (by rw [show Int32.ofInt (1) = (nI 1) by decide]) rfl ?_
      refine z_goto (pc := 211) (tgt := 86) dX12_goesFor_211 (by decide) ?_
      exact z_drop (ls' := [some (.inr (some (0, 12, 63))), some (.inl x1), some (.inl x2), some (.inl x3), some (.inl x4), some (.inl x5), some (.inl (nI 1)), some (.inl (x7 + (nI 1))), none, none]) (by simp [dropL]) H
    · replace H := H.2 c3
      refine z_iload (pc := 196) dX12_goesFor_196 rfl ?_
      refine z_if_eq (pc := 198) (tgt := 205) dX12_goesFor_198 (by decide) (fun c4 => ?_) (fun c4 => ?_)
      · replace H := H.1 c4
        refine z_iconst (pc := 205) (v := (nI 0)) dX12_goesFor_205 (by decide) ?_
        refine z_istore (pc := 206) (ls' := [some (.inr (some (0, 12, 63))), some (.inl x1), some (.inl x2), some (.inl x3), some (.inl x4), some (.inl x5), some (.inl (nI 0)), some (.inl x7), some (.inl x8), some (.inl (nI 0))]) dX12_goesFor_206 rfl rfl ?_
        refine z_iinc (pc := 208) (v := (x7 + (nI 1))) (ls' := [some (.inr (some (0, 12, 63))), some (.inl x1), some (.inl x2), some (.inl x3), some (.inl x4), some (.inl x5), some (.inl (nI 0)), some (.inl (x7 + (nI 1))), some (.inl x8), some (.inl (nI 0))]) dX12_goesFor_208 rfl (by rw [show Int32.ofInt (1) = (nI 1) by decide]) rfl ?_
        refine z_goto (pc := 211) (tgt := 86) dX12_goesFor_211 (by decide) ?_
        exact z_drop (ls' := [some (.inr (some (0, 12, 63))), some (.inl x1), some (.inl x2), some (.inl x3), some (.inl x4), some (.inl x5), some (.inl (nI 0)), some (.inl (x7 + (nI 1))), none, none]) (by simp [dropL]) H
      · replace H := H.2 c4
        refine z_iconst (pc := 201) (v := (nI 1)) dX12_goesFor_201 (by decide) ?_
        refine z_goto (pc := 202) (tgt := 206) dX12_goesFor_202 (by decide) ?_
        refine z_istore (pc := 206) (ls' := [some (.inr (some (0, 12, 63))), some (.inl x1), some (.inl x2), some (.inl x3), some (.inl x4), some (.inl x5), some (.inl (nI 1)), some (.inl x7), some (.inl x8), some (.inl (nI 0))]) dX12_goesFor_206 rfl rfl ?_
        refine z_iinc (pc := 208) (v := (x7 + (nI 1))) (ls' := [some (.inr (some (0, 12, 63))), some (.inl x1), some (.inl x2), some (.inl x3), some (.inl x4), some (.inl x5), some (.inl (nI 1)), some (.inl (x7 + (nI 1))), some (.inl x8), some (.inl (nI 0))]) dX12_goesFor_208 rfl (by rw [show Int32.ofInt (1) = (nI 1) by decide]) rfl ?_
        refine z_goto (pc := 211) (tgt := 86) dX12_goesFor_211 (by decide) ?_
        exact z_drop (ls' := [some (.inr (some (0, 12, 63))), some (.inl x1), some (.inl x2), some (.inl x3), some (.inl x4), some (.inl x5), some (.inl (nI 1)), some (.inl (x7 + (nI 1))), none, none]) (by simp [dropL]) H
  · replace H := H.2 c2
    refine z_iload (pc := 167) dX12_goesFor_167 rfl ?_
    refine z_iconst (pc := 169) (v := (-1)) dX12_goesFor_169 (by decide) ?_
    refine z_icmp_eq (pc := 170) (tgt := 191) dX12_goesFor_170 (by decide) (fun c5 => ?_) (fun c5 => ?_)
    · replace H := H.1 c5
      refine z_iload (pc := 191) dX12_goesFor_191 rfl ?_
      refine z_if_ne (pc := 193) (tgt := 201) dX12_goesFor_193 (by decide) (fun c6 => ?_) (fun c6 => ?_)
      · replace H := H.1 c6
        refine z_iconst (pc := 201) (v := (nI 1)) dX12_goesFor_201 (by decide) ?_
        refine z_goto (pc := 202) (tgt := 206) dX12_goesFor_202 (by decide) ?_
        refine z_istore (pc := 206) (ls' := [some (.inr (some (0, 12, 63))), some (.inl x1), some (.inl x2), some (.inl x3), some (.inl x4), some (.inl x5), some (.inl (nI 1)), some (.inl x7), some (.inl x8), some (.inl (nI 0))]) dX12_goesFor_206 rfl rfl ?_
        refine z_iinc (pc := 208) (v := (x7 + (nI 1))) (ls' := [some (.inr (some (0, 12, 63))), some (.inl x1), some (.inl x2), some (.inl x3), some (.inl x4), some (.inl x5), some (.inl (nI 1)), some (.inl (x7 + (nI 1))), some (.inl x8), some (.inl (nI 0))]) dX12_goesFor_208 rfl (by rw [show Int32.ofInt (1) = (nI 1) by decide]) rfl ?_
        refine z_goto (pc := 211) (tgt := 86) dX12_goesFor_211 (by decide) ?_
        exact z_drop (ls' := [some (.inr (some (0, 12, 63))), some (.inl x1), some (.inl x2), some (.inl x3), some (.inl x4), some (.inl x5), some (.inl (nI 1)), some (.inl (x7 + (nI 1))), none, none]) (by simp [dropL]) H
      · replace H := H.2 c6
        refine z_iload (pc := 196) dX12_goesFor_196 rfl ?_
        refine z_if_eq (pc := 198) (tgt := 205) dX12_goesFor_198 (by decide) (fun c7 => ?_) (fun c7 => ?_)
        · replace H := H.1 c7
          refine z_iconst (pc := 205) (v := (nI 0)) dX12_goesFor_205 (by decide) ?_
          refine z_istore (pc := 206) (ls' := [some (.inr (some (0, 12, 63))), some (.inl x1), some (.inl x2), some (.inl x3), some (.inl x4), some (.inl x5), some (.inl (nI 0)), some (.inl x7), some (.inl x8), some (.inl (nI 0))]) dX12_goesFor_206 rfl rfl ?_
          refine z_iinc (pc := 208) (v := (x7 + (nI 1))) (ls' := [some (.inr (some (0, 12, 63))), some (.inl x1), some (.inl x2), some (.inl x3), some (.inl x4), some (.inl x5), some (.inl (nI 0)), some (.inl (x7 + (nI 1))), some (.inl x8), some (.inl (nI 0))]) dX12_goesFor_208 rfl (by rw [show Int32.ofInt (1) = (nI 1) by decide]) rfl ?_
          refine z_goto (pc := 211) (tgt := 86) dX12_goesFor_211 (by decide) ?_
          exact z_drop (ls' := [some (.inr (some (0, 12, 63))), some (.inl x1), some (.inl x2), some (.inl x3), some (.inl x4), some (.inl x5), some (.inl (nI 0)), some (.inl (x7 + (nI 1))), none, none]) (by simp [dropL]) H
        · replace H := H.2 c7
          refine z_iconst (pc := 201) (v := (nI 1)) dX12_goesFor_201 (by decide) ?_
          refine z_goto (pc := 202) (tgt := 206) dX12_goesFor_202 (by decide) ?_
          refine z_istore (pc := 206) (ls' := [some (.inr (some (0, 12, 63))), some (.inl x1), some (.inl x2), some (.inl x3), some (.inl x4), some (.inl x5), some (.inl (nI 1)), some (.inl x7), some (.inl x8), some (.inl (nI 0))]) dX12_goesFor_206 rfl rfl ?_
          refine z_iinc (pc := 208) (v := (x7 + (nI 1))) (ls' := [some (.inr (some (0, 12, 63))), some (.inl x1), some (.inl x2), some (.inl x3), some (.inl x4), some (.inl x5), some (.inl (nI 1)), some (.inl (x7 + (nI 1))), some (.inl x8), some (.inl (nI 0))]) dX12_goesFor_208 rfl (by rw [show Int32.ofInt (1) = (nI 1) by decide]) rfl ?_
          refine z_goto (pc := 211) (tgt := 86) dX12_goesFor_211 (by decide) ?_
          exact z_drop (ls' := [some (.inr (some (0, 12, 63))), some (.inl x1), some (.inl x2), some (.inl x3), some (.inl x4), some (.inl x5), some (.inl (nI 1)), some (.inl (x7 + (nI 1))), none, none]) (by simp [dropL]) H
    · replace H := H.2 c5
      refine z_iload (pc := 173) dX12_goesFor_173 rfl ?_
      refine z_if_eq (pc := 175) (tgt := 187) dX12_goesFor_175 (by decide) (fun c8 => ?_) (fun c8 => ?_)
      · replace H := H.1 c8
        refine z_iconst (pc := 187) (v := (nI 0)) dX12_goesFor_187 (by decide) ?_
        refine z_goto (pc := 188) (tgt := 206) dX12_goesFor_188 (by decide) ?_
        refine z_istore (pc := 206) (ls' := [some (.inr (some (0, 12, 63))), some (.inl x1), some (.inl x2), some (.inl x3), some (.inl x4), some (.inl x5), some (.inl (nI 0)), some (.inl x7), some (.inl x8), some (.inl (nI 0))]) dX12_goesFor_206 rfl rfl ?_
        refine z_iinc (pc := 208) (v := (x7 + (nI 1))) (ls' := [some (.inr (some (0, 12, 63))), some (.inl x1), some (.inl x2), some (.inl x3), some (.inl x4), some (.inl x5), some (.inl (nI 0)), some (.inl (x7 + (nI 1))), some (.inl x8), some (.inl (nI 0))]) dX12_goesFor_208 rfl (by rw [show Int32.ofInt (1) = (nI 1) by decide]) rfl ?_
        refine z_goto (pc := 211) (tgt := 86) dX12_goesFor_211 (by decide) ?_
        exact z_drop (ls' := [some (.inr (some (0, 12, 63))), some (.inl x1), some (.inl x2), some (.inl x3), some (.inl x4), some (.inl x5), some (.inl (nI 0)), some (.inl (x7 + (nI 1))), none, none]) (by simp [dropL]) H
      · replace H := H.2 c8
        refine z_iload (pc := 178) dX12_goesFor_178 rfl ?_
        refine z_if_eq (pc := 180) (tgt := 187) dX12_goesFor_180 (by decide) (fun c9 => ?_) (fun c9 => ?_)
        · replace H := H.1 c9
          refine z_iconst (pc := 187) (v := (nI 0)) dX12_goesFor_187 (by decide) ?_
          refine z_goto (pc := 188) (tgt := 206) dX12_goesFor_188 (by decide) ?_
          refine z_istore (pc := 206) (ls' := [some (.inr (some (0, 12, 63))), some (.inl x1), some (.inl x2), some (.inl x3), some (.inl x4), some (.inl x5), some (.inl (nI 0)), some (.inl x7), some (.inl x8), some (.inl (nI 0))]) dX12_goesFor_206 rfl rfl ?_
          refine z_iinc (pc := 208) (v := (x7 + (nI 1))) (ls' := [some (.inr (some (0, 12, 63))), some (.inl x1), some (.inl x2), some (.inl x3), some (.inl x4), some (.inl x5), some (.inl (nI 0)), some (.inl (x7 + (nI 1))), some (.inl x8), some (.inl (nI 0))]) dX12_goesFor_208 rfl (by rw [show Int32.ofInt (1) = (nI 1) by decide]) rfl ?_
          refine z_goto (pc := 211) (tgt := 86) dX12_goesFor_211 (by decide) ?_
          exact z_drop (ls' := [some (.inr (some (0, 12, 63))), some (.inl x1), some (.inl x2), some (.inl x3), some (.inl x4), some (.inl x5), some (.inl (nI 0)), some (.inl (x7 + (nI 1))), none, none]) (by simp [dropL]) H
        · replace H := H.2 c9
          refine z_iconst (pc := 183) (v := (nI 1)) dX12_goesFor_183 (by decide) ?_
          refine z_goto (pc := 184) (tgt := 206) dX12_goesFor_184 (by decide) ?_
          refine z_istore (pc := 206) (ls' := [some (.inr (some (0, 12, 63))), some (.inl x1), some (.inl x2), some (.inl x3), some (.inl x4), some (.inl x5), some (.inl (nI 1)), some (.inl x7), some (.inl x8), some (.inl (nI 0))]) dX12_goesFor_206 rfl rfl ?_
          refine z_iinc (pc := 208) (v := (x7 + (nI 1))) (ls' := [some (.inr (some (0, 12, 63))), some (.inl x1), some (.inl x2), some (.inl x3), some (.inl x4), some (.inl x5), some (.inl (nI 1)), some (.inl (x7 + (nI 1))), some (.inl x8), some (.inl (nI 0))]) dX12_goesFor_208 rfl (by rw [show Int32.ofInt (1) = (nI 1) by decide]) rfl ?_
          refine z_goto (pc := 211) (tgt := 86) dX12_goesFor_211 (by decide) ?_
          exact z_drop (ls' := [some (.inr (some (0, 12, 63))), some (.inl x1), some (.inl x2), some (.inl x3), some (.inl x4), some (.inl x5), some (.inl (nI 1)), some (.inl (x7 + (nI 1))), none, none]) (by simp [dropL]) H

abbrev LX12_leastStuck_4 (l : Launch) (E : eE) (d bc bs : Nat) (x1 : Int32) (x2 : Int32) (x3 : Int32) (h : aH) (Q : Int32 → aH → Prop) : Prop := TI l E mX12_leastStuck d bc bs 4 [some (.inr (some (0, 12, 63))), some (.inl x1), some (.inl x2), some (.inl x3), none] [] h Q

abbrev LX12_leastStuck_65 (l : Launch) (E : eE) (d bc bs : Nat) (x1 : Int32) (x2 : Int32) (x3 : Int32) (x4 : Int32) (h : aH) (Q : Int32 → aH → Prop) : Prop := TI l E mX12_leastStuck d bc bs 65 [some (.inr (some (0, 12, 63))), some (.inl x1), some (.inl x2), some (.inl x3), some (.inl x4)] [] h Q

set_option maxRecDepth 20000 in
theorem bX12_leastStuck_0 {l : Launch} {E : eE} {d bc bs : Nat} {h : aH} {Q : Int32 → aH → Prop} {x1 : Int32} (S : SH h) (H : LX12_leastStuck_4 l E (d + 1) bc bs x1 (nI 0) (nI 0) h Q) : CI l E (d + 1) bc bs mX12_leastStuck [.inr (some (0, 12, 63)), .inl x1] h Q := by
  refine CI.of (by decide) rfl ?_
  show TI l E mX12_leastStuck (d + 1) bc bs 0 [some (.inr (some (0, 12, 63))), some (.inl x1), none, none, none] [] h Q
  refine z_iconst (pc := 0) (v := (nI 0)) dX12_leastStuck_0 (by decide) ?_
  refine z_istore_n (pc := 1) (ls' := [some (.inr (some (0, 12, 63))), some (.inl x1), some (.inl (nI 0)), none, none]) dX12_leastStuck_1 rfl rfl rfl ?_
  refine z_iconst (pc := 2) (v := (nI 0)) dX12_leastStuck_2 (by decide) ?_
  refine z_istore_n (pc := 3) (ls' := [some (.inr (some (0, 12, 63))), some (.inl x1), some (.inl (nI 0)), some (.inl (nI 0)), none]) dX12_leastStuck_3 rfl rfl rfl ?_
  exact H

set_option maxRecDepth 20000 in
theorem bX12_leastStuck_4 {l : Launch} {E : eE} {d bc bs : Nat} {h : aH} {Q : Int32 → aH → Prop} {x1 : Int32} {x2 : Int32} {x3 : Int32} (S : SH h) (H : (((hI h 63 3) ≤ x3 → (CI l E d 0 0 mX12_goesFor [.inr (some (0, 12, 63)), .inl x1, .inl x2] h (fun v2 h2 => SH h2 ∧ ((v2 = 0 → LX12_leastStuck_65 l E (d + 1) bc bs x1 x2 x2 (nI 0) h2 Q) ∧ (¬ v2 = 0 → Q (nI 0) h2))))) ∧ (¬ (hI h 63 3) ≤ x3 → (vp_in (((nI 12) * x1) + x3) 48 ∧ (((hA h 79 ((((nI 12) * x1) + x3)).toNatClampNeg) = (nI 1) → LX12_leastStuck_4 l E (d + 1) bc bs x1 (x2 ||| ((nI 1) <<< (x3 &&& 31))) (x3 + (nI 1)) h Q) ∧ (¬ (hA h 79 ((((nI 12) * x1) + x3)).toNatClampNeg) = (nI 1) → (vp_in x1 4 ∧ ((¬ x3 = (hA h 76 (x1).toNatClampNeg) → LX12_leastStuck_4 l E (d + 1) bc bs x1 x2 (x3 + (nI 1)) h Q) ∧ (x3 = (hA h 76 (x1).toNatClampNeg) → LX12_leastStuck_4 l E (d + 1) bc bs x1 (x2 ||| ((nI 1) <<< (x3 &&& 31))) (x3 + (nI 1)) h Q))))))))) : LX12_leastStuck_4 l E (d + 1) bc bs x1 x2 x3 h Q := by
  refine z_iload_n (pc := 4) dX12_leastStuck_4 rfl rfl ?_
  refine z_aload_n (pc := 5) dX12_leastStuck_5 rfl rfl ?_
  refine z_geti (pc := 6) dX12_leastStuck_6 fX12_123 rfl ?_
  refine z_icmp_ge (pc := 9) (tgt := 49) dX12_leastStuck_9 (by decide) (fun c1 => ?_) (fun c1 => ?_)
  · replace H := H.1 c1
    refine z_aload_n (pc := 49) dX12_leastStuck_49 rfl rfl ?_
    refine z_iload_n (pc := 50) dX12_leastStuck_50 rfl rfl ?_
    refine z_iload_n (pc := 51) dX12_leastStuck_51 rfl rfl ?_
    refine y_VI (pc := 52) (bc := bc) (bs := bs) (mc := 0) (ms := 0) (As := [.inl x1, .inl x2]) (rest := []) dX12_leastStuck_52 kX12_goesFor lX12_248 ⟨_, _, rfl⟩ rfl rfl (H.use (fun v2 h2 H => ?_))
    have S2 := H.1
    replace H := H.2
    refine z_if_eq (pc := 55) (tgt := 60) dX12_leastStuck_55 (by decide) (fun c3 => ?_) (fun c3 => ?_)
    · replace H := H.1 c3
      refine z_iload_n (pc := 60) dX12_leastStuck_60 rfl rfl ?_
      refine z_istore_n (pc := 61) (ls' := [some (.inr (some (0, 12, 63))), some (.inl x1), some (.inl x2), some (.inl x2), none]) dX12_leastStuck_61 rfl rfl rfl ?_
      refine z_iconst (pc := 62) (v := (nI 0)) dX12_leastStuck_62 (by decide) ?_
      refine z_istore (pc := 63) (ls' := [some (.inr (some (0, 12, 63))), some (.inl x1), some (.inl x2), some (.inl x2), some (.inl (nI 0))]) dX12_leastStuck_63 rfl rfl ?_
      exact H
    · replace H := H.2 c3
      refine z_iconst (pc := 58) (v := (nI 0)) dX12_leastStuck_58 (by decide) ?_
      exact z_iret (pc := 59) dX12_leastStuck_59 rfl rfl ⟨_, rfl, H⟩
  · replace H := H.2 c1
    refine z_aload_n (pc := 12) dX12_leastStuck_12 rfl rfl ?_
    refine z_getk (pc := 13) dX12_leastStuck_13 fX12_60 rfl (s_63_20 S) ?_
    refine z_bipush (pc := 16) (v := (nI 12)) dX12_leastStuck_16 (by decide) ?_
    refine z_iload_n (pc := 18) dX12_leastStuck_18 rfl rfl ?_
    refine z_imul (pc := 19) dX12_leastStuck_19 ?_
    refine z_iload_n (pc := 20) dX12_leastStuck_20 rfl rfl ?_
    refine z_iadd (pc := 21) dX12_leastStuck_21 ?_
    have c4 := H.1
    replace H := H.2
    refine z_iald (pc := 22) dX12_leastStuck_22 c4 ?_
    refine z_iconst (pc := 23) (v := (nI 1)) dX12_leastStuck_23 (by decide) ?_
    refine z_icmp_eq (pc := 24) (tgt := 37) dX12_leastStuck_24 (by decide) (fun c5 => ?_) (fun c5 => ?_)
    · replace H := H.1 c5
      refine z_iload_n (pc := 37) dX12_leastStuck_37 rfl rfl ?_
      refine z_iconst (pc := 38) (v := (nI 1)) dX12_leastStuck_38 (by decide) ?_
      refine z_iload_n (pc := 39) dX12_leastStuck_39 rfl rfl ?_
      refine z_ishl (pc := 40) dX12_leastStuck_40 ?_
      refine z_ior (pc := 41) dX12_leastStuck_41 ?_
      refine z_istore_n (pc := 42) (ls' := [some (.inr (some (0, 12, 63))), some (.inl x1), some (.inl (x2 ||| ((nI 1) <<< (x3 &&& 31)))), some (.inl x3), none]) dX12_leastStuck_42 rfl rfl rfl ?_
      refine z_iinc (pc := 43) (v := (x3 + (nI 1))) (ls' := [some (.inr (some (0, 12, 63))), some (.inl x1), some (.inl (x2 ||| ((nI 1) <<< (x3 &&& 31)))), some (.inl (x3 + (nI 1))), none]) dX12_leastStuck_43 rfl (by rw [show Int32.ofInt (1) = (nI 1) by decide]) rfl ?_
      refine z_goto (pc := 46) (tgt := 4) dX12_leastStuck_46 (by decide) ?_
      exact H
    · replace H := H.2 c5
      refine z_iload_n (pc := 27) dX12_leastStuck_27 rfl rfl ?_
      refine z_aload_n (pc := 28) dX12_leastStuck_28 rfl rfl ?_
      refine z_getk (pc := 29) dX12_leastStuck_29 fX12_51 rfl (s_63_17 S) ?_
      refine z_iload_n (pc := 32) dX12_leastStuck_32 rfl rfl ?_
      have c6 := H.1
      replace H := H.2
      refine z_iald (pc := 33) dX12_leastStuck_33 c6 ?_
      refine z_icmp_ne (pc := 34) (tgt := 43) dX12_leastStuck_34 (by decide) (fun c7 => ?_) (fun c7 => ?_)
      · replace H := H.1 c7
        refine z_iinc (pc := 43) (v := (x3 + (nI 1))) (ls' := [some (.inr (some (0, 12, 63))), some (.inl x1), some (.inl x2), some (.inl (x3 + (nI 1))), none]) dX12_leastStuck_43 rfl (by rw [show Int32.ofInt (1) = (nI 1) by decide]) rfl ?_
        refine z_goto (pc := 46) (tgt := 4) dX12_leastStuck_46 (by decide) ?_
        exact H
      · replace H := H.2 c7
        refine z_iload_n (pc := 37) dX12_leastStuck_37 rfl rfl ?_
        refine z_iconst (pc := 38) (v := (nI 1)) dX12_leastStuck_38 (by decide) ?_
        refine z_iload_n (pc := 39) dX12_leastStuck_39 rfl rfl ?_
        refine z_ishl (pc := 40) dX12_leastStuck_40 ?_
        refine z_ior (pc := 41) dX12_leastStuck_41 ?_
        refine z_istore_n (pc := 42) (ls' := [some (.inr (some (0, 12, 63))), some (.inl x1), some (.inl (x2 ||| ((nI 1) <<< (x3 &&& 31)))), some (.inl x3), none]) dX12_leastStuck_42 rfl rfl rfl ?_
        refine z_iinc (pc := 43) (v := (x3 + (nI 1))) (ls' := [some (.inr (some (0, 12, 63))), some (.inl x1), some (.inl (x2 ||| ((nI 1) <<< (x3 &&& 31)))), some (.inl (x3 + (nI 1))), none]) dX12_leastStuck_43 rfl (by rw [show Int32.ofInt (1) = (nI 1) by decide]) rfl ?_
        refine z_goto (pc := 46) (tgt := 4) dX12_leastStuck_46 (by decide) ?_
        exact H

set_option maxRecDepth 20000 in
theorem bX12_leastStuck_65 {l : Launch} {E : eE} {d bc bs : Nat} {h : aH} {Q : Int32 → aH → Prop} {x1 : Int32} {x2 : Int32} {x3 : Int32} {x4 : Int32} (S : SH h) (H : (((nI 4096) ≤ x4 → Q x3 h) ∧ (¬ (nI 4096) ≤ x4 → ((¬ (x4 &&& (x2 ^^^ (-1))) = 0 → LX12_leastStuck_65 l E (d + 1) bc bs x1 x2 x3 (x4 + (nI 1)) h Q) ∧ ((x4 &&& (x2 ^^^ (-1))) = 0 → (CI l E d 0 0 mX12_goesFor [.inr (some (0, 12, 63)), .inl x1, .inl x4] h (fun v3 h3 => SH h3 ∧ ((v3 = 0 → (CI l E d 0 0 mX12_isAhead [.inl x4, .inl x3] h3 (fun v5 h5 => SH h5 ∧ ((v5 = 0 → LX12_leastStuck_65 l E (d + 1) bc bs x1 x2 x3 (x4 + (nI 1)) h5 Q) ∧ (¬ v5 = 0 → LX12_leastStuck_65 l E (d + 1) bc bs x1 x2 x4 (x4 + (nI 1)) h5 Q))))) ∧ (¬ v3 = 0 → LX12_leastStuck_65 l E (d + 1) bc bs x1 x2 x3 (x4 + (nI 1)) h3 Q))))))))) : LX12_leastStuck_65 l E (d + 1) bc bs x1 x2 x3 x4 h Q := by
  refine z_iload (pc := 65) dX12_leastStuck_65 rfl ?_
  refine z_sipush (pc := 67) (v := (nI 4096)) dX12_leastStuck_67 (by decide) ?_
  refine z_icmp_ge (pc := 70) (tgt := 113) dX12_leastStuck_70 (by decide) (fun c1 => ?_) (fun c1 => ?_)
  · replace H := H.1 c1
    refine z_iload_n (pc := 113) dX12_leastStuck_113 rfl rfl ?_
    exact z_iret (pc := 114) dX12_leastStuck_114 rfl rfl ⟨_, rfl, H⟩
  · replace H := H.2 c1
    refine z_iload (pc := 73) dX12_leastStuck_73 rfl ?_
    refine z_iload_n (pc := 75) dX12_leastStuck_75 rfl rfl ?_
    refine z_iconst (pc := 76) (v := (-1)) dX12_leastStuck_76 (by decide) ?_
    refine z_ixor (pc := 77) dX12_leastStuck_77 ?_
    refine z_iand (pc := 78) dX12_leastStuck_78 ?_
    refine z_if_ne (pc := 79) (tgt := 107) dX12_leastStuck_79 (by decide) (fun c2 => ?_) (fun c2 => ?_)
    · replace H := H.1 c2
      refine z_iinc (pc := 107) (v := (x4 + (nI 1))) (ls' := [some (.inr (some (0, 12, 63))), some (.inl x1), some (.inl x2), some (.inl x3), some (.inl (x4 + (nI 1)))]) dX12_leastStuck_107 rfl (by rw [show Int32.ofInt (1) = (nI 1) by decide]) rfl ?_
      refine z_goto (pc := 110) (tgt := 65) dX12_leastStuck_110 (by decide) ?_
      exact H
    · replace H := H.2 c2
      refine z_aload_n (pc := 82) dX12_leastStuck_82 rfl rfl ?_
      refine z_iload_n (pc := 83) dX12_leastStuck_83 rfl rfl ?_
      refine z_iload (pc := 84) dX12_leastStuck_84 rfl ?_
      refine y_VI (pc := 86) (bc := bc) (bs := bs) (mc := 0) (ms := 0) (As := [.inl x1, .inl x4]) (rest := []) dX12_leastStuck_86 kX12_goesFor lX12_248 ⟨_, _, rfl⟩ rfl rfl (H.use (fun v3 h3 H => ?_))
      have S3 := H.1
      replace H := H.2
      refine z_if_eq (pc := 89) (tgt := 95) dX12_leastStuck_89 (by decide) (fun c4 => ?_) (fun c4 => ?_)
      · replace H := H.1 c4
        refine z_iload (pc := 95) dX12_leastStuck_95 rfl ?_
        refine z_iload_n (pc := 97) dX12_leastStuck_97 rfl rfl ?_
        refine y_SI (pc := 98) (bc := bc) (bs := bs) (mc := 0) (ms := 0) (As := [.inl x4, .inl x3]) (rest := []) dX12_leastStuck_98 kX12_isAhead lX12_251 rfl rfl (H.use (fun v5 h5 H => ?_))
        have S5 := H.1
        replace H := H.2
        refine z_if_eq (pc := 101) (tgt := 107) dX12_leastStuck_101 (by decide) (fun c6 => ?_) (fun c6 => ?_)
        · replace H := H.1 c6
          refine z_iinc (pc := 107) (v := (x4 + (nI 1))) (ls' := [some (.inr (some (0, 12, 63))), some (.inl x1), some (.inl x2), some (.inl x3), some (.inl (x4 + (nI 1)))]) dX12_leastStuck_107 rfl (by rw [show Int32.ofInt (1) = (nI 1) by decide]) rfl ?_
          refine z_goto (pc := 110) (tgt := 65) dX12_leastStuck_110 (by decide) ?_
          exact H
        · replace H := H.2 c6
          refine z_iload (pc := 104) dX12_leastStuck_104 rfl ?_
          refine z_istore_n (pc := 106) (ls' := [some (.inr (some (0, 12, 63))), some (.inl x1), some (.inl x2), some (.inl x4), some (.inl x4)]) dX12_leastStuck_106 rfl rfl rfl ?_
          refine z_iinc (pc := 107) (v := (x4 + (nI 1))) (ls' := [some (.inr (some (0, 12, 63))), some (.inl x1), some (.inl x2), some (.inl x4), some (.inl (x4 + (nI 1)))]) dX12_leastStuck_107 rfl (by rw [show Int32.ofInt (1) = (nI 1) by decide]) rfl ?_
          refine z_goto (pc := 110) (tgt := 65) dX12_leastStuck_110 (by decide) ?_
          exact H
      · replace H := H.2 c4
        refine z_goto (pc := 92) (tgt := 107) dX12_leastStuck_92 (by decide) ?_
        refine z_iinc (pc := 107) (v := (x4 + (nI 1))) (ls' := [some (.inr (some (0, 12, 63))), some (.inl x1), some (.inl x2), some (.inl x3), some (.inl (x4 + (nI 1)))]) dX12_leastStuck_107 rfl (by rw [show Int32.ofInt (1) = (nI 1) by decide]) rfl ?_
        refine z_goto (pc := 110) (tgt := 65) dX12_leastStuck_110 (by decide) ?_
        exact H

abbrev LX12_plan_83 (l : Launch) (E : eE) (d bc bs : Nat) (x1 : Int32) (x2 : Int32) (x3 : Int32) (x4 : Int32) (x5 : Int32) (x6 : Int32) (x7 : Int32) (h : aH) (Q : Int32 → aH → Prop) : Prop := TI l E mX12_plan d bc bs 83 [some (.inr (some (0, 12, 63))), some (.inl x1), some (.inl x2), some (.inl x3), some (.inl x4), some (.inl x5), some (.inl x6), some (.inl x7), none, none, none, none, none] [] h Q

abbrev LX12_plan_116 (l : Launch) (E : eE) (d bc bs : Nat) (x1 : Int32) (x2 : Int32) (x3 : Int32) (x4 : Int32) (x5 : Int32) (x6 : Int32) (x7 : Int32) (x8 : Int32) (x9 : Int32) (h : aH) (Q : Int32 → aH → Prop) : Prop := TI l E mX12_plan d bc bs 116 [some (.inr (some (0, 12, 63))), some (.inl x1), some (.inl x2), some (.inl x3), some (.inl x4), some (.inl x5), some (.inl x6), some (.inl x7), some (.inl x8), some (.inl x9), none, none, none] [] h Q

abbrev LX12_plan_204 (l : Launch) (E : eE) (d bc bs : Nat) (x1 : Int32) (x2 : Int32) (x3 : Int32) (x4 : Int32) (x5 : Int32) (x6 : Int32) (x7 : Int32) (x8 : Int32) (x9 : Int32) (x10 : Int32) (x11 : Int32) (x12 : Int32) (h : aH) (Q : Int32 → aH → Prop) : Prop := TI l E mX12_plan d bc bs 204 [some (.inr (some (0, 12, 63))), some (.inl x1), some (.inl x2), some (.inl x3), some (.inl x4), some (.inl x5), some (.inl x6), some (.inl x7), some (.inl x8), some (.inl x9), some (.inl x10), some (.inl x11), some (.inl x12)] [] h Q

abbrev LX12_plan_317 (l : Launch) (E : eE) (d bc bs : Nat) (x1 : Int32) (x2 : Int32) (x3 : Int32) (x4 : Int32) (x5 : Int32) (x6 : Int32) (x7 : Int32) (x8 : Int32) (h : aH) (Q : Int32 → aH → Prop) : Prop := TI l E mX12_plan d bc bs 317 [some (.inr (some (0, 12, 63))), some (.inl x1), some (.inl x2), some (.inl x3), some (.inl x4), some (.inl x5), some (.inl x6), some (.inl x7), some (.inl x8), none, none, none, none] [] h Q

abbrev LX12_plan_341 (l : Launch) (E : eE) (d bc bs : Nat) (x1 : Int32) (x2 : Int32) (x3 : Int32) (x4 : Int32) (x5 : Int32) (x6 : Int32) (x7 : Int32) (x8 : Int32) (h : aH) (Q : Int32 → aH → Prop) : Prop := TI l E mX12_plan d bc bs 341 [some (.inr (some (0, 12, 63))), some (.inl x1), some (.inl x2), some (.inl x3), some (.inl x4), some (.inl x5), some (.inl x6), some (.inl x7), some (.inl x8), none, none, none, none] [] h Q

abbrev LX12_plan_352 (l : Launch) (E : eE) (d bc bs : Nat) (x1 : Int32) (x2 : Int32) (x3 : Int32) (x4 : Int32) (x5 : Int32) (x6 : Int32) (x7 : Int32) (x8 : Int32) (x9 : Int32) (x10 : Int32) (h : aH) (Q : Int32 → aH → Prop) : Prop := TI l E mX12_plan d bc bs 352 [some (.inr (some (0, 12, 63))), some (.inl x1), some (.inl x2), some (.inl x3), some (.inl x4), some (.inl x5), some (.inl x6), some (.inl x7), some (.inl x8), some (.inl x9), some (.inl x10), none, none] [] h Q

abbrev LX12_plan_406 (l : Launch) (E : eE) (d bc bs : Nat) (x1 : Int32) (x2 : Int32) (x3 : Int32) (x4 : Int32) (x5 : Int32) (x6 : Int32) (x7 : Int32) (x8 : Int32) (x9 : Int32) (x10 : Int32) (h : aH) (Q : Int32 → aH → Prop) : Prop := TI l E mX12_plan d bc bs 406 [some (.inr (some (0, 12, 63))), some (.inl x1), some (.inl x2), some (.inl x3), some (.inl x4), some (.inl x5), some (.inl x6), some (.inl x7), some (.inl x8), some (.inl x9), some (.inl x10), none, none] [] h Q

abbrev LX12_plan_426 (l : Launch) (E : eE) (d bc bs : Nat) (x1 : Int32) (x2 : Int32) (x3 : Int32) (x4 : Int32) (x5 : Int32) (x6 : Int32) (x7 : Int32) (x8 : Int32) (x9 : Int32) (x10 : Int32) (x11 : Int32) (h : aH) (Q : Int32 → aH → Prop) : Prop := TI l E mX12_plan d bc bs 426 [some (.inr (some (0, 12, 63))), some (.inl x1), some (.inl x2), some (.inl x3), some (.inl x4), some (.inl x5), some (.inl x6), some (.inl x7), some (.inl x8), some (.inl x9), some (.inl x10), some (.inl x11), none] [] h Q

abbrev LX12_plan_505 (l : Launch) (E : eE) (d bc bs : Nat) (x1 : Int32) (x2 : Int32) (x3 : Int32) (x4 : Int32) (x5 : Int32) (x6 : Int32) (x7 : Int32) (x8 : Int32) (x9 : Int32) (x10 : Int32) (h : aH) (Q : Int32 → aH → Prop) : Prop := TI l E mX12_plan d bc bs 505 [some (.inr (some (0, 12, 63))), some (.inl x1), some (.inl x2), some (.inl x3), some (.inl x4), some (.inl x5), some (.inl x6), some (.inl x7), some (.inl x8), some (.inl x9), some (.inl x10), none, none] [] h Q

abbrev LX12_plan_538 (l : Launch) (E : eE) (d bc bs : Nat) (x1 : Int32) (x2 : Int32) (x3 : Int32) (x4 : Int32) (x5 : Int32) (x6 : Int32) (x7 : Int32) (x8 : Int32) (x9 : Int32) (x10 : Int32) (h : aH) (Q : Int32 → aH → Prop) : Prop := TI l E mX12_plan d bc bs 538 [some (.inr (some (0, 12, 63))), some (.inl x1), some (.inl x2), some (.inl x3), some (.inl x4), some (.inl x5), some (.inl x6), some (.inl x7), some (.inl x8), some (.inl x9), some (.inl x10), none, none] [] h Q

abbrev LX12_plan_571 (l : Launch) (E : eE) (d bc bs : Nat) (x1 : Int32) (x2 : Int32) (x3 : Int32) (x4 : Int32) (x5 : Int32) (x6 : Int32) (x7 : Int32) (x8 : Int32) (x9 : Int32) (x10 : Int32) (h : aH) (Q : Int32 → aH → Prop) : Prop := TI l E mX12_plan d bc bs 571 [some (.inr (some (0, 12, 63))), some (.inl x1), some (.inl x2), some (.inl x3), some (.inl x4), some (.inl x5), some (.inl x6), some (.inl x7), some (.inl x8), some (.inl x9), some (.inl x10), none, none] [] h Q

abbrev LX12_plan_605 (l : Launch) (E : eE) (d bc bs : Nat) (x1 : Int32) (x2 : Int32) (x3 : Int32) (x4 : Int32) (x5 : Int32) (x6 : Int32) (x7 : Int32) (x8 : Int32) (x9 : Int32) (h : aH) (Q : Int32 → aH → Prop) : Prop := TI l E mX12_plan d bc bs 605 [some (.inr (some (0, 12, 63))), some (.inl x1), some (.inl x2), some (.inl x3), some (.inl x4), some (.inl x5), some (.inl x6), some (.inl x7), some (.inl x8), some (.inl x9), none, none, none] [] h Q

set_option maxRecDepth 20000 in
theorem bX12_plan_0 {l : Launch} {E : eE} {d bc bs : Nat} {h : aH} {Q : Int32 → aH → Prop} {x1 : Int32} {x2 : Int32} {x3 : Int32} {x4 : Int32} (S : SH h) (H : ((¬ (inI x1 (hI h 63 14)) → Q (-2) h) ∧ ((inI x1 (hI h 63 14)) → ((¬ (0 ≤ (x4).toInt ∧ (x4).toInt ≤ (hI h 63 8).toInt) → Q (-2) h) ∧ ((0 ≤ (x4).toInt ∧ (x4).toInt ≤ (hI h 63 8).toInt) → ((x2 < 0 → Q (-2) h) ∧ (¬ x2 < 0 → ((x3 ≤ x2 → Q (-2) h) ∧ (¬ x3 ≤ x2 → (((nI 52) < x3 → Q (-2) h) ∧ (¬ (nI 52) < x3 → (vp_in x1 4 ∧ ((¬ (hA h 76 (x1).toNatClampNeg) = (-1) → (((x3 - x2) ≤ (nI 4) → (CV l E d 0 0 mX12_lists [.inr (some (0, 12, 63)), .inl x1] h (fun h9 => SH h9 ∧ LX12_plan_83 l E (d + 1) bc bs x1 x2 x3 x4 (hA h9 87 (x1).toNatClampNeg) (x3 - x2) (nI 0) (stI h9 63 38 (nI 0)) Q))) ∧ (¬ (x3 - x2) ≤ (nI 4) → Q (-2) h))) ∧ ((hA h 76 (x1).toNatClampNeg) = (-1) → (((x3 - x2) ≤ (nI 6) → (CV l E d 0 0 mX12_lists [.inr (some (0, 12, 63)), .inl x1] h (fun h11 => SH h11 ∧ LX12_plan_83 l E (d + 1) bc bs x1 x2 x3 x4 (hA h11 87 (x1).toNatClampNeg) (x3 - x2) (nI 0) (stI h11 63 38 (nI 0)) Q))) ∧ (¬ (x3 - x2) ≤ (nI 6) → Q (-2) h)))))))))))))))) : CI l E (d + 1) bc bs mX12_plan [.inr (some (0, 12, 63)), .inl x1, .inl x2, .inl x3, .inl x4] h Q := by
  refine CI.of (by decide) rfl ?_
  show TI l E mX12_plan (d + 1) bc bs 0 [some (.inr (some (0, 12, 63))), some (.inl x1), some (.inl x2), some (.inl x3), some (.inl x4), none, none, none, none, none, none, none, none] [] h Q
  refine z_aload_n (pc := 0) dX12_plan_0 rfl rfl ?_
  refine z_iload_n (pc := 1) dX12_plan_1 rfl rfl ?_
  refine y_VI (pc := 2) (bc := bc) (bs := bs) (mc := 0) (ms := 0) (As := [.inl x1]) (rest := []) dX12_plan_2 kX12_isSeries lX12_146 ⟨_, _, rfl⟩ rfl rfl (c_isSeries S ?_)
  refine z_if_eq (pc := 5) (tgt := 54) dX12_plan_5 (by decide) (fun c1 => ?_) (fun c1 => ?_)
  · replace H := H.1 (bI0.mp c1)
    refine z_bipush (pc := 54) (v := (-2)) dX12_plan_54 (by decide) ?_
    exact z_iret (pc := 56) dX12_plan_56 rfl rfl ⟨_, rfl, H⟩
  · replace H := H.2 (bI1.mp c1)
    refine z_aload_n (pc := 8) dX12_plan_8 rfl rfl ?_
    refine z_iload (pc := 9) dX12_plan_9 rfl ?_
    refine y_VI (pc := 11) (bc := bc) (bs := bs) (mc := 0) (ms := 0) (As := [.inl x4]) (rest := []) dX12_plan_11 kX12_isKnown lX12_152 ⟨_, _, rfl⟩ rfl rfl (c_isKnown S ?_)
    refine z_if_eq (pc := 14) (tgt := 54) dX12_plan_14 (by decide) (fun c2 => ?_) (fun c2 => ?_)
    · replace H := H.1 (bI0.mp c2)
      refine z_bipush (pc := 54) (v := (-2)) dX12_plan_54 (by decide) ?_
      exact z_iret (pc := 56) dX12_plan_56 rfl rfl ⟨_, rfl, H⟩
    · replace H := H.2 (bI1.mp c2)
      refine z_iload_n (pc := 17) dX12_plan_17 rfl rfl ?_
      refine z_if_lt (pc := 18) (tgt := 54) dX12_plan_18 (by decide) (fun c3 => ?_) (fun c3 => ?_)
      · replace H := H.1 c3
        refine z_bipush (pc := 54) (v := (-2)) dX12_plan_54 (by decide) ?_
        exact z_iret (pc := 56) dX12_plan_56 rfl rfl ⟨_, rfl, H⟩
      · replace H := H.2 c3
        refine z_iload_n (pc := 21) dX12_plan_21 rfl rfl ?_
        refine z_iload_n (pc := 22) dX12_plan_22 rfl rfl ?_
        refine z_icmp_ge (pc := 23) (tgt := 54) dX12_plan_23 (by decide) (fun c4 => ?_) (fun c4 => ?_)
        · replace H := H.1 c4
          refine z_bipush (pc := 54) (v := (-2)) dX12_plan_54 (by decide) ?_
          exact z_iret (pc := 56) dX12_plan_56 rfl rfl ⟨_, rfl, H⟩
        · replace H := H.2 c4
          refine z_iload_n (pc := 26) dX12_plan_26 rfl rfl ?_
          refine z_bipush (pc := 27) (v := (nI 52)) dX12_plan_27 (by decide) ?_
          refine z_icmp_gt (pc := 29) (tgt := 54) dX12_plan_29 (by decide) (fun c5 => ?_) (fun c5 => ?_)
          · replace H := H.1 c5
            refine z_bipush (pc := 54) (v := (-2)) dX12_plan_54 (by decide) ?_
            exact z_iret (pc := 56) dX12_plan_56 rfl rfl ⟨_, rfl, H⟩
          · replace H := H.2 c5
            refine z_iload_n (pc := 32) dX12_plan_32 rfl rfl ?_
            refine z_iload_n (pc := 33) dX12_plan_33 rfl rfl ?_
            refine z_isub (pc := 34) dX12_plan_34 ?_
            refine z_aload_n (pc := 35) dX12_plan_35 rfl rfl ?_
            refine z_getk (pc := 36) dX12_plan_36 fX12_51 rfl (s_63_17 S) ?_
            refine z_iload_n (pc := 39) dX12_plan_39 rfl rfl ?_
            have c6 := H.1
            replace H := H.2
            refine z_iald (pc := 40) dX12_plan_40 c6 ?_
            refine z_iconst (pc := 41) (v := (-1)) dX12_plan_41 (by decide) ?_
            refine z_icmp_ne (pc := 42) (tgt := 50) dX12_plan_42 (by decide) (fun c7 => ?_) (fun c7 => ?_)
            · replace H := H.1 c7
              refine z_iconst (pc := 50) (v := (nI 4)) dX12_plan_50 (by decide) ?_
              refine z_icmp_le (pc := 51) (tgt := 57) dX12_plan_51 (by decide) (fun c8 => ?_) (fun c8 => ?_)
              · replace H := H.1 c8
                refine z_aload_n (pc := 57) dX12_plan_57 rfl rfl ?_
                refine z_iload_n (pc := 58) dX12_plan_58 rfl rfl ?_
                refine y_VV (pc := 59) (bc := bc) (bs := bs) (mc := 0) (ms := 0) (As := [.inl x1]) (rest := []) dX12_plan_59 kX12_lists lX12_224 ⟨_, _, rfl⟩ rfl rfl (H.use (fun h9 H => ?_))
                have S9 := H.1
                replace H := H.2
                refine z_aload_n (pc := 62) dX12_plan_62 rfl rfl ?_
                refine z_iconst (pc := 63) (v := (nI 0)) dX12_plan_63 (by decide) ?_
                refine z_puti (pc := 64) dX12_plan_64 fX12_227 (uX12_38 _) rfl rfl rfl ?_
                refine z_aload_n (pc := 67) dX12_plan_67 rfl rfl ?_
                refine z_getk (pc := 68) dX12_plan_68 fX12_84 rfl (s_63_30 S9) ?_
                refine z_iload_n (pc := 71) dX12_plan_71 rfl rfl ?_
                refine z_iald (pc := 72) dX12_plan_72 c6 ?_
                refine z_istore (pc := 73) (ls' := [some (.inr (some (0, 12, 63))), some (.inl x1), some (.inl x2), some (.inl x3), some (.inl x4), some (.inl (hA h9 87 (x1).toNatClampNeg)), none, none, none, none, none, none, none]) dX12_plan_73 rfl rfl ?_
                refine z_iload_n (pc := 75) dX12_plan_75 rfl rfl ?_
                refine z_iload_n (pc := 76) dX12_plan_76 rfl rfl ?_
                refine z_isub (pc := 77) dX12_plan_77 ?_
                refine z_istore (pc := 78) (ls' := [some (.inr (some (0, 12, 63))), some (.inl x1), some (.inl x2), some (.inl x3), some (.inl x4), some (.inl (hA h9 87 (x1).toNatClampNeg)), some (.inl (x3 - x2)), none, none, none, none, none, none]) dX12_plan_78 rfl rfl ?_
                refine z_iconst (pc := 80) (v := (nI 0)) dX12_plan_80 (by decide) ?_
                refine z_istore (pc := 81) (ls' := [some (.inr (some (0, 12, 63))), some (.inl x1), some (.inl x2), some (.inl x3), some (.inl x4), some (.inl (hA h9 87 (x1).toNatClampNeg)), some (.inl (x3 - x2)), some (.inl (nI 0)), none, none, none, none, none]) dX12_plan_81 rfl rfl ?_
                exact H
              · replace H := H.2 c8
                refine z_bipush (pc := 54) (v := (-2)) dX12_plan_54 (by decide) ?_
                exact z_iret (pc := 56) dX12_plan_56 rfl rfl ⟨_, rfl, H⟩
            · replace H := H.2 c7
              refine z_bipush (pc := 45) (v := (nI 6)) dX12_plan_45 (by decide) ?_
              refine z_goto (pc := 47) (tgt := 51) dX12_plan_47 (by decide) ?_
              refine z_icmp_le (pc := 51) (tgt := 57) dX12_plan_51 (by decide) (fun c10 => ?_) (fun c10 => ?_)
              · replace H := H.1 c10
                refine z_aload_n (pc := 57) dX12_plan_57 rfl rfl ?_
                refine z_iload_n (pc := 58) dX12_plan_58 rfl rfl ?_
                refine y_VV (pc := 59) (bc := bc) (bs := bs) (mc := 0) (ms := 0) (As := [.inl x1]) (rest := []) dX12_plan_59 kX12_lists lX12_224 ⟨_, _, rfl⟩ rfl rfl (H.use (fun h11 H => ?_))
                have S11 := H.1
                replace H := H.2
                refine z_aload_n (pc := 62) dX12_plan_62 rfl rfl ?_
                refine z_iconst (pc := 63) (v := (nI 0)) dX12_plan_63 (by decide) ?_
                refine z_puti (pc := 64) dX12_plan_64 fX12_227 (uX12_38 _) rfl rfl rfl ?_
                refine z_aload_n (pc := 67) dX12_plan_67 rfl rfl ?_
                refine z_getk (pc := 68) dX12_plan_68 fX12_84 rfl (s_63_30 S11) ?_
                refine z_iload_n (pc := 71) dX12_plan_71 rfl rfl ?_
                refine z_iald (pc := 72) dX12_plan_72 c6 ?_
                refine z_istore (pc := 73) (ls' := [some (.inr (some (0, 12, 63))), some (.inl x1), some (.inl x2), some (.inl x3), some (.inl x4), some (.inl (hA h11 87 (x1).toNatClampNeg)), none, none, none, none, none, none, none]) dX12_plan_73 rfl rfl ?_
                refine z_iload_n (pc := 75) dX12_plan_75 rfl rfl ?_
                refine z_iload_n (pc := 76) dX12_plan_76 rfl rfl ?_
                refine z_isub (pc := 77) dX12_plan_77 ?_
                refine z_istore (pc := 78) (ls' := [some (.inr (some (0, 12, 63))), some (.inl x1), some (.inl x2), some (.inl x3), some (.inl x4), some (.inl (hA h11 87 (x1).toNatClampNeg)), some (.inl (x3 - x2)), none, none, none, none, none, none]) dX12_plan_78 rfl rfl ?_
                refine z_iconst (pc := 80) (v := (nI 0)) dX12_plan_80 (by decide) ?_
                refine z_istore (pc := 81) (ls' := [some (.inr (some (0, 12, 63))), some (.inl x1), some (.inl x2), some (.inl x3), some (.inl x4), some (.inl (hA h11 87 (x1).toNatClampNeg)), some (.inl (x3 - x2)), some (.inl (nI 0)), none, none, none, none, none]) dX12_plan_81 rfl rfl ?_
                exact H
              · replace H := H.2 c10
                refine z_bipush (pc := 54) (v := (-2)) dX12_plan_54 (by decide) ?_
                exact z_iret (pc := 56) dX12_plan_56 rfl rfl ⟨_, rfl, H⟩

set_option maxRecDepth 20000 in
theorem bX12_plan_83 {l : Launch} {E : eE} {d bc bs : Nat} {h : aH} {Q : Int32 → aH → Prop} {x1 : Int32} {x2 : Int32} {x3 : Int32} {x4 : Int32} {x5 : Int32} {x6 : Int32} {x7 : Int32} (S : SH h) (H : ((x6 ≤ x7 → LX12_plan_317 l E (d + 1) bc bs x1 x2 x3 x4 x5 x6 (nI 0) (nI 0) h Q) ∧ (¬ x6 ≤ x7 → (CV l E d 0 0 mX12_takesWeek [.inr (some (0, 12, 63)), .inl (x2 + x7), .inl x4] h (fun h2 => SH h2 ∧ (CV l E d 0 0 mX12_comeAll [.inr (some (0, 12, 63)), .inl x1] h2 (fun h3 => SH h3 ∧ (CV l E d 0 0 mX12_asksFree [.inr (some (0, 12, 63)), .inl x1] h3 (fun h4 => SH h4 ∧ LX12_plan_116 l E (d + 1) bc bs x1 x2 x3 x4 x5 x6 x7 (nI 0) (nI 0) h4 Q))))))))) : LX12_plan_83 l E (d + 1) bc bs x1 x2 x3 x4 x5 x6 x7 h Q := by
  refine z_iload (pc := 83) dX12_plan_83 rfl ?_
  refine z_iload (pc := 85) dX12_plan_85 rfl ?_
  refine z_icmp_ge (pc := 87) (tgt := 311) dX12_plan_87 (by decide) (fun c1 => ?_) (fun c1 => ?_)
  · replace H := H.1 c1
    refine z_iconst (pc := 311) (v := (nI 0)) dX12_plan_311 (by decide) ?_
    refine z_istore (pc := 312) (ls' := [some (.inr (some (0, 12, 63))), some (.inl x1), some (.inl x2), some (.inl x3), some (.inl x4), some (.inl x5), some (.inl x6), some (.inl (nI 0)), none, none, none, none, none]) dX12_plan_312 rfl rfl ?_
    refine z_iconst (pc := 314) (v := (nI 0)) dX12_plan_314 (by decide) ?_
    refine z_istore (pc := 315) (ls' := [some (.inr (some (0, 12, 63))), some (.inl x1), some (.inl x2), some (.inl x3), some (.inl x4), some (.inl x5), some (.inl x6), some (.inl (nI 0)), some (.inl (nI 0)), none, none, none, none]) dX12_plan_315 rfl rfl ?_
    exact H
  · replace H := H.2 c1
    refine z_aload_n (pc := 90) dX12_plan_90 rfl rfl ?_
    refine z_iload_n (pc := 91) dX12_plan_91 rfl rfl ?_
    refine z_iload (pc := 92) dX12_plan_92 rfl ?_
    refine z_iadd (pc := 94) dX12_plan_94 ?_
    refine z_iload (pc := 95) dX12_plan_95 rfl ?_
    refine y_VV (pc := 97) (bc := bc) (bs := bs) (mc := 0) (ms := 0) (As := [.inl (x2 + x7), .inl x4]) (rest := []) dX12_plan_97 kX12_takesWeek lX12_214 ⟨_, _, rfl⟩ rfl rfl (H.use (fun h2 H => ?_))
    have S2 := H.1
    replace H := H.2
    refine z_aload_n (pc := 100) dX12_plan_100 rfl rfl ?_
    refine z_iload_n (pc := 101) dX12_plan_101 rfl rfl ?_
    refine y_VV (pc := 102) (bc := bc) (bs := bs) (mc := 0) (ms := 0) (As := [.inl x1]) (rest := []) dX12_plan_102 kX12_comeAll lX12_218 ⟨_, _, rfl⟩ rfl rfl (H.use (fun h3 H => ?_))
    have S3 := H.1
    replace H := H.2
    refine z_aload_n (pc := 105) dX12_plan_105 rfl rfl ?_
    refine z_iload_n (pc := 106) dX12_plan_106 rfl rfl ?_
    refine y_VV (pc := 107) (bc := bc) (bs := bs) (mc := 0) (ms := 0) (As := [.inl x1]) (rest := []) dX12_plan_107 kX12_asksFree lX12_201 ⟨_, _, rfl⟩ rfl rfl (H.use (fun h4 H => ?_))
    have S4 := H.1
    replace H := H.2
    refine z_iconst (pc := 110) (v := (nI 0)) dX12_plan_110 (by decide) ?_
    refine z_istore (pc := 111) (ls' := [some (.inr (some (0, 12, 63))), some (.inl x1), some (.inl x2), some (.inl x3), some (.inl x4), some (.inl x5), some (.inl x6), some (.inl x7), some (.inl (nI 0)), none, none, none, none]) dX12_plan_111 rfl rfl ?_
    refine z_iconst (pc := 113) (v := (nI 0)) dX12_plan_113 (by decide) ?_
    refine z_istore (pc := 114) (ls' := [some (.inr (some (0, 12, 63))), some (.inl x1), some (.inl x2), some (.inl x3), some (.inl x4), some (.inl x5), some (.inl x6), some (.inl x7), some (.inl (nI 0)), some (.inl (nI 0)), none, none, none]) dX12_plan_114 rfl rfl ?_
    exact H

set_option maxRecDepth 20000 in
theorem bX12_plan_116 {l : Launch} {E : eE} {d bc bs : Nat} {h : aH} {Q : Int32 → aH → Prop} {x1 : Int32} {x2 : Int32} {x3 : Int32} {x4 : Int32} {x5 : Int32} {x6 : Int32} {x7 : Int32} {x8 : Int32} {x9 : Int32} (S : SH h) (H : ((x5 ≤ x9 → ((x8 = 0 → (CI l E d 0 0 mX12_leastStuck [.inr (some (0, 12, 63)), .inl x1] h (fun v3 h3 => SH h3 ∧ Q (-1) (stI h3 63 38 v3)))) ∧ (¬ x8 = 0 → LX12_plan_83 l E (d + 1) bc bs x1 x2 x3 x4 x5 x6 (x7 + (nI 1)) h Q))) ∧ (¬ x5 ≤ x9 → (vp_in (((nI 15) * x1) + x9) 60 ∧ (CI l E d 0 0 mX12_fitsBy [.inr (some (0, 12, 63)), .inl x1, .inl (hA h 85 ((((nI 15) * x1) + x9)).toNatClampNeg), .inl (hA h 86 ((((nI 15) * x1) + x9)).toNatClampNeg)] h (fun v5 h5 => SH h5 ∧ (vp_in (((nI 15) * x7) + x9) 90 ∧ ((¬ x8 = 0 → LX12_plan_204 l E (d + 1) bc bs x1 x2 x3 x4 x5 x6 x7 (nI 1) x9 (hA h 85 ((((nI 15) * x1) + x9)).toNatClampNeg) (hA h 86 ((((nI 15) * x1) + x9)).toNatClampNeg) (nI 0) (stA h5 91 ((((nI 15) * x7) + x9)).toNatClampNeg (vp_nar .boolean v5)) Q) ∧ (x8 = 0 → (((hA (stA h5 91 ((((nI 15) * x7) + x9)).toNatClampNeg (vp_nar .boolean v5)) 91 ((((nI 15) * x7) + x9)).toNatClampNeg) = 0 → LX12_plan_204 l E (d + 1) bc bs x1 x2 x3 x4 x5 x6 x7 (nI 0) x9 (hA h 85 ((((nI 15) * x1) + x9)).toNatClampNeg) (hA h 86 ((((nI 15) * x1) + x9)).toNatClampNeg) (nI 0) (stA h5 91 ((((nI 15) * x7) + x9)).toNatClampNeg (vp_nar .boolean v5)) Q) ∧ (¬ (hA (stA h5 91 ((((nI 15) * x7) + x9)).toNatClampNeg (vp_nar .boolean v5)) 91 ((((nI 15) * x7) + x9)).toNatClampNeg) = 0 → LX12_plan_204 l E (d + 1) bc bs x1 x2 x3 x4 x5 x6 x7 (nI 1) x9 (hA h 85 ((((nI 15) * x1) + x9)).toNatClampNeg) (hA h 86 ((((nI 15) * x1) + x9)).toNatClampNeg) (nI 0) (stA h5 91 ((((nI 15) * x7) + x9)).toNatClampNeg (vp_nar .boolean v5)) Q))))))))))) : LX12_plan_116 l E (d + 1) bc bs x1 x2 x3 x4 x5 x6 x7 x8 x9 h Q := by
  refine z_iload (pc := 116) dX12_plan_116 rfl ?_
  refine z_iload (pc := 118) dX12_plan_118 rfl ?_
  refine z_icmp_ge (pc := 120) (tgt := 286) dX12_plan_120 (by decide) (fun c1 => ?_) (fun c1 => ?_)
  · replace H := H.1 c1
    refine z_iload (pc := 286) dX12_plan_286 rfl ?_
    refine z_if_eq (pc := 288) (tgt := 294) dX12_plan_288 (by decide) (fun c2 => ?_) (fun c2 => ?_)
    · replace H := H.1 c2
      refine z_aload_n (pc := 294) dX12_plan_294 rfl rfl ?_
      refine z_aload_n (pc := 295) dX12_plan_295 rfl rfl ?_
      refine z_iload_n (pc := 296) dX12_plan_296 rfl rfl ?_
      refine y_VI (pc := 297) (bc := bc) (bs := bs) (mc := 0) (ms := 0) (As := [.inl x1]) (rest := [.inr (some (0, 12, 63))]) dX12_plan_297 kX12_leastStuck lX12_234 ⟨_, _, rfl⟩ rfl rfl (H.use (fun v3 h3 H => ?_))
      have S3 := H.1
      replace H := H.2
      refine z_puti (pc := 300) dX12_plan_300 fX12_227 (uX12_38 _) rfl rfl rfl ?_
      refine z_iconst (pc := 303) (v := (-1)) dX12_plan_303 (by decide) ?_
      exact z_iret (pc := 304) dX12_plan_304 rfl rfl ⟨_, rfl, H⟩
    · replace H := H.2 c2
      refine z_goto (pc := 291) (tgt := 305) dX12_plan_291 (by decide) ?_
      refine z_iinc (pc := 305) (v := (x7 + (nI 1))) (ls' := [some (.inr (some (0, 12, 63))), some (.inl x1), some (.inl x2), some (.inl x3), some (.inl x4), some (.inl x5), some (.inl x6), some (.inl (x7 + (nI 1))), some (.inl x8), some (.inl x9), none, none, none]) dX12_plan_305 rfl (by rw [show Int32.ofInt (1) = (nI 1) by decide]) rfl ?_
      refine z_goto (pc := 308) (tgt := 83) dX12_plan_308 (by decide) ?_
      exact z_drop (ls' := [some (.inr (some (0, 12, 63))), some (.inl x1), some (.inl x2), some (.inl x3), some (.inl x4), some (.inl x5), some (.inl x6), some (.inl (x7 + (nI 1))), none, none, none, none, none]) (by simp [dropL]) H
  · replace H := H.2 c1
    refine z_aload_n (pc := 123) dX12_plan_123 rfl rfl ?_
    refine z_getk (pc := 124) dX12_plan_124 fX12_78 rfl (s_63_28 S) ?_
    refine z_bipush (pc := 127) (v := (nI 15)) dX12_plan_127 (by decide) ?_
    refine z_iload_n (pc := 129) dX12_plan_129 rfl rfl ?_
    refine z_imul (pc := 130) dX12_plan_130 ?_
    refine z_iload (pc := 131) dX12_plan_131 rfl ?_
    refine z_iadd (pc := 133) dX12_plan_133 ?_
    have c4 := H.1
    replace H := H.2
    refine z_iald (pc := 134) dX12_plan_134 c4 ?_
    refine z_istore (pc := 135) (ls' := [some (.inr (some (0, 12, 63))), some (.inl x1), some (.inl x2), some (.inl x3), some (.inl x4), some (.inl x5), some (.inl x6), some (.inl x7), some (.inl x8), some (.inl x9), some (.inl (hA h 85 ((((nI 15) * x1) + x9)).toNatClampNeg)), none, none]) dX12_plan_135 rfl rfl ?_
    refine z_aload_n (pc := 137) dX12_plan_137 rfl rfl ?_
    refine z_getk (pc := 138) dX12_plan_138 fX12_81 rfl (s_63_29 S) ?_
    refine z_bipush (pc := 141) (v := (nI 15)) dX12_plan_141 (by decide) ?_
    refine z_iload_n (pc := 143) dX12_plan_143 rfl rfl ?_
    refine z_imul (pc := 144) dX12_plan_144 ?_
    refine z_iload (pc := 145) dX12_plan_145 rfl ?_
    refine z_iadd (pc := 147) dX12_plan_147 ?_
    refine z_iald (pc := 148) dX12_plan_148 c4 ?_
    refine z_istore (pc := 149) (ls' := [some (.inr (some (0, 12, 63))), some (.inl x1), some (.inl x2), some (.inl x3), some (.inl x4), some (.inl x5), some (.inl x6), some (.inl x7), some (.inl x8), some (.inl x9), some (.inl (hA h 85 ((((nI 15) * x1) + x9)).toNatClampNeg)), some (.inl (hA h 86 ((((nI 15) * x1) + x9)).toNatClampNeg)), none]) dX12_plan_149 rfl rfl ?_
    refine z_aload_n (pc := 151) dX12_plan_151 rfl rfl ?_
    refine z_getk (pc := 152) dX12_plan_152 fX12_96 rfl (s_63_34 S) ?_
    refine z_bipush (pc := 155) (v := (nI 15)) dX12_plan_155 (by decide) ?_
    refine z_iload (pc := 157) dX12_plan_157 rfl ?_
    refine z_imul (pc := 159) dX12_plan_159 ?_
    refine z_iload (pc := 160) dX12_plan_160 rfl ?_
    refine z_iadd (pc := 162) dX12_plan_162 ?_
    refine z_aload_n (pc := 163) dX12_plan_163 rfl rfl ?_
    refine z_iload_n (pc := 164) dX12_plan_164 rfl rfl ?_
    refine z_iload (pc := 165) dX12_plan_165 rfl ?_
    refine z_iload (pc := 167) dX12_plan_167 rfl ?_
    refine y_VI (pc := 169) (bc := bc) (bs := bs) (mc := 0) (ms := 0) (As := [.inl x1, .inl (hA h 85 ((((nI 15) * x1) + x9)).toNatClampNeg), .inl (hA h 86 ((((nI 15) * x1) + x9)).toNatClampNeg)]) (rest := [.inl (((nI 15) * x7) + x9), .inr (some (2, 90, 91))]) dX12_plan_169 kX12_fitsBy lX12_221 ⟨_, _, rfl⟩ rfl rfl (H.use (fun v5 h5 H => ?_))
    have S5 := H.1
    replace H := H.2
    have c6 := H.1
    replace H := H.2
    refine z_zast (pc := 172) dX12_plan_172 c6 ?_
    refine z_iload (pc := 173) dX12_plan_173 rfl ?_
    refine z_if_ne (pc := 175) (tgt := 194) dX12_plan_175 (by decide) (fun c7 => ?_) (fun c7 => ?_)
    · replace H := H.1 c7
      refine z_iconst (pc := 194) (v := (nI 1)) dX12_plan_194 (by decide) ?_
      refine z_goto (pc := 195) (tgt := 199) dX12_plan_195 (by decide) ?_
      refine z_istore (pc := 199) (ls' := [some (.inr (some (0, 12, 63))), some (.inl x1), some (.inl x2), some (.inl x3), some (.inl x4), some (.inl x5), some (.inl x6), some (.inl x7), some (.inl (nI 1)), some (.inl x9), some (.inl (hA h 85 ((((nI 15) * x1) + x9)).toNatClampNeg)), some (.inl (hA h 86 ((((nI 15) * x1) + x9)).toNatClampNeg)), none]) dX12_plan_199 rfl rfl ?_
      refine z_iconst (pc := 201) (v := (nI 0)) dX12_plan_201 (by decide) ?_
      refine z_istore (pc := 202) (ls' := [some (.inr (some (0, 12, 63))), some (.inl x1), some (.inl x2), some (.inl x3), some (.inl x4), some (.inl x5), some (.inl x6), some (.inl x7), some (.inl (nI 1)), some (.inl x9), some (.inl (hA h 85 ((((nI 15) * x1) + x9)).toNatClampNeg)), some (.inl (hA h 86 ((((nI 15) * x1) + x9)).toNatClampNeg)), some (.inl (nI 0))]) dX12_plan_202 rfl rfl ?_
      exact H
    · replace H := H.2 c7
      refine z_aload_n (pc := 178) dX12_plan_178 rfl rfl ?_
      refine z_getk (pc := 179) dX12_plan_179 fX12_96 rfl (s_63_34 S5) ?_
      refine z_bipush (pc := 182) (v := (nI 15)) dX12_plan_182 (by decide) ?_
      refine z_iload (pc := 184) dX12_plan_184 rfl ?_
      refine z_imul (pc := 186) dX12_plan_186 ?_
      refine z_iload (pc := 187) dX12_plan_187 rfl ?_
      refine z_iadd (pc := 189) dX12_plan_189 ?_
      refine z_zald (pc := 190) dX12_plan_190 c6 ?_
      refine z_if_eq (pc := 191) (tgt := 198) dX12_plan_191 (by decide) (fun c8 => ?_) (fun c8 => ?_)
      · replace H := H.1 c8
        refine z_iconst (pc := 198) (v := (nI 0)) dX12_plan_198 (by decide) ?_
        refine z_istore (pc := 199) (ls' := [some (.inr (some (0, 12, 63))), some (.inl x1), some (.inl x2), some (.inl x3), some (.inl x4), some (.inl x5), some (.inl x6), some (.inl x7), some (.inl (nI 0)), some (.inl x9), some (.inl (hA h 85 ((((nI 15) * x1) + x9)).toNatClampNeg)), some (.inl (hA h 86 ((((nI 15) * x1) + x9)).toNatClampNeg)), none]) dX12_plan_199 rfl rfl ?_
        refine z_iconst (pc := 201) (v := (nI 0)) dX12_plan_201 (by decide) ?_
        refine z_istore (pc := 202) (ls' := [some (.inr (some (0, 12, 63))), some (.inl x1), some (.inl x2), some (.inl x3), some (.inl x4), some (.inl x5), some (.inl x6), some (.inl x7), some (.inl (nI 0)), some (.inl x9), some (.inl (hA h 85 ((((nI 15) * x1) + x9)).toNatClampNeg)), some (.inl (hA h 86 ((((nI 15) * x1) + x9)).toNatClampNeg)), some (.inl (nI 0))]) dX12_plan_202 rfl rfl ?_
        exact H
      · replace H := H.2 c8
        refine z_iconst (pc := 194) (v := (nI 1)) dX12_plan_194 (by decide) ?_
        refine z_goto (pc := 195) (tgt := 199) dX12_plan_195 (by decide) ?_
        refine z_istore (pc := 199) (ls' := [some (.inr (some (0, 12, 63))), some (.inl x1), some (.inl x2), some (.inl x3), some (.inl x4), some (.inl x5), some (.inl x6), some (.inl x7), some (.inl (nI 1)), some (.inl x9), some (.inl (hA h 85 ((((nI 15) * x1) + x9)).toNatClampNeg)), some (.inl (hA h 86 ((((nI 15) * x1) + x9)).toNatClampNeg)), none]) dX12_plan_199 rfl rfl ?_
        refine z_iconst (pc := 201) (v := (nI 0)) dX12_plan_201 (by decide) ?_
        refine z_istore (pc := 202) (ls' := [some (.inr (some (0, 12, 63))), some (.inl x1), some (.inl x2), some (.inl x3), some (.inl x4), some (.inl x5), some (.inl x6), some (.inl x7), some (.inl (nI 1)), some (.inl x9), some (.inl (hA h 85 ((((nI 15) * x1) + x9)).toNatClampNeg)), some (.inl (hA h 86 ((((nI 15) * x1) + x9)).toNatClampNeg)), some (.inl (nI 0))]) dX12_plan_202 rfl rfl ?_
        exact H

set_option maxRecDepth 20000 in
theorem bX12_plan_204 {l : Launch} {E : eE} {d bc bs : Nat} {h : aH} {Q : Int32 → aH → Prop} {x1 : Int32} {x2 : Int32} {x3 : Int32} {x4 : Int32} {x5 : Int32} {x6 : Int32} {x7 : Int32} {x8 : Int32} {x9 : Int32} {x10 : Int32} {x11 : Int32} {x12 : Int32} (S : SH h) (H : (((hI h 63 3) ≤ x12 → LX12_plan_116 l E (d + 1) bc bs x1 x2 x3 x4 x5 x6 x7 x8 (x9 + (nI 1)) h Q) ∧ (¬ (hI h 63 3) ≤ x12 → (vp_in (((nI 15) * x7) + x9) 90 ∧ (((hA h 91 ((((nI 15) * x7) + x9)).toNatClampNeg) = 0 → (vp_in (((nI 12) * (((nI 15) * x7) + x9)) + x12) 1080 ∧ LX12_plan_204 l E (d + 1) bc bs x1 x2 x3 x4 x5 x6 x7 x8 x9 x10 x11 (x12 + (nI 1)) (stA h 92 ((((nI 12) * (((nI 15) * x7) + x9)) + x12)).toNatClampNeg (nI 0)) Q)) ∧ (¬ (hA h 91 ((((nI 15) * x7) + x9)).toNatClampNeg) = 0 → (CI l E d 0 0 mX12_comesTo [.inr (some (0, 12, 63)), .inl x12, .inl x1, .inl x10, .inl x11] h (fun v5 h5 => SH h5 ∧ (CI l E d 0 0 mX12_priceOf [.inr (some (0, 12, 63)), .inl x12, .inl x1, .inl x10, .inl x11, .inl v5] h5 (fun v6 h6 => SH h6 ∧ (vp_in (((nI 12) * (((nI 15) * x7) + x9)) + x12) 1080 ∧ LX12_plan_204 l E (d + 1) bc bs x1 x2 x3 x4 x5 x6 x7 x8 x9 x10 x11 (x12 + (nI 1)) (stA h6 92 ((((nI 12) * (((nI 15) * x7) + x9)) + x12)).toNatClampNeg v6) Q))))))))))) : LX12_plan_204 l E (d + 1) bc bs x1 x2 x3 x4 x5 x6 x7 x8 x9 x10 x11 x12 h Q := by
  refine z_iload (pc := 204) dX12_plan_204 rfl ?_
  refine z_aload_n (pc := 206) dX12_plan_206 rfl rfl ?_
  refine z_geti (pc := 207) dX12_plan_207 fX12_123 rfl ?_
  refine z_icmp_ge (pc := 210) (tgt := 280) dX12_plan_210 (by decide) (fun c1 => ?_) (fun c1 => ?_)
  · replace H := H.1 c1
    refine z_iinc (pc := 280) (v := (x9 + (nI 1))) (ls' := [some (.inr (some (0, 12, 63))), some (.inl x1), some (.inl x2), some (.inl x3), some (.inl x4), some (.inl x5), some (.inl x6), some (.inl x7), some (.inl x8), some (.inl (x9 + (nI 1))), some (.inl x10), some (.inl x11), some (.inl x12)]) dX12_plan_280 rfl (by rw [show Int32.ofInt (1) = (nI 1) by decide]) rfl ?_
    refine z_goto (pc := 283) (tgt := 116) dX12_plan_283 (by decide) ?_
    exact z_drop (ls' := [some (.inr (some (0, 12, 63))), some (.inl x1), some (.inl x2), some (.inl x3), some (.inl x4), some (.inl x5), some (.inl x6), some (.inl x7), some (.inl x8), some (.inl (x9 + (nI 1))), none, none, none]) (by simp [dropL]) H
  · replace H := H.2 c1
    refine z_aload_n (pc := 213) dX12_plan_213 rfl rfl ?_
    refine z_getk (pc := 214) dX12_plan_214 fX12_99 rfl (s_63_35 S) ?_
    refine z_bipush (pc := 217) (v := (nI 12)) dX12_plan_217 (by decide) ?_
    refine z_bipush (pc := 219) (v := (nI 15)) dX12_plan_219 (by decide) ?_
    refine z_iload (pc := 221) dX12_plan_221 rfl ?_
    refine z_imul (pc := 223) dX12_plan_223 ?_
    refine z_iload (pc := 224) dX12_plan_224 rfl ?_
    refine z_iadd (pc := 226) dX12_plan_226 ?_
    refine z_imul (pc := 227) dX12_plan_227 ?_
    refine z_iload (pc := 228) dX12_plan_228 rfl ?_
    refine z_iadd (pc := 230) dX12_plan_230 ?_
    refine z_aload_n (pc := 231) dX12_plan_231 rfl rfl ?_
    refine z_getk (pc := 232) dX12_plan_232 fX12_96 rfl (s_63_34 S) ?_
    refine z_bipush (pc := 235) (v := (nI 15)) dX12_plan_235 (by decide) ?_
    refine z_iload (pc := 237) dX12_plan_237 rfl ?_
    refine z_imul (pc := 239) dX12_plan_239 ?_
    refine z_iload (pc := 240) dX12_plan_240 rfl ?_
    refine z_iadd (pc := 242) dX12_plan_242 ?_
    have c2 := H.1
    replace H := H.2
    refine z_zald (pc := 243) dX12_plan_243 c2 ?_
    refine z_if_eq (pc := 244) (tgt := 272) dX12_plan_244 (by decide) (fun c3 => ?_) (fun c3 => ?_)
    · replace H := H.1 c3
      refine z_iconst (pc := 272) (v := (nI 0)) dX12_plan_272 (by decide) ?_
      have c4 := H.1
      replace H := H.2
      refine z_iast (pc := 273) dX12_plan_273 c4 ?_
      refine z_iinc (pc := 274) (v := (x12 + (nI 1))) (ls' := [some (.inr (some (0, 12, 63))), some (.inl x1), some (.inl x2), some (.inl x3), some (.inl x4), some (.inl x5), some (.inl x6), some (.inl x7), some (.inl x8), some (.inl x9), some (.inl x10), some (.inl x11), some (.inl (x12 + (nI 1)))]) dX12_plan_274 rfl (by rw [show Int32.ofInt (1) = (nI 1) by decide]) rfl ?_
      refine z_goto (pc := 277) (tgt := 204) dX12_plan_277 (by decide) ?_
      exact H
    · replace H := H.2 c3
      refine z_aload_n (pc := 247) dX12_plan_247 rfl rfl ?_
      refine z_iload (pc := 248) dX12_plan_248 rfl ?_
      refine z_iload_n (pc := 250) dX12_plan_250 rfl rfl ?_
      refine z_iload (pc := 251) dX12_plan_251 rfl ?_
      refine z_iload (pc := 253) dX12_plan_253 rfl ?_
      refine z_aload_n (pc := 255) dX12_plan_255 rfl rfl ?_
      refine z_iload (pc := 256) dX12_plan_256 rfl ?_
      refine z_iload_n (pc := 258) dX12_plan_258 rfl rfl ?_
      refine z_iload (pc := 259) dX12_plan_259 rfl ?_
      refine z_iload (pc := 261) dX12_plan_261 rfl ?_
      refine y_VI (pc := 263) (bc := bc) (bs := bs) (mc := 0) (ms := 0) (As := [.inl x12, .inl x1, .inl x10, .inl x11]) (rest := [.inl x11, .inl x10, .inl x1, .inl x12, .inr (some (0, 12, 63)), .inl (((nI 12) * (((nI 15) * x7) + x9)) + x12), .inr (some (1, 1080, 92))]) dX12_plan_263 kX12_comesTo lX12_205 ⟨_, _, rfl⟩ rfl rfl (H.use (fun v5 h5 H => ?_))
      have S5 := H.1
      replace H := H.2
      refine y_VI (pc := 266) (bc := bc) (bs := bs) (mc := 0) (ms := 0) (As := [.inl x12, .inl x1, .inl x10, .inl x11, .inl v5]) (rest := [.inl (((nI 12) * (((nI 15) * x7) + x9)) + x12), .inr (some (1, 1080, 92))]) dX12_plan_266 kX12_priceOf lX12_230 ⟨_, _, rfl⟩ rfl rfl (H.use (fun v6 h6 H => ?_))
      have S6 := H.1
      replace H := H.2
      refine z_goto (pc := 269) (tgt := 273) dX12_plan_269 (by decide) ?_
      have c7 := H.1
      replace H := H.2
      refine z_iast (pc := 273) dX12_plan_273 c7 ?_
      refine z_iinc (pc := 274) (v := (x12 + (nI 1))) (ls' := [some (.inr (some (0, 12, 63))), some (.inl x1), some (.inl x2), some (.inl x3), some (.inl x4), some (.inl x5), some (.inl x6), some (.inl x7), some (.inl x8), some (.inl x9), some (.inl x10), some (.inl x11), some (.inl (x12 + (nI 1)))]) dX12_plan_274 rfl (by rw [show Int32.ofInt (1) = (nI 1) by decide]) rfl ?_
      refine z_goto (pc := 277) (tgt := 204) dX12_plan_277 (by decide) ?_
      exact H

set_option maxRecDepth 20000 in
theorem bX12_plan_317 {l : Launch} {E : eE} {d bc bs : Nat} {h : aH} {Q : Int32 → aH → Prop} {x1 : Int32} {x2 : Int32} {x3 : Int32} {x4 : Int32} {x5 : Int32} {x6 : Int32} {x7 : Int32} {x8 : Int32} (S : SH h) (H : ((x6 ≤ x8 → LX12_plan_341 l E (d + 1) bc bs x1 x2 x3 x4 x5 x6 x7 (nI 1) h Q) ∧ (¬ x6 ≤ x8 → (vp_in x8 6 ∧ LX12_plan_317 l E (d + 1) bc bs x1 x2 x3 x4 x5 x6 x7 (x8 + (nI 1)) (stA h 93 (x8).toNatClampNeg (nI 0)) Q)))) : LX12_plan_317 l E (d + 1) bc bs x1 x2 x3 x4 x5 x6 x7 x8 h Q := by
  refine z_iload (pc := 317) dX12_plan_317 rfl ?_
  refine z_iload (pc := 319) dX12_plan_319 rfl ?_
  refine z_icmp_ge (pc := 321) (tgt := 338) dX12_plan_321 (by decide) (fun c1 => ?_) (fun c1 => ?_)
  · replace H := H.1 c1
    refine z_iconst (pc := 338) (v := (nI 1)) dX12_plan_338 (by decide) ?_
    refine z_istore (pc := 339) (ls' := [some (.inr (some (0, 12, 63))), some (.inl x1), some (.inl x2), some (.inl x3), some (.inl x4), some (.inl x5), some (.inl x6), some (.inl x7), some (.inl (nI 1)), none, none, none, none]) dX12_plan_339 rfl rfl ?_
    exact H
  · replace H := H.2 c1
    refine z_aload_n (pc := 324) dX12_plan_324 rfl rfl ?_
    refine z_getk (pc := 325) dX12_plan_325 fX12_102 rfl (s_63_36 S) ?_
    refine z_iload (pc := 328) dX12_plan_328 rfl ?_
    refine z_iconst (pc := 330) (v := (nI 0)) dX12_plan_330 (by decide) ?_
    have c2 := H.1
    replace H := H.2
    refine z_iast (pc := 331) dX12_plan_331 c2 ?_
    refine z_iinc (pc := 332) (v := (x8 + (nI 1))) (ls' := [some (.inr (some (0, 12, 63))), some (.inl x1), some (.inl x2), some (.inl x3), some (.inl x4), some (.inl x5), some (.inl x6), some (.inl x7), some (.inl (x8 + (nI 1))), none, none, none, none]) dX12_plan_332 rfl (by rw [show Int32.ofInt (1) = (nI 1) by decide]) rfl ?_
    refine z_goto (pc := 335) (tgt := 317) dX12_plan_335 (by decide) ?_
    exact H

set_option maxRecDepth 20000 in
theorem bX12_plan_341 {l : Launch} {E : eE} {d bc bs : Nat} {h : aH} {Q : Int32 → aH → Prop} {x1 : Int32} {x2 : Int32} {x3 : Int32} {x4 : Int32} {x5 : Int32} {x6 : Int32} {x7 : Int32} {x8 : Int32} (S : SH h) (H : ((x8 = 0 → LX12_plan_605 l E (d + 1) bc bs x1 x2 x3 x4 x5 x6 x7 x8 (nI 0) h Q) ∧ (¬ x8 = 0 → LX12_plan_352 l E (d + 1) bc bs x1 x2 x3 x4 x5 x6 x7 x8 (nI 1) (nI 0) h Q))) : LX12_plan_341 l E (d + 1) bc bs x1 x2 x3 x4 x5 x6 x7 x8 h Q := by
  refine z_iload (pc := 341) dX12_plan_341 rfl ?_
  refine z_if_eq (pc := 343) (tgt := 602) dX12_plan_343 (by decide) (fun c1 => ?_) (fun c1 => ?_)
  · replace H := H.1 c1
    refine z_iconst (pc := 602) (v := (nI 0)) dX12_plan_602 (by decide) ?_
    refine z_istore (pc := 603) (ls' := [some (.inr (some (0, 12, 63))), some (.inl x1), some (.inl x2), some (.inl x3), some (.inl x4), some (.inl x5), some (.inl x6), some (.inl x7), some (.inl x8), some (.inl (nI 0)), none, none, none]) dX12_plan_603 rfl rfl ?_
    exact H
  · replace H := H.2 c1
    refine z_iconst (pc := 346) (v := (nI 1)) dX12_plan_346 (by decide) ?_
    refine z_istore (pc := 347) (ls' := [some (.inr (some (0, 12, 63))), some (.inl x1), some (.inl x2), some (.inl x3), some (.inl x4), some (.inl x5), some (.inl x6), some (.inl x7), some (.inl x8), some (.inl (nI 1)), none, none, none]) dX12_plan_347 rfl rfl ?_
    refine z_iconst (pc := 349) (v := (nI 0)) dX12_plan_349 (by decide) ?_
    refine z_istore (pc := 350) (ls' := [some (.inr (some (0, 12, 63))), some (.inl x1), some (.inl x2), some (.inl x3), some (.inl x4), some (.inl x5), some (.inl x6), some (.inl x7), some (.inl x8), some (.inl (nI 1)), some (.inl (nI 0)), none, none]) dX12_plan_350 rfl rfl ?_
    exact H

set_option maxRecDepth 20000 in
theorem bX12_plan_352 {l : Launch} {E : eE} {d bc bs : Nat} {h : aH} {Q : Int32 → aH → Prop} {x1 : Int32} {x2 : Int32} {x3 : Int32} {x4 : Int32} {x5 : Int32} {x6 : Int32} {x7 : Int32} {x8 : Int32} {x9 : Int32} {x10 : Int32} (S : SH h) (H : ((x6 ≤ x10 → ((x9 = 0 → LX12_plan_538 l E (d + 1) bc bs x1 x2 x3 x4 x5 x6 x7 x8 x9 (x6 - (nI 1)) h Q) ∧ (¬ x9 = 0 → LX12_plan_406 l E (d + 1) bc bs x1 x2 x3 x4 x5 x6 x7 x8 x9 (nI 0) h Q))) ∧ (¬ x6 ≤ x10 → ((x9 = 0 → LX12_plan_352 l E (d + 1) bc bs x1 x2 x3 x4 x5 x6 x7 x8 (nI 0) (x10 + (nI 1)) h Q) ∧ (¬ x9 = 0 → (vp_in x10 6 ∧ (vp_in (((nI 15) * x10) + (hA h 93 (x10).toNatClampNeg)) 90 ∧ (((hA h 91 ((((nI 15) * x10) + (hA h 93 (x10).toNatClampNeg))).toNatClampNeg) = 0 → LX12_plan_352 l E (d + 1) bc bs x1 x2 x3 x4 x5 x6 x7 x8 (nI 0) (x10 + (nI 1)) h Q) ∧ (¬ (hA h 91 ((((nI 15) * x10) + (hA h 93 (x10).toNatClampNeg))).toNatClampNeg) = 0 → LX12_plan_352 l E (d + 1) bc bs x1 x2 x3 x4 x5 x6 x7 x8 (nI 1) (x10 + (nI 1)) h Q))))))))) : LX12_plan_352 l E (d + 1) bc bs x1 x2 x3 x4 x5 x6 x7 x8 x9 x10 h Q := by
  refine z_iload (pc := 352) dX12_plan_352 rfl ?_
  refine z_iload (pc := 354) dX12_plan_354 rfl ?_
  refine z_icmp_ge (pc := 356) (tgt := 398) dX12_plan_356 (by decide) (fun c1 => ?_) (fun c1 => ?_)
  · replace H := H.1 c1
    refine z_iload (pc := 398) dX12_plan_398 rfl ?_
    refine z_if_eq (pc := 400) (tgt := 532) dX12_plan_400 (by decide) (fun c2 => ?_) (fun c2 => ?_)
    · replace H := H.1 c2
      refine z_iload (pc := 532) dX12_plan_532 rfl ?_
      refine z_iconst (pc := 534) (v := (nI 1)) dX12_plan_534 (by decide) ?_
      refine z_isub (pc := 535) dX12_plan_535 ?_
      refine z_istore (pc := 536) (ls' := [some (.inr (some (0, 12, 63))), some (.inl x1), some (.inl x2), some (.inl x3), some (.inl x4), some (.inl x5), some (.inl x6), some (.inl x7), some (.inl x8), some (.inl x9), some (.inl (x6 - (nI 1))), none, none]) dX12_plan_536 rfl rfl ?_
      exact H
    · replace H := H.2 c2
      refine z_iconst (pc := 403) (v := (nI 0)) dX12_plan_403 (by decide) ?_
      refine z_istore (pc := 404) (ls' := [some (.inr (some (0, 12, 63))), some (.inl x1), some (.inl x2), some (.inl x3), some (.inl x4), some (.inl x5), some (.inl x6), some (.inl x7), some (.inl x8), some (.inl x9), some (.inl (nI 0)), none, none]) dX12_plan_404 rfl rfl ?_
      exact H
  · replace H := H.2 c1
    refine z_iload (pc := 359) dX12_plan_359 rfl ?_
    refine z_if_eq (pc := 361) (tgt := 389) dX12_plan_361 (by decide) (fun c3 => ?_) (fun c3 => ?_)
    · replace H := H.1 c3
      refine z_iconst (pc := 389) (v := (nI 0)) dX12_plan_389 (by decide) ?_
      refine z_istore (pc := 390) (ls' := [some (.inr (some (0, 12, 63))), some (.inl x1), some (.inl x2), some (.inl x3), some (.inl x4), some (.inl x5), some (.inl x6), some (.inl x7), some (.inl x8), some (.inl (nI 0)), some (.inl x10), none, none]) dX12_plan_390 rfl rfl ?_
      refine z_iinc (pc := 392) (v := (x10 + (nI 1))) (ls' := [some (.inr (some (0, 12, 63))), some (.inl x1), some (.inl x2), some (.inl x3), some (.inl x4), some (.inl x5), some (.inl x6), some (.inl x7), some (.inl x8), some (.inl (nI 0)), some (.inl (x10 + (nI 1))), none, none]) dX12_plan_392 rfl (by rw [show Int32.ofInt (1) = (nI 1) by decide]) rfl ?_
      refine z_goto (pc := 395) (tgt := 352) dX12_plan_395 (by decide) ?_
      exact H
    · replace H := H.2 c3
      refine z_aload_n (pc := 364) dX12_plan_364 rfl rfl ?_
      refine z_getk (pc := 365) dX12_plan_365 fX12_96 rfl (s_63_34 S) ?_
      refine z_bipush (pc := 368) (v := (nI 15)) dX12_plan_368 (by decide) ?_
      refine z_iload (pc := 370) dX12_plan_370 rfl ?_
      refine z_imul (pc := 372) dX12_plan_372 ?_
      refine z_aload_n (pc := 373) dX12_plan_373 rfl rfl ?_
      refine z_getk (pc := 374) dX12_plan_374 fX12_102 rfl (s_63_36 S) ?_
      refine z_iload (pc := 377) dX12_plan_377 rfl ?_
      have c4 := H.1
      replace H := H.2
      refine z_iald (pc := 379) dX12_plan_379 c4 ?_
      refine z_iadd (pc := 380) dX12_plan_380 ?_
      have c5 := H.1
      replace H := H.2
      refine z_zald (pc := 381) dX12_plan_381 c5 ?_
      refine z_if_eq (pc := 382) (tgt := 389) dX12_plan_382 (by decide) (fun c6 => ?_) (fun c6 => ?_)
      · replace H := H.1 c6
        refine z_iconst (pc := 389) (v := (nI 0)) dX12_plan_389 (by decide) ?_
        refine z_istore (pc := 390) (ls' := [some (.inr (some (0, 12, 63))), some (.inl x1), some (.inl x2), some (.inl x3), some (.inl x4), some (.inl x5), some (.inl x6), some (.inl x7), some (.inl x8), some (.inl (nI 0)), some (.inl x10), none, none]) dX12_plan_390 rfl rfl ?_
        refine z_iinc (pc := 392) (v := (x10 + (nI 1))) (ls' := [some (.inr (some (0, 12, 63))), some (.inl x1), some (.inl x2), some (.inl x3), some (.inl x4), some (.inl x5), some (.inl x6), some (.inl x7), some (.inl x8), some (.inl (nI 0)), some (.inl (x10 + (nI 1))), none, none]) dX12_plan_392 rfl (by rw [show Int32.ofInt (1) = (nI 1) by decide]) rfl ?_
        refine z_goto (pc := 395) (tgt := 352) dX12_plan_395 (by decide) ?_
        exact H
      · replace H := H.2 c6
        refine z_iconst (pc := 385) (v := (nI 1)) dX12_plan_385 (by decide) ?_
        refine z_goto (pc := 386) (tgt := 390) dX12_plan_386 (by decide) ?_
        refine z_istore (pc := 390) (ls' := [some (.inr (some (0, 12, 63))), some (.inl x1), some (.inl x2), some (.inl x3), some (.inl x4), some (.inl x5), some (.inl x6), some (.inl x7), some (.inl x8), some (.inl (nI 1)), some (.inl x10), none, none]) dX12_plan_390 rfl rfl ?_
        refine z_iinc (pc := 392) (v := (x10 + (nI 1))) (ls' := [some (.inr (some (0, 12, 63))), some (.inl x1), some (.inl x2), some (.inl x3), some (.inl x4), some (.inl x5), some (.inl x6), some (.inl x7), some (.inl x8), some (.inl (nI 1)), some (.inl (x10 + (nI 1))), none, none]) dX12_plan_392 rfl (by rw [show Int32.ofInt (1) = (nI 1) by decide]) rfl ?_
        refine z_goto (pc := 395) (tgt := 352) dX12_plan_395 (by decide) ?_
        exact H

set_option maxRecDepth 20000 in
theorem bX12_plan_406 {l : Launch} {E : eE} {d bc bs : Nat} {h : aH} {Q : Int32 → aH → Prop} {x1 : Int32} {x2 : Int32} {x3 : Int32} {x4 : Int32} {x5 : Int32} {x6 : Int32} {x7 : Int32} {x8 : Int32} {x9 : Int32} {x10 : Int32} (S : SH h) (H : (((hI h 63 3) ≤ x10 → (CV l E d 0 0 mX12_sorts [.inr (some (0, 12, 63))] h (fun h2 => SH h2 ∧ ((x7 = 0 → (CV l E d 0 0 mX12_isBest [.inr (some (0, 12, 63))] h2 (fun h4 => SH h4 ∧ LX12_plan_505 l E (d + 1) bc bs x1 x2 x3 x4 x5 x6 (nI 1) x8 x9 (nI 0) h4 Q))) ∧ (¬ x7 = 0 → (CI l E d 0 0 mX12_isLess [.inr (some (0, 12, 63))] h2 (fun v5 h5 => SH h5 ∧ ((v5 = 0 → LX12_plan_538 l E (d + 1) bc bs x1 x2 x3 x4 x5 x6 x7 x8 x9 (x6 - (nI 1)) h5 Q) ∧ (¬ v5 = 0 → (CV l E d 0 0 mX12_isBest [.inr (some (0, 12, 63))] h5 (fun h7 => SH h7 ∧ LX12_plan_505 l E (d + 1) bc bs x1 x2 x3 x4 x5 x6 (nI 1) x8 x9 (nI 0) h7 Q))))))))))) ∧ (¬ (hI h 63 3) ≤ x10 → (vp_in x10 12 ∧ LX12_plan_426 l E (d + 1) bc bs x1 x2 x3 x4 x5 x6 x7 x8 x9 x10 (nI 0) (stA h 88 (x10).toNatClampNeg (nI 0)) Q)))) : LX12_plan_406 l E (d + 1) bc bs x1 x2 x3 x4 x5 x6 x7 x8 x9 x10 h Q := by
  refine z_iload (pc := 406) dX12_plan_406 rfl ?_
  refine z_aload_n (pc := 408) dX12_plan_408 rfl rfl ?_
  refine z_geti (pc := 409) dX12_plan_409 fX12_123 rfl ?_
  refine z_icmp_ge (pc := 412) (tgt := 479) dX12_plan_412 (by decide) (fun c1 => ?_) (fun c1 => ?_)
  · replace H := H.1 c1
    refine z_aload_n (pc := 479) dX12_plan_479 rfl rfl ?_
    refine y_VV (pc := 480) (bc := bc) (bs := bs) (mc := 0) (ms := 0) (As := []) (rest := []) dX12_plan_480 kX12_sorts lX12_238 ⟨_, _, rfl⟩ rfl rfl (H.use (fun h2 H => ?_))
    have S2 := H.1
    replace H := H.2
    refine z_iload (pc := 483) dX12_plan_483 rfl ?_
    refine z_if_eq (pc := 485) (tgt := 495) dX12_plan_485 (by decide) (fun c3 => ?_) (fun c3 => ?_)
    · replace H := H.1 c3
      refine z_iconst (pc := 495) (v := (nI 1)) dX12_plan_495 (by decide) ?_
      refine z_istore (pc := 496) (ls' := [some (.inr (some (0, 12, 63))), some (.inl x1), some (.inl x2), some (.inl x3), some (.inl x4), some (.inl x5), some (.inl x6), some (.inl (nI 1)), some (.inl x8), some (.inl x9), some (.inl x10), none, none]) dX12_plan_496 rfl rfl ?_
      refine z_aload_n (pc := 498) dX12_plan_498 rfl rfl ?_
      refine y_VV (pc := 499) (bc := bc) (bs := bs) (mc := 0) (ms := 0) (As := []) (rest := []) dX12_plan_499 kX12_isBest lX12_245 ⟨_, _, rfl⟩ rfl rfl (H.use (fun h4 H => ?_))
      have S4 := H.1
      replace H := H.2
      refine z_iconst (pc := 502) (v := (nI 0)) dX12_plan_502 (by decide) ?_
      refine z_istore (pc := 503) (ls' := [some (.inr (some (0, 12, 63))), some (.inl x1), some (.inl x2), some (.inl x3), some (.inl x4), some (.inl x5), some (.inl x6), some (.inl (nI 1)), some (.inl x8), some (.inl x9), some (.inl (nI 0)), none, none]) dX12_plan_503 rfl rfl ?_
      exact H
    · replace H := H.2 c3
      refine z_aload_n (pc := 488) dX12_plan_488 rfl rfl ?_
      refine y_VI (pc := 489) (bc := bc) (bs := bs) (mc := 0) (ms := 0) (As := []) (rest := []) dX12_plan_489 kX12_isLess lX12_241 ⟨_, _, rfl⟩ rfl rfl (H.use (fun v5 h5 H => ?_))
      have S5 := H.1
      replace H := H.2
      refine z_if_eq (pc := 492) (tgt := 532) dX12_plan_492 (by decide) (fun c6 => ?_) (fun c6 => ?_)
      · replace H := H.1 c6
        refine z_iload (pc := 532) dX12_plan_532 rfl ?_
        refine z_iconst (pc := 534) (v := (nI 1)) dX12_plan_534 (by decide) ?_
        refine z_isub (pc := 535) dX12_plan_535 ?_
        refine z_istore (pc := 536) (ls' := [some (.inr (some (0, 12, 63))), some (.inl x1), some (.inl x2), some (.inl x3), some (.inl x4), some (.inl x5), some (.inl x6), some (.inl x7), some (.inl x8), some (.inl x9), some (.inl (x6 - (nI 1))), none, none]) dX12_plan_536 rfl rfl ?_
        exact H
      · replace H := H.2 c6
        refine z_iconst (pc := 495) (v := (nI 1)) dX12_plan_495 (by decide) ?_
        refine z_istore (pc := 496) (ls' := [some (.inr (some (0, 12, 63))), some (.inl x1), some (.inl x2), some (.inl x3), some (.inl x4), some (.inl x5), some (.inl x6), some (.inl (nI 1)), some (.inl x8), some (.inl x9), some (.inl x10), none, none]) dX12_plan_496 rfl rfl ?_
        refine z_aload_n (pc := 498) dX12_plan_498 rfl rfl ?_
        refine y_VV (pc := 499) (bc := bc) (bs := bs) (mc := 0) (ms := 0) (As := []) (rest := []) dX12_plan_499 kX12_isBest lX12_245 ⟨_, _, rfl⟩ rfl rfl (H.use (fun h7 H => ?_))
        have S7 := H.1
        replace H := H.2
        refine z_iconst (pc := 502) (v := (nI 0)) dX12_plan_502 (by decide) ?_
        refine z_istore (pc := 503) (ls' := [some (.inr (some (0, 12, 63))), some (.inl x1), some (.inl x2), some (.inl x3), some (.inl x4), some (.inl x5), some (.inl x6), some (.inl (nI 1)), some (.inl x8), some (.inl x9), some (.inl (nI 0)), none, none]) dX12_plan_503 rfl rfl ?_
        exact H
  · replace H := H.2 c1
    refine z_aload_n (pc := 415) dX12_plan_415 rfl rfl ?_
    refine z_getk (pc := 416) dX12_plan_416 fX12_87 rfl (s_63_31 S) ?_
    refine z_iload (pc := 419) dX12_plan_419 rfl ?_
    refine z_iconst (pc := 421) (v := (nI 0)) dX12_plan_421 (by decide) ?_
    have c8 := H.1
    replace H := H.2
    refine z_iast (pc := 422) dX12_plan_422 c8 ?_
    refine z_iconst (pc := 423) (v := (nI 0)) dX12_plan_423 (by decide) ?_
    refine z_istore (pc := 424) (ls' := [some (.inr (some (0, 12, 63))), some (.inl x1), some (.inl x2), some (.inl x3), some (.inl x4), some (.inl x5), some (.inl x6), some (.inl x7), some (.inl x8), some (.inl x9), some (.inl x10), some (.inl (nI 0)), none]) dX12_plan_424 rfl rfl ?_
    exact H

set_option maxRecDepth 20000 in
theorem bX12_plan_426 {l : Launch} {E : eE} {d bc bs : Nat} {h : aH} {Q : Int32 → aH → Prop} {x1 : Int32} {x2 : Int32} {x3 : Int32} {x4 : Int32} {x5 : Int32} {x6 : Int32} {x7 : Int32} {x8 : Int32} {x9 : Int32} {x10 : Int32} {x11 : Int32} (S : SH h) (H : ((x6 ≤ x11 → LX12_plan_406 l E (d + 1) bc bs x1 x2 x3 x4 x5 x6 x7 x8 x9 (x10 + (nI 1)) h Q) ∧ (¬ x6 ≤ x11 → (vp_in x10 12 ∧ (vp_in x11 6 ∧ (vp_in (((nI 12) * (((nI 15) * x11) + (hA h 93 (x11).toNatClampNeg))) + x10) 1080 ∧ LX12_plan_426 l E (d + 1) bc bs x1 x2 x3 x4 x5 x6 x7 x8 x9 x10 (x11 + (nI 1)) (stA h 88 (x10).toNatClampNeg ((hA h 88 (x10).toNatClampNeg) + (hA h 92 ((((nI 12) * (((nI 15) * x11) + (hA h 93 (x11).toNatClampNeg))) + x10)).toNatClampNeg))) Q)))))) : LX12_plan_426 l E (d + 1) bc bs x1 x2 x3 x4 x5 x6 x7 x8 x9 x10 x11 h Q := by
  refine z_iload (pc := 426) dX12_plan_426 rfl ?_
  refine z_iload (pc := 428) dX12_plan_428 rfl ?_
  refine z_icmp_ge (pc := 430) (tgt := 473) dX12_plan_430 (by decide) (fun c1 => ?_) (fun c1 => ?_)
  · replace H := H.1 c1
    refine z_iinc (pc := 473) (v := (x10 + (nI 1))) (ls' := [some (.inr (some (0, 12, 63))), some (.inl x1), some (.inl x2), some (.inl x3), some (.inl x4), some (.inl x5), some (.inl x6), some (.inl x7), some (.inl x8), some (.inl x9), some (.inl (x10 + (nI 1))), some (.inl x11), none]) dX12_plan_473 rfl (by rw [show Int32.ofInt (1) = (nI 1) by decide]) rfl ?_
    refine z_goto (pc := 476) (tgt := 406) dX12_plan_476 (by decide) ?_
    exact z_drop (ls' := [some (.inr (some (0, 12, 63))), some (.inl x1), some (.inl x2), some (.inl x3), some (.inl x4), some (.inl x5), some (.inl x6), some (.inl x7), some (.inl x8), some (.inl x9), some (.inl (x10 + (nI 1))), none, none]) (by simp [dropL]) H
  · replace H := H.2 c1
    refine z_aload_n (pc := 433) dX12_plan_433 rfl rfl ?_
    refine z_getk (pc := 434) dX12_plan_434 fX12_87 rfl (s_63_31 S) ?_
    refine z_iload (pc := 437) dX12_plan_437 rfl ?_
    refine z_dup2 (pc := 439) dX12_plan_439 ?_
    have c2 := H.1
    replace H := H.2
    refine z_iald (pc := 440) dX12_plan_440 c2 ?_
    refine z_aload_n (pc := 441) dX12_plan_441 rfl rfl ?_
    refine z_getk (pc := 442) dX12_plan_442 fX12_99 rfl (s_63_35 S) ?_
    refine z_bipush (pc := 445) (v := (nI 12)) dX12_plan_445 (by decide) ?_
    refine z_bipush (pc := 447) (v := (nI 15)) dX12_plan_447 (by decide) ?_
    refine z_iload (pc := 449) dX12_plan_449 rfl ?_
    refine z_imul (pc := 451) dX12_plan_451 ?_
    refine z_aload_n (pc := 452) dX12_plan_452 rfl rfl ?_
    refine z_getk (pc := 453) dX12_plan_453 fX12_102 rfl (s_63_36 S) ?_
    refine z_iload (pc := 456) dX12_plan_456 rfl ?_
    have c3 := H.1
    replace H := H.2
    refine z_iald (pc := 458) dX12_plan_458 c3 ?_
    refine z_iadd (pc := 459) dX12_plan_459 ?_
    refine z_imul (pc := 460) dX12_plan_460 ?_
    refine z_iload (pc := 461) dX12_plan_461 rfl ?_
    refine z_iadd (pc := 463) dX12_plan_463 ?_
    have c4 := H.1
    replace H := H.2
    refine z_iald (pc := 464) dX12_plan_464 c4 ?_
    refine z_iadd (pc := 465) dX12_plan_465 ?_
    refine z_iast (pc := 466) dX12_plan_466 c2 ?_
    refine z_iinc (pc := 467) (v := (x11 + (nI 1))) (ls' := [some (.inr (some (0, 12, 63))), some (.inl x1), some (.inl x2), some (.inl x3), some (.inl x4), some (.inl x5), some (.inl x6), some (.inl x7), some (.inl x8), some (.inl x9), some (.inl x10), some (.inl (x11 + (nI 1))), none]) dX12_plan_467 rfl (by rw [show Int32.ofInt (1) = (nI 1) by decide]) rfl ?_
    refine z_goto (pc := 470) (tgt := 426) dX12_plan_470 (by decide) ?_
    exact H

set_option maxRecDepth 20000 in
theorem bX12_plan_505 {l : Launch} {E : eE} {d bc bs : Nat} {h : aH} {Q : Int32 → aH → Prop} {x1 : Int32} {x2 : Int32} {x3 : Int32} {x4 : Int32} {x5 : Int32} {x6 : Int32} {x7 : Int32} {x8 : Int32} {x9 : Int32} {x10 : Int32} (S : SH h) (H : ((x6 ≤ x10 → LX12_plan_538 l E (d + 1) bc bs x1 x2 x3 x4 x5 x6 x7 x8 x9 (x6 - (nI 1)) h Q) ∧ (¬ x6 ≤ x10 → (vp_in x10 6 ∧ LX12_plan_505 l E (d + 1) bc bs x1 x2 x3 x4 x5 x6 x7 x8 x9 (x10 + (nI 1)) (stA h 94 (x10).toNatClampNeg (hA h 93 (x10).toNatClampNeg)) Q)))) : LX12_plan_505 l E (d + 1) bc bs x1 x2 x3 x4 x5 x6 x7 x8 x9 x10 h Q := by
  refine z_iload (pc := 505) dX12_plan_505 rfl ?_
  refine z_iload (pc := 507) dX12_plan_507 rfl ?_
  refine z_icmp_ge (pc := 509) (tgt := 532) dX12_plan_509 (by decide) (fun c1 => ?_) (fun c1 => ?_)
  · replace H := H.1 c1
    refine z_iload (pc := 532) dX12_plan_532 rfl ?_
    refine z_iconst (pc := 534) (v := (nI 1)) dX12_plan_534 (by decide) ?_
    refine z_isub (pc := 535) dX12_plan_535 ?_
    refine z_istore (pc := 536) (ls' := [some (.inr (some (0, 12, 63))), some (.inl x1), some (.inl x2), some (.inl x3), some (.inl x4), some (.inl x5), some (.inl x6), some (.inl x7), some (.inl x8), some (.inl x9), some (.inl (x6 - (nI 1))), none, none]) dX12_plan_536 rfl rfl ?_
    exact H
  · replace H := H.2 c1
    refine z_aload_n (pc := 512) dX12_plan_512 rfl rfl ?_
    refine z_getk (pc := 513) dX12_plan_513 fX12_105 rfl (s_63_37 S) ?_
    refine z_iload (pc := 516) dX12_plan_516 rfl ?_
    refine z_aload_n (pc := 518) dX12_plan_518 rfl rfl ?_
    refine z_getk (pc := 519) dX12_plan_519 fX12_102 rfl (s_63_36 S) ?_
    refine z_iload (pc := 522) dX12_plan_522 rfl ?_
    have c2 := H.1
    replace H := H.2
    refine z_iald (pc := 524) dX12_plan_524 c2 ?_
    refine z_iast (pc := 525) dX12_plan_525 c2 ?_
    refine z_iinc (pc := 526) (v := (x10 + (nI 1))) (ls' := [some (.inr (some (0, 12, 63))), some (.inl x1), some (.inl x2), some (.inl x3), some (.inl x4), some (.inl x5), some (.inl x6), some (.inl x7), some (.inl x8), some (.inl x9), some (.inl (x10 + (nI 1))), none, none]) dX12_plan_526 rfl (by rw [show Int32.ofInt (1) = (nI 1) by decide]) rfl ?_
    refine z_goto (pc := 529) (tgt := 505) dX12_plan_529 (by decide) ?_
    exact H

set_option maxRecDepth 20000 in
theorem bX12_plan_538 {l : Launch} {E : eE} {d bc bs : Nat} {h : aH} {Q : Int32 → aH → Prop} {x1 : Int32} {x2 : Int32} {x3 : Int32} {x4 : Int32} {x5 : Int32} {x6 : Int32} {x7 : Int32} {x8 : Int32} {x9 : Int32} {x10 : Int32} (S : SH h) (H : ((x10 < 0 → LX12_plan_571 l E (d + 1) bc bs x1 x2 x3 x4 x5 x6 x7 x8 x9 x10 h Q) ∧ (¬ x10 < 0 → (vp_in x10 6 ∧ ((¬ (hA h 93 (x10).toNatClampNeg) = (x5 - (nI 1)) → LX12_plan_571 l E (d + 1) bc bs x1 x2 x3 x4 x5 x6 x7 x8 x9 x10 h Q) ∧ ((hA h 93 (x10).toNatClampNeg) = (x5 - (nI 1)) → LX12_plan_538 l E (d + 1) bc bs x1 x2 x3 x4 x5 x6 x7 x8 x9 (x10 + (-1)) (stA h 93 (x10).toNatClampNeg (nI 0)) Q)))))) : LX12_plan_538 l E (d + 1) bc bs x1 x2 x3 x4 x5 x6 x7 x8 x9 x10 h Q := by
  refine z_iload (pc := 538) dX12_plan_538 rfl ?_
  refine z_if_lt (pc := 540) (tgt := 571) dX12_plan_540 (by decide) (fun c1 => ?_) (fun c1 => ?_)
  · replace H := H.1 c1
    exact H
  · replace H := H.2 c1
    refine z_aload_n (pc := 543) dX12_plan_543 rfl rfl ?_
    refine z_getk (pc := 544) dX12_plan_544 fX12_102 rfl (s_63_36 S) ?_
    refine z_iload (pc := 547) dX12_plan_547 rfl ?_
    have c2 := H.1
    replace H := H.2
    refine z_iald (pc := 549) dX12_plan_549 c2 ?_
    refine z_iload (pc := 550) dX12_plan_550 rfl ?_
    refine z_iconst (pc := 552) (v := (nI 1)) dX12_plan_552 (by decide) ?_
    refine z_isub (pc := 553) dX12_plan_553 ?_
    refine z_icmp_ne (pc := 554) (tgt := 571) dX12_plan_554 (by decide) (fun c3 => ?_) (fun c3 => ?_)
    · replace H := H.1 c3
      exact H
    · replace H := H.2 c3
      refine z_aload_n (pc := 557) dX12_plan_557 rfl rfl ?_
      refine z_getk (pc := 558) dX12_plan_558 fX12_102 rfl (s_63_36 S) ?_
      refine z_iload (pc := 561) dX12_plan_561 rfl ?_
      refine z_iconst (pc := 563) (v := (nI 0)) dX12_plan_563 (by decide) ?_
      refine z_iast (pc := 564) dX12_plan_564 c2 ?_
      refine z_iinc (pc := 565) (v := (x10 + (-1))) (ls' := [some (.inr (some (0, 12, 63))), some (.inl x1), some (.inl x2), some (.inl x3), some (.inl x4), some (.inl x5), some (.inl x6), some (.inl x7), some (.inl x8), some (.inl x9), some (.inl (x10 + (-1))), none, none]) dX12_plan_565 rfl (by rw [show Int32.ofInt (-1) = (-1) by decide]) rfl ?_
      refine z_goto (pc := 568) (tgt := 538) dX12_plan_568 (by decide) ?_
      exact H

set_option maxRecDepth 20000 in
theorem bX12_plan_571 {l : Launch} {E : eE} {d bc bs : Nat} {h : aH} {Q : Int32 → aH → Prop} {x1 : Int32} {x2 : Int32} {x3 : Int32} {x4 : Int32} {x5 : Int32} {x6 : Int32} {x7 : Int32} {x8 : Int32} {x9 : Int32} {x10 : Int32} (S : SH h) (H : ((x10 < 0 → (((nI 0) = 0 → LX12_plan_341 l E (d + 1) bc bs x1 x2 x3 x4 x5 x6 x7 (nI 0) h Q) ∧ (¬ (nI 0) = 0 → (vp_in x10 6 ∧ LX12_plan_341 l E (d + 1) bc bs x1 x2 x3 x4 x5 x6 x7 (nI 0) (stA h 93 (x10).toNatClampNeg ((hA h 93 (x10).toNatClampNeg) + (nI 1))) Q)))) ∧ (¬ x10 < 0 → (((nI 1) = 0 → LX12_plan_341 l E (d + 1) bc bs x1 x2 x3 x4 x5 x6 x7 (nI 1) h Q) ∧ (¬ (nI 1) = 0 → (vp_in x10 6 ∧ LX12_plan_341 l E (d + 1) bc bs x1 x2 x3 x4 x5 x6 x7 (nI 1) (stA h 93 (x10).toNatClampNeg ((hA h 93 (x10).toNatClampNeg) + (nI 1))) Q)))))) : LX12_plan_571 l E (d + 1) bc bs x1 x2 x3 x4 x5 x6 x7 x8 x9 x10 h Q := by
  refine z_iload (pc := 571) dX12_plan_571 rfl ?_
  refine z_if_lt (pc := 573) (tgt := 580) dX12_plan_573 (by decide) (fun c1 => ?_) (fun c1 => ?_)
  · replace H := H.1 c1
    refine z_iconst (pc := 580) (v := (nI 0)) dX12_plan_580 (by decide) ?_
    refine z_istore (pc := 581) (ls' := [some (.inr (some (0, 12, 63))), some (.inl x1), some (.inl x2), some (.inl x3), some (.inl x4), some (.inl x5), some (.inl x6), some (.inl x7), some (.inl (nI 0)), some (.inl x9), some (.inl x10), none, none]) dX12_plan_581 rfl rfl ?_
    refine z_iload (pc := 583) dX12_plan_583 rfl ?_
    refine z_if_eq (pc := 585) (tgt := 599) dX12_plan_585 (by decide) (fun c2 => ?_) (fun c2 => ?_)
    · replace H := H.1 c2
      refine z_goto (pc := 599) (tgt := 341) dX12_plan_599 (by decide) ?_
      exact z_drop (ls' := [some (.inr (some (0, 12, 63))), some (.inl x1), some (.inl x2), some (.inl x3), some (.inl x4), some (.inl x5), some (.inl x6), some (.inl x7), some (.inl (nI 0)), none, none, none, none]) (by simp [dropL]) H
    · replace H := H.2 c2
      refine z_aload_n (pc := 588) dX12_plan_588 rfl rfl ?_
      refine z_getk (pc := 589) dX12_plan_589 fX12_102 rfl (s_63_36 S) ?_
      refine z_iload (pc := 592) dX12_plan_592 rfl ?_
      refine z_dup2 (pc := 594) dX12_plan_594 ?_
      have c3 := H.1
      replace H := H.2
      refine z_iald (pc := 595) dX12_plan_595 c3 ?_
      refine z_iconst (pc := 596) (v := (nI 1)) dX12_plan_596 (by decide) ?_
      refine z_iadd (pc := 597) dX12_plan_597 ?_
      refine z_iast (pc := 598) dX12_plan_598 c3 ?_
      refine z_goto (pc := 599) (tgt := 341) dX12_plan_599 (by decide) ?_
      exact z_drop (ls' := [some (.inr (some (0, 12, 63))), some (.inl x1), some (.inl x2), some (.inl x3), some (.inl x4), some (.inl x5), some (.inl x6), some (.inl x7), some (.inl (nI 0)), none, none, none, none]) (by simp [dropL]) H
  · replace H := H.2 c1
    refine z_iconst (pc := 576) (v := (nI 1)) dX12_plan_576 (by decide) ?_
    refine z_goto (pc := 577) (tgt := 581) dX12_plan_577 (by decide) ?_
    refine z_istore (pc := 581) (ls' := [some (.inr (some (0, 12, 63))), some (.inl x1), some (.inl x2), some (.inl x3), some (.inl x4), some (.inl x5), some (.inl x6), some (.inl x7), some (.inl (nI 1)), some (.inl x9), some (.inl x10), none, none]) dX12_plan_581 rfl rfl ?_
    refine z_iload (pc := 583) dX12_plan_583 rfl ?_
    refine z_if_eq (pc := 585) (tgt := 599) dX12_plan_585 (by decide) (fun c4 => ?_) (fun c4 => ?_)
    · replace H := H.1 c4
      refine z_goto (pc := 599) (tgt := 341) dX12_plan_599 (by decide) ?_
      exact z_drop (ls' := [some (.inr (some (0, 12, 63))), some (.inl x1), some (.inl x2), some (.inl x3), some (.inl x4), some (.inl x5), some (.inl x6), some (.inl x7), some (.inl (nI 1)), none, none, none, none]) (by simp [dropL]) H
    · replace H := H.2 c4
      refine z_aload_n (pc := 588) dX12_plan_588 rfl rfl ?_
      refine z_getk (pc := 589) dX12_plan_589 fX12_102 rfl (s_63_36 S) ?_
      refine z_iload (pc := 592) dX12_plan_592 rfl ?_
      refine z_dup2 (pc := 594) dX12_plan_594 ?_
      have c5 := H.1
      replace H := H.2
      refine z_iald (pc := 595) dX12_plan_595 c5 ?_
      refine z_iconst (pc := 596) (v := (nI 1)) dX12_plan_596 (by decide) ?_
      refine z_iadd (pc := 597) dX12_plan_597 ?_
      refine z_iast (pc := 598) dX12_plan_598 c5 ?_
      refine z_goto (pc := 599) (tgt := 341) dX12_plan_599 (by decide) ?_
      exact z_drop (ls' := [some (.inr (some (0, 12, 63))), some (.inl x1), some (.inl x2), some (.inl x3), some (.inl x4), some (.inl x5), some (.inl x6), some (.inl x7), some (.inl (nI 1)), none, none, none, none]) (by simp [dropL]) H

set_option maxRecDepth 20000 in
theorem bX12_plan_605 {l : Launch} {E : eE} {d bc bs : Nat} {h : aH} {Q : Int32 → aH → Prop} {x1 : Int32} {x2 : Int32} {x3 : Int32} {x4 : Int32} {x5 : Int32} {x6 : Int32} {x7 : Int32} {x8 : Int32} {x9 : Int32} (S : SH h) (H : ((x6 ≤ x9 → ((¬ (hI h 63 3) = 0 → Q (hA h 90 ((nI 0)).toNatClampNeg) h) ∧ ((hI h 63 3) = 0 → Q (nI 0) h))) ∧ (¬ x6 ≤ x9 → (vp_in x9 6 ∧ (vp_in (((nI 15) * x1) + (hA h 94 (x9).toNatClampNeg)) 60 ∧ (vp_in ((nI 2) * ((((nI 52) * x1) + x2) + x9)) 416 ∧ (vp_in (((nI 2) * ((((nI 52) * x1) + x2) + x9)) + (nI 1)) 416 ∧ LX12_plan_605 l E (d + 1) bc bs x1 x2 x3 x4 x5 x6 x7 x8 (x9 + (nI 1)) (stA (stA h 80 (((nI 2) * ((((nI 52) * x1) + x2) + x9))).toNatClampNeg (hA h 85 ((((nI 15) * x1) + (hA h 94 (x9).toNatClampNeg))).toNatClampNeg)) 80 ((((nI 2) * ((((nI 52) * x1) + x2) + x9)) + (nI 1))).toNatClampNeg (hA h 86 ((((nI 15) * x1) + (hA h 94 (x9).toNatClampNeg))).toNatClampNeg)) Q))))))) : LX12_plan_605 l E (d + 1) bc bs x1 x2 x3 x4 x5 x6 x7 x8 x9 h Q := by
  refine z_iload (pc := 605) dX12_plan_605 rfl ?_
  refine z_iload (pc := 607) dX12_plan_607 rfl ?_
  refine z_icmp_ge (pc := 609) (tgt := 686) dX12_plan_609 (by decide) (fun c1 => ?_) (fun c1 => ?_)
  · replace H := H.1 c1
    refine z_aload_n (pc := 686) dX12_plan_686 rfl rfl ?_
    refine z_geti (pc := 687) dX12_plan_687 fX12_123 rfl ?_
    refine z_if_ne (pc := 690) (tgt := 697) dX12_plan_690 (by decide) (fun c2 => ?_) (fun c2 => ?_)
    · replace H := H.1 c2
      refine z_aload_n (pc := 697) dX12_plan_697 rfl rfl ?_
      refine z_getk (pc := 698) dX12_plan_698 fX12_93 rfl (s_63_33 S) ?_
      refine z_iconst (pc := 701) (v := (nI 0)) dX12_plan_701 (by decide) ?_
      refine z_iald (pc := 702) dX12_plan_702 (vp_in_nI (by decide) (by decide)) ?_
      exact z_iret (pc := 703) dX12_plan_703 rfl rfl ⟨_, rfl, H⟩
    · replace H := H.2 c2
      refine z_iconst (pc := 693) (v := (nI 0)) dX12_plan_693 (by decide) ?_
      refine z_goto (pc := 694) (tgt := 703) dX12_plan_694 (by decide) ?_
      exact z_iret (pc := 703) dX12_plan_703 rfl rfl ⟨_, rfl, H⟩
  · replace H := H.2 c1
    refine z_aload_n (pc := 612) dX12_plan_612 rfl rfl ?_
    refine z_getk (pc := 613) dX12_plan_613 fX12_63 rfl (s_63_21 S) ?_
    refine z_iconst (pc := 616) (v := (nI 2)) dX12_plan_616 (by decide) ?_
    refine z_bipush (pc := 617) (v := (nI 52)) dX12_plan_617 (by decide) ?_
    refine z_iload_n (pc := 619) dX12_plan_619 rfl rfl ?_
    refine z_imul (pc := 620) dX12_plan_620 ?_
    refine z_iload_n (pc := 621) dX12_plan_621 rfl rfl ?_
    refine z_iadd (pc := 622) dX12_plan_622 ?_
    refine z_iload (pc := 623) dX12_plan_623 rfl ?_
    refine z_iadd (pc := 625) dX12_plan_625 ?_
    refine z_imul (pc := 626) dX12_plan_626 ?_
    refine z_aload_n (pc := 627) dX12_plan_627 rfl rfl ?_
    refine z_getk (pc := 628) dX12_plan_628 fX12_78 rfl (s_63_28 S) ?_
    refine z_bipush (pc := 631) (v := (nI 15)) dX12_plan_631 (by decide) ?_
    refine z_iload_n (pc := 633) dX12_plan_633 rfl rfl ?_
    refine z_imul (pc := 634) dX12_plan_634 ?_
    refine z_aload_n (pc := 635) dX12_plan_635 rfl rfl ?_
    refine z_getk (pc := 636) dX12_plan_636 fX12_105 rfl (s_63_37 S) ?_
    refine z_iload (pc := 639) dX12_plan_639 rfl ?_
    have c3 := H.1
    replace H := H.2
    refine z_iald (pc := 641) dX12_plan_641 c3 ?_
    refine z_iadd (pc := 642) dX12_plan_642 ?_
    have c4 := H.1
    replace H := H.2
    refine z_iald (pc := 643) dX12_plan_643 c4 ?_
    have c5 := H.1
    replace H := H.2
    refine z_iast (pc := 644) dX12_plan_644 c5 ?_
    refine z_aload_n (pc := 645) dX12_plan_645 rfl rfl ?_
    refine z_getk (pc := 646) dX12_plan_646 fX12_63 rfl (s_63_21 S) ?_
    refine z_iconst (pc := 649) (v := (nI 2)) dX12_plan_649 (by decide) ?_
    refine z_bipush (pc := 650) (v := (nI 52)) dX12_plan_650 (by decide) ?_
    refine z_iload_n (pc := 652) dX12_plan_652 rfl rfl ?_
    refine z_imul (pc := 653) dX12_plan_653 ?_
    refine z_iload_n (pc := 654) dX12_plan_654 rfl rfl ?_
    refine z_iadd (pc := 655) dX12_plan_655 ?_
    refine z_iload (pc := 656) dX12_plan_656 rfl ?_
    refine z_iadd (pc := 658) dX12_plan_658 ?_
    refine z_imul (pc := 659) dX12_plan_659 ?_
    refine z_iconst (pc := 660) (v := (nI 1)) dX12_plan_660 (by decide) ?_
    refine z_iadd (pc := 661) dX12_plan_661 ?_
    refine z_aload_n (pc := 662) dX12_plan_662 rfl rfl ?_
    refine z_getk (pc := 663) dX12_plan_663 fX12_81 rfl (s_63_29 S) ?_
    refine z_bipush (pc := 666) (v := (nI 15)) dX12_plan_666 (by decide) ?_
    refine z_iload_n (pc := 668) dX12_plan_668 rfl rfl ?_
    refine z_imul (pc := 669) dX12_plan_669 ?_
    refine z_aload_n (pc := 670) dX12_plan_670 rfl rfl ?_
    refine z_getk (pc := 671) dX12_plan_671 fX12_105 rfl (s_63_37 S) ?_
    refine z_iload (pc := 674) dX12_plan_674 rfl ?_
    refine z_iald (pc := 676) dX12_plan_676 c3 ?_
    refine z_iadd (pc := 677) dX12_plan_677 ?_
    refine z_iald (pc := 678) dX12_plan_678 c4 ?_
    have c6 := H.1
    replace H := H.2
    refine z_iast (pc := 679) dX12_plan_679 c6 ?_
    refine z_iinc (pc := 680) (v := (x9 + (nI 1))) (ls' := [some (.inr (some (0, 12, 63))), some (.inl x1), some (.inl x2), some (.inl x3), some (.inl x4), some (.inl x5), some (.inl x6), some (.inl x7), some (.inl x8), some (.inl (x9 + (nI 1))), none, none, none]) dX12_plan_680 rfl (by rw [show Int32.ofInt (1) = (nI 1) by decide]) rfl ?_
    refine z_goto (pc := 683) (tgt := 605) dX12_plan_683 (by decide) ?_
    exact H

abbrev LX12_weekSums_2 (l : Launch) (E : eE) (d bc bs : Nat) (x1 : Int32) (h : aH) (Q : aH → Prop) : Prop := TV l E mX12_weekSums d bc bs 2 [some (.inr (some (0, 12, 63))), some (.inl x1), none] [] h Q

abbrev LX12_weekSums_19 (l : Launch) (E : eE) (d bc bs : Nat) (x1 : Int32) (x2 : Int32) (h : aH) (Q : aH → Prop) : Prop := TV l E mX12_weekSums d bc bs 19 [some (.inr (some (0, 12, 63))), some (.inl x1), some (.inl x2)] [] h Q

set_option maxRecDepth 20000 in
theorem bX12_weekSums_0 {l : Launch} {E : eE} {d bc bs : Nat} {h : aH} {Q : aH → Prop}  (S : SH h) (H : LX12_weekSums_2 l E (d + 1) bc bs (nI 0) h Q) : CV l E (d + 1) bc bs mX12_weekSums [.inr (some (0, 12, 63))] h Q := by
  refine CV.of (by decide) rfl ?_
  show TV l E mX12_weekSums (d + 1) bc bs 0 [some (.inr (some (0, 12, 63))), none, none] [] h Q
  refine z_iconst (pc := 0) (v := (nI 0)) dX12_weekSums_0 (by decide) ?_
  refine z_istore_n (pc := 1) (ls' := [some (.inr (some (0, 12, 63))), some (.inl (nI 0)), none]) dX12_weekSums_1 rfl rfl rfl ?_
  exact H

set_option maxRecDepth 20000 in
theorem bX12_weekSums_2 {l : Launch} {E : eE} {d bc bs : Nat} {h : aH} {Q : aH → Prop} {x1 : Int32} (S : SH h) (H : (((hI h 63 3) ≤ x1 → Q h) ∧ (¬ (hI h 63 3) ≤ x1 → (vp_in x1 12 ∧ LX12_weekSums_19 l E (d + 1) bc bs x1 (nI 0) (stA h 88 (x1).toNatClampNeg (nI 0)) Q)))) : LX12_weekSums_2 l E (d + 1) bc bs x1 h Q := by
  refine z_iload_n (pc := 2) dX12_weekSums_2 rfl rfl ?_
  refine z_aload_n (pc := 3) dX12_weekSums_3 rfl rfl ?_
  refine z_geti (pc := 4) dX12_weekSums_4 fX12_123 rfl ?_
  refine z_icmp_ge (pc := 7) (tgt := 87) dX12_weekSums_7 (by decide) (fun c1 => ?_) (fun c1 => ?_)
  · replace H := H.1 c1
    exact z_ret (pc := 87) dX12_weekSums_87 rfl ⟨rfl, H⟩
  · replace H := H.2 c1
    refine z_aload_n (pc := 10) dX12_weekSums_10 rfl rfl ?_
    refine z_getk (pc := 11) dX12_weekSums_11 fX12_87 rfl (s_63_31 S) ?_
    refine z_iload_n (pc := 14) dX12_weekSums_14 rfl rfl ?_
    refine z_iconst (pc := 15) (v := (nI 0)) dX12_weekSums_15 (by decide) ?_
    have c2 := H.1
    replace H := H.2
    refine z_iast (pc := 16) dX12_weekSums_16 c2 ?_
    refine z_iconst (pc := 17) (v := (nI 0)) dX12_weekSums_17 (by decide) ?_
    refine z_istore_n (pc := 18) (ls' := [some (.inr (some (0, 12, 63))), some (.inl x1), some (.inl (nI 0))]) dX12_weekSums_18 rfl rfl rfl ?_
    exact H

set_option maxRecDepth 20000 in
theorem bX12_weekSums_19 {l : Launch} {E : eE} {d bc bs : Nat} {h : aH} {Q : aH → Prop} {x1 : Int32} {x2 : Int32} (S : SH h) (H : (((hI h 63 14) ≤ x2 → LX12_weekSums_2 l E (d + 1) bc bs (x1 + (nI 1)) h Q) ∧ (¬ (hI h 63 14) ≤ x2 → (vp_in x2 4 ∧ (((hA h 81 (x2).toNatClampNeg) = (-1) → LX12_weekSums_19 l E (d + 1) bc bs x1 (x2 + (nI 1)) h Q) ∧ (¬ (hA h 81 (x2).toNatClampNeg) = (-1) → (vp_in x1 12 ∧ (vp_in (((nI 12) * x2) + x1) 48 ∧ (CI l E d 0 0 mX12_priceOf [.inr (some (0, 12, 63)), .inl x1, .inl x2, .inl (hA h 81 (x2).toNatClampNeg), .inl (hA h 82 (x2).toNatClampNeg), .inl (hA h 83 ((((nI 12) * x2) + x1)).toNatClampNeg)] h (fun v6 h6 => SH h6 ∧ LX12_weekSums_19 l E (d + 1) bc bs x1 (x2 + (nI 1)) (stA h6 88 (x1).toNatClampNeg ((hA h 88 (x1).toNatClampNeg) + v6)) Q)))))))))) : LX12_weekSums_19 l E (d + 1) bc bs x1 x2 h Q := by
  refine z_iload_n (pc := 19) dX12_weekSums_19 rfl rfl ?_
  refine z_aload_n (pc := 20) dX12_weekSums_20 rfl rfl ?_
  refine z_geti (pc := 21) dX12_weekSums_21 fX12_126 rfl ?_
  refine z_icmp_ge (pc := 24) (tgt := 81) dX12_weekSums_24 (by decide) (fun c1 => ?_) (fun c1 => ?_)
  · replace H := H.1 c1
    refine z_iinc (pc := 81) (v := (x1 + (nI 1))) (ls' := [some (.inr (some (0, 12, 63))), some (.inl (x1 + (nI 1))), some (.inl x2)]) dX12_weekSums_81 rfl (by rw [show Int32.ofInt (1) = (nI 1) by decide]) rfl ?_
    refine z_goto (pc := 84) (tgt := 2) dX12_weekSums_84 (by decide) ?_
    exact z_drop (ls' := [some (.inr (some (0, 12, 63))), some (.inl (x1 + (nI 1))), none]) (by simp [dropL]) H
  · replace H := H.2 c1
    refine z_aload_n (pc := 27) dX12_weekSums_27 rfl rfl ?_
    refine z_getk (pc := 28) dX12_weekSums_28 fX12_66 rfl (s_63_24 S) ?_
    refine z_iload_n (pc := 31) dX12_weekSums_31 rfl rfl ?_
    have c2 := H.1
    replace H := H.2
    refine z_iald (pc := 32) dX12_weekSums_32 c2 ?_
    refine z_iconst (pc := 33) (v := (-1)) dX12_weekSums_33 (by decide) ?_
    refine z_icmp_eq (pc := 34) (tgt := 75) dX12_weekSums_34 (by decide) (fun c3 => ?_) (fun c3 => ?_)
    · replace H := H.1 c3
      refine z_iinc (pc := 75) (v := (x2 + (nI 1))) (ls' := [some (.inr (some (0, 12, 63))), some (.inl x1), some (.inl (x2 + (nI 1)))]) dX12_weekSums_75 rfl (by rw [show Int32.ofInt (1) = (nI 1) by decide]) rfl ?_
      refine z_goto (pc := 78) (tgt := 19) dX12_weekSums_78 (by decide) ?_
      exact H
    · replace H := H.2 c3
      refine z_aload_n (pc := 37) dX12_weekSums_37 rfl rfl ?_
      refine z_getk (pc := 38) dX12_weekSums_38 fX12_87 rfl (s_63_31 S) ?_
      refine z_iload_n (pc := 41) dX12_weekSums_41 rfl rfl ?_
      refine z_dup2 (pc := 42) dX12_weekSums_42 ?_
      have c4 := H.1
      replace H := H.2
      refine z_iald (pc := 43) dX12_weekSums_43 c4 ?_
      refine z_aload_n (pc := 44) dX12_weekSums_44 rfl rfl ?_
      refine z_iload_n (pc := 45) dX12_weekSums_45 rfl rfl ?_
      refine z_iload_n (pc := 46) dX12_weekSums_46 rfl rfl ?_
      refine z_aload_n (pc := 47) dX12_weekSums_47 rfl rfl ?_
      refine z_getk (pc := 48) dX12_weekSums_48 fX12_66 rfl (s_63_24 S) ?_
      refine z_iload_n (pc := 51) dX12_weekSums_51 rfl rfl ?_
      refine z_iald (pc := 52) dX12_weekSums_52 c2 ?_
      refine z_aload_n (pc := 53) dX12_weekSums_53 rfl rfl ?_
      refine z_getk (pc := 54) dX12_weekSums_54 fX12_69 rfl (s_63_25 S) ?_
      refine z_iload_n (pc := 57) dX12_weekSums_57 rfl rfl ?_
      refine z_iald (pc := 58) dX12_weekSums_58 c2 ?_
      refine z_aload_n (pc := 59) dX12_weekSums_59 rfl rfl ?_
      refine z_getk (pc := 60) dX12_weekSums_60 fX12_72 rfl (s_63_26 S) ?_
      refine z_bipush (pc := 63) (v := (nI 12)) dX12_weekSums_63 (by decide) ?_
      refine z_iload_n (pc := 65) dX12_weekSums_65 rfl rfl ?_
      refine z_imul (pc := 66) dX12_weekSums_66 ?_
      refine z_iload_n (pc := 67) dX12_weekSums_67 rfl rfl ?_
      refine z_iadd (pc := 68) dX12_weekSums_68 ?_
      have c5 := H.1
      replace H := H.2
      refine z_iald (pc := 69) dX12_weekSums_69 c5 ?_
      refine y_VI (pc := 70) (bc := bc) (bs := bs) (mc := 0) (ms := 0) (As := [.inl x1, .inl x2, .inl (hA h 81 (x2).toNatClampNeg), .inl (hA h 82 (x2).toNatClampNeg), .inl (hA h 83 ((((nI 12) * x2) + x1)).toNatClampNeg)]) (rest := [.inl (hA h 88 (x1).toNatClampNeg), .inl x1, .inr (some (1, 12, 88))]) dX12_weekSums_70 kX12_priceOf lX12_230 ⟨_, _, rfl⟩ rfl rfl (H.use (fun v6 h6 H => ?_))
      have S6 := H.1
      replace H := H.2
      refine z_iadd (pc := 73) dX12_weekSums_73 ?_
      refine z_iast (pc := 74) dX12_weekSums_74 c4 ?_
      refine z_iinc (pc := 75) (v := (x2 + (nI 1))) (ls' := [some (.inr (some (0, 12, 63))), some (.inl x1), some (.inl (x2 + (nI 1)))]) dX12_weekSums_75 rfl (by rw [show Int32.ofInt (1) = (nI 1) by decide]) rfl ?_
      refine z_goto (pc := 78) (tgt := 19) dX12_weekSums_78 (by decide) ?_
      exact H

abbrev LX12_takesChoice_68 (l : Launch) (E : eE) (d bc bs : Nat) (x1 : Int32) (x2 : Int32) (x3 : Int32) (x4 : Int32) (h : aH) (Q : Int32 → aH → Prop) : Prop := TI l E mX12_takesChoice d bc bs 68 [some (.inr (some (0, 12, 63))), some (.inl x1), some (.inl x2), some (.inl x3), some (.inl x4)] [] h Q

set_option maxRecDepth 20000 in
theorem bX12_takesChoice_0 {l : Launch} {E : eE} {d bc bs : Nat} {h : aH} {Q : Int32 → aH → Prop} {x1 : Int32} (S : SH h) (H : (CV l E d 0 0 mX12_asksFree [.inr (some (0, 12, 63)), .inl x1] h (fun h1 => SH h1 ∧ (vp_in x1 4 ∧ (vp_in (((nI 15) * x1) + (hA h1 95 (x1).toNatClampNeg)) 60 ∧ (CI l E d 0 0 mX12_fitsBy [.inr (some (0, 12, 63)), .inl x1, .inl (hA h1 85 ((((nI 15) * x1) + (hA h1 95 (x1).toNatClampNeg))).toNatClampNeg), .inl (hA h1 86 ((((nI 15) * x1) + (hA h1 95 (x1).toNatClampNeg))).toNatClampNeg)] h1 (fun v4 h4 => SH h4 ∧ ((¬ v4 = 0 → LX12_takesChoice_68 l E (d + 1) bc bs x1 (hA h1 85 ((((nI 15) * x1) + (hA h1 95 (x1).toNatClampNeg))).toNatClampNeg) (hA h1 86 ((((nI 15) * x1) + (hA h1 95 (x1).toNatClampNeg))).toNatClampNeg) (nI 0) (stA (stA h4 81 (x1).toNatClampNeg (hA h1 85 ((((nI 15) * x1) + (hA h1 95 (x1).toNatClampNeg))).toNatClampNeg)) 82 (x1).toNatClampNeg (hA h1 86 ((((nI 15) * x1) + (hA h1 95 (x1).toNatClampNeg))).toNatClampNeg)) Q) ∧ (v4 = 0 → Q (nI 0) h4))))))))) : CI l E (d + 1) bc bs mX12_takesChoice [.inr (some (0, 12, 63)), .inl x1] h Q := by
  refine CI.of (by decide) rfl ?_
  show TI l E mX12_takesChoice (d + 1) bc bs 0 [some (.inr (some (0, 12, 63))), some (.inl x1), none, none, none] [] h Q
  refine z_aload_n (pc := 0) dX12_takesChoice_0 rfl rfl ?_
  refine z_iload_n (pc := 1) dX12_takesChoice_1 rfl rfl ?_
  refine y_VV (pc := 2) (bc := bc) (bs := bs) (mc := 0) (ms := 0) (As := [.inl x1]) (rest := []) dX12_takesChoice_2 kX12_asksFree lX12_201 ⟨_, _, rfl⟩ rfl rfl (H.use (fun h1 H => ?_))
  have S1 := H.1
  replace H := H.2
  refine z_aload_n (pc := 5) dX12_takesChoice_5 rfl rfl ?_
  refine z_getk (pc := 6) dX12_takesChoice_6 fX12_78 rfl (s_63_28 S1) ?_
  refine z_bipush (pc := 9) (v := (nI 15)) dX12_takesChoice_9 (by decide) ?_
  refine z_iload_n (pc := 11) dX12_takesChoice_11 rfl rfl ?_
  refine z_imul (pc := 12) dX12_takesChoice_12 ?_
  refine z_aload_n (pc := 13) dX12_takesChoice_13 rfl rfl ?_
  refine z_getk (pc := 14) dX12_takesChoice_14 fX12_108 rfl (s_63_39 S1) ?_
  refine z_iload_n (pc := 17) dX12_takesChoice_17 rfl rfl ?_
  have c2 := H.1
  replace H := H.2
  refine z_iald (pc := 18) dX12_takesChoice_18 c2 ?_
  refine z_iadd (pc := 19) dX12_takesChoice_19 ?_
  have c3 := H.1
  replace H := H.2
  refine z_iald (pc := 20) dX12_takesChoice_20 c3 ?_
  refine z_istore_n (pc := 21) (ls' := [some (.inr (some (0, 12, 63))), some (.inl x1), some (.inl (hA h1 85 ((((nI 15) * x1) + (hA h1 95 (x1).toNatClampNeg))).toNatClampNeg)), none, none]) dX12_takesChoice_21 rfl rfl rfl ?_
  refine z_aload_n (pc := 22) dX12_takesChoice_22 rfl rfl ?_
  refine z_getk (pc := 23) dX12_takesChoice_23 fX12_81 rfl (s_63_29 S1) ?_
  refine z_bipush (pc := 26) (v := (nI 15)) dX12_takesChoice_26 (by decide) ?_
  refine z_iload_n (pc := 28) dX12_takesChoice_28 rfl rfl ?_
  refine z_imul (pc := 29) dX12_takesChoice_29 ?_
  refine z_aload_n (pc := 30) dX12_takesChoice_30 rfl rfl ?_
  refine z_getk (pc := 31) dX12_takesChoice_31 fX12_108 rfl (s_63_39 S1) ?_
  refine z_iload_n (pc := 34) dX12_takesChoice_34 rfl rfl ?_
  refine z_iald (pc := 35) dX12_takesChoice_35 c2 ?_
  refine z_iadd (pc := 36) dX12_takesChoice_36 ?_
  refine z_iald (pc := 37) dX12_takesChoice_37 c3 ?_
  refine z_istore_n (pc := 38) (ls' := [some (.inr (some (0, 12, 63))), some (.inl x1), some (.inl (hA h1 85 ((((nI 15) * x1) + (hA h1 95 (x1).toNatClampNeg))).toNatClampNeg)), some (.inl (hA h1 86 ((((nI 15) * x1) + (hA h1 95 (x1).toNatClampNeg))).toNatClampNeg)), none]) dX12_takesChoice_38 rfl rfl rfl ?_
  refine z_aload_n (pc := 39) dX12_takesChoice_39 rfl rfl ?_
  refine z_iload_n (pc := 40) dX12_takesChoice_40 rfl rfl ?_
  refine z_iload_n (pc := 41) dX12_takesChoice_41 rfl rfl ?_
  refine z_iload_n (pc := 42) dX12_takesChoice_42 rfl rfl ?_
  refine y_VI (pc := 43) (bc := bc) (bs := bs) (mc := 0) (ms := 0) (As := [.inl x1, .inl (hA h1 85 ((((nI 15) * x1) + (hA h1 95 (x1).toNatClampNeg))).toNatClampNeg), .inl (hA h1 86 ((((nI 15) * x1) + (hA h1 95 (x1).toNatClampNeg))).toNatClampNeg)]) (rest := []) dX12_takesChoice_43 kX12_fitsBy lX12_221 ⟨_, _, rfl⟩ rfl rfl (H.use (fun v4 h4 H => ?_))
  have S4 := H.1
  replace H := H.2
  refine z_if_ne (pc := 46) (tgt := 51) dX12_takesChoice_46 (by decide) (fun c5 => ?_) (fun c5 => ?_)
  · replace H := H.1 c5
    refine z_aload_n (pc := 51) dX12_takesChoice_51 rfl rfl ?_
    refine z_getk (pc := 52) dX12_takesChoice_52 fX12_66 rfl (s_63_24 S4) ?_
    refine z_iload_n (pc := 55) dX12_takesChoice_55 rfl rfl ?_
    refine z_iload_n (pc := 56) dX12_takesChoice_56 rfl rfl ?_
    refine z_iast (pc := 57) dX12_takesChoice_57 c2 ?_
    refine z_aload_n (pc := 58) dX12_takesChoice_58 rfl rfl ?_
    refine z_getk (pc := 59) dX12_takesChoice_59 fX12_69 rfl (s_63_25 S4) ?_
    refine z_iload_n (pc := 62) dX12_takesChoice_62 rfl rfl ?_
    refine z_iload_n (pc := 63) dX12_takesChoice_63 rfl rfl ?_
    refine z_iast (pc := 64) dX12_takesChoice_64 c2 ?_
    refine z_iconst (pc := 65) (v := (nI 0)) dX12_takesChoice_65 (by decide) ?_
    refine z_istore (pc := 66) (ls' := [some (.inr (some (0, 12, 63))), some (.inl x1), some (.inl (hA h1 85 ((((nI 15) * x1) + (hA h1 95 (x1).toNatClampNeg))).toNatClampNeg)), some (.inl (hA h1 86 ((((nI 15) * x1) + (hA h1 95 (x1).toNatClampNeg))).toNatClampNeg)), some (.inl (nI 0))]) dX12_takesChoice_66 rfl rfl ?_
    exact H
  · replace H := H.2 c5
    refine z_iconst (pc := 49) (v := (nI 0)) dX12_takesChoice_49 (by decide) ?_
    exact z_iret (pc := 50) dX12_takesChoice_50 rfl rfl ⟨_, rfl, H⟩

set_option maxRecDepth 20000 in
theorem bX12_takesChoice_68 {l : Launch} {E : eE} {d bc bs : Nat} {h : aH} {Q : Int32 → aH → Prop} {x1 : Int32} {x2 : Int32} {x3 : Int32} {x4 : Int32} (S : SH h) (H : (((nI 12) ≤ x4 → Q (nI 1) h) ∧ (¬ (nI 12) ≤ x4 → (((hI h 63 3) ≤ x4 → (vp_in (((nI 12) * x1) + x4) 48 ∧ LX12_takesChoice_68 l E (d + 1) bc bs x1 x2 x3 (x4 + (nI 1)) (stA h 83 ((((nI 12) * x1) + x4)).toNatClampNeg (nI 0)) Q)) ∧ (¬ (hI h 63 3) ≤ x4 → (CI l E d 0 0 mX12_comesTo [.inr (some (0, 12, 63)), .inl x4, .inl x1, .inl x2, .inl x3] h (fun v4 h4 => SH h4 ∧ (vp_in (((nI 12) * x1) + x4) 48 ∧ LX12_takesChoice_68 l E (d + 1) bc bs x1 x2 x3 (x4 + (nI 1)) (stA h4 83 ((((nI 12) * x1) + x4)).toNatClampNeg v4) Q)))))))) : LX12_takesChoice_68 l E (d + 1) bc bs x1 x2 x3 x4 h Q := by
  refine z_iload (pc := 68) dX12_takesChoice_68 rfl ?_
  refine z_bipush (pc := 70) (v := (nI 12)) dX12_takesChoice_70 (by decide) ?_
  refine z_icmp_ge (pc := 72) (tgt := 115) dX12_takesChoice_72 (by decide) (fun c1 => ?_) (fun c1 => ?_)
  · replace H := H.1 c1
    refine z_iconst (pc := 115) (v := (nI 1)) dX12_takesChoice_115 (by decide) ?_
    exact z_iret (pc := 116) dX12_takesChoice_116 rfl rfl ⟨_, rfl, H⟩
  · replace H := H.2 c1
    refine z_aload_n (pc := 75) dX12_takesChoice_75 rfl rfl ?_
    refine z_getk (pc := 76) dX12_takesChoice_76 fX12_72 rfl (s_63_26 S) ?_
    refine z_bipush (pc := 79) (v := (nI 12)) dX12_takesChoice_79 (by decide) ?_
    refine z_iload_n (pc := 81) dX12_takesChoice_81 rfl rfl ?_
    refine z_imul (pc := 82) dX12_takesChoice_82 ?_
    refine z_iload (pc := 83) dX12_takesChoice_83 rfl ?_
    refine z_iadd (pc := 85) dX12_takesChoice_85 ?_
    refine z_iload (pc := 86) dX12_takesChoice_86 rfl ?_
    refine z_aload_n (pc := 88) dX12_takesChoice_88 rfl rfl ?_
    refine z_geti (pc := 89) dX12_takesChoice_89 fX12_123 rfl ?_
    refine z_icmp_ge (pc := 92) (tgt := 107) dX12_takesChoice_92 (by decide) (fun c2 => ?_) (fun c2 => ?_)
    · replace H := H.1 c2
      refine z_iconst (pc := 107) (v := (nI 0)) dX12_takesChoice_107 (by decide) ?_
      have c3 := H.1
      replace H := H.2
      refine z_iast (pc := 108) dX12_takesChoice_108 c3 ?_
      refine z_iinc (pc := 109) (v := (x4 + (nI 1))) (ls' := [some (.inr (some (0, 12, 63))), some (.inl x1), some (.inl x2), some (.inl x3), some (.inl (x4 + (nI 1)))]) dX12_takesChoice_109 rfl (by rw [show Int32.ofInt (1) = (nI 1) by decide]) rfl ?_
      refine z_goto (pc := 112) (tgt := 68) dX12_takesChoice_112 (by decide) ?_
      exact H
    · replace H := H.2 c2
      refine z_aload_n (pc := 95) dX12_takesChoice_95 rfl rfl ?_
      refine z_iload (pc := 96) dX12_takesChoice_96 rfl ?_
      refine z_iload_n (pc := 98) dX12_takesChoice_98 rfl rfl ?_
      refine z_iload_n (pc := 99) dX12_takesChoice_99 rfl rfl ?_
      refine z_iload_n (pc := 100) dX12_takesChoice_100 rfl rfl ?_
      refine y_VI (pc := 101) (bc := bc) (bs := bs) (mc := 0) (ms := 0) (As := [.inl x4, .inl x1, .inl x2, .inl x3]) (rest := [.inl (((nI 12) * x1) + x4), .inr (some (1, 48, 83))]) dX12_takesChoice_101 kX12_comesTo lX12_205 ⟨_, _, rfl⟩ rfl rfl (H.use (fun v4 h4 H => ?_))
      have S4 := H.1
      replace H := H.2
      refine z_goto (pc := 104) (tgt := 108) dX12_takesChoice_104 (by decide) ?_
      have c5 := H.1
      replace H := H.2
      refine z_iast (pc := 108) dX12_takesChoice_108 c5 ?_
      refine z_iinc (pc := 109) (v := (x4 + (nI 1))) (ls' := [some (.inr (some (0, 12, 63))), some (.inl x1), some (.inl x2), some (.inl x3), some (.inl (x4 + (nI 1)))]) dX12_takesChoice_109 rfl (by rw [show Int32.ofInt (1) = (nI 1) by decide]) rfl ?_
      refine z_goto (pc := 112) (tgt := 68) dX12_takesChoice_112 (by decide) ?_
      exact H

abbrev LX12_move_26 (l : Launch) (E : eE) (d bc bs : Nat) (x1 : Int32) (x2 : Int32) (x3 : Int32) (h : aH) (Q : Int32 → aH → Prop) : Prop := TI l E mX12_move d bc bs 26 [some (.inr (some (0, 12, 63))), some (.inl x1), some (.inl x2), some (.inl x3), none, none, none] [] h Q

abbrev LX12_move_65 (l : Launch) (E : eE) (d bc bs : Nat) (x1 : Int32) (x2 : Int32) (x3 : Int32) (x4 : Int32) (h : aH) (Q : Int32 → aH → Prop) : Prop := TI l E mX12_move d bc bs 65 [some (.inr (some (0, 12, 63))), some (.inl x1), some (.inl x2), some (.inl x3), some (.inl x4), none, none] [] h Q

abbrev LX12_move_99 (l : Launch) (E : eE) (d bc bs : Nat) (x1 : Int32) (x2 : Int32) (x3 : Int32) (h : aH) (Q : Int32 → aH → Prop) : Prop := TI l E mX12_move d bc bs 99 [some (.inr (some (0, 12, 63))), some (.inl x1), some (.inl x2), some (.inl x3), none, none, none] [] h Q

abbrev LX12_move_126 (l : Launch) (E : eE) (d bc bs : Nat) (x1 : Int32) (x2 : Int32) (x3 : Int32) (x4 : Int32) (x5 : Int32) (h : aH) (Q : Int32 → aH → Prop) : Prop := TI l E mX12_move d bc bs 126 [some (.inr (some (0, 12, 63))), some (.inl x1), some (.inl x2), some (.inl x3), some (.inl x4), some (.inl x5), none] [] h Q

abbrev LX12_move_146 (l : Launch) (E : eE) (d bc bs : Nat) (x1 : Int32) (x2 : Int32) (x3 : Int32) (x4 : Int32) (x5 : Int32) (x6 : Int32) (h : aH) (Q : Int32 → aH → Prop) : Prop := TI l E mX12_move d bc bs 146 [some (.inr (some (0, 12, 63))), some (.inl x1), some (.inl x2), some (.inl x3), some (.inl x4), some (.inl x5), some (.inl x6)] [] h Q

abbrev LX12_move_240 (l : Launch) (E : eE) (d bc bs : Nat) (x1 : Int32) (x2 : Int32) (x3 : Int32) (x4 : Int32) (x5 : Int32) (x6 : Int32) (h : aH) (Q : Int32 → aH → Prop) : Prop := TI l E mX12_move d bc bs 240 [some (.inr (some (0, 12, 63))), some (.inl x1), some (.inl x2), some (.inl x3), some (.inl x4), some (.inl x5), some (.inl x6)] [] h Q

abbrev LX12_move_399 (l : Launch) (E : eE) (d bc bs : Nat) (x1 : Int32) (x2 : Int32) (x3 : Int32) (x4 : Int32) (x5 : Int32) (x6 : Int32) (h : aH) (Q : Int32 → aH → Prop) : Prop := TI l E mX12_move d bc bs 399 [some (.inr (some (0, 12, 63))), some (.inl x1), some (.inl x2), some (.inl x3), some (.inl x4), some (.inl x5), some (.inl x6)] [] h Q

set_option maxRecDepth 20000 in
theorem bX12_move_0 {l : Launch} {E : eE} {d bc bs : Nat} {h : aH} {Q : Int32 → aH → Prop} {x1 : Int32} {x2 : Int32} (S : SH h) (H : ((¬ (0 ≤ (x1).toInt ∧ (x1).toInt < 52) → Q (-2) h) ∧ ((0 ≤ (x1).toInt ∧ (x1).toInt < 52) → (((0 ≤ (x2).toInt ∧ (x2).toInt ≤ (hI h 63 8).toInt) → (CV l E d 0 0 mX12_takesWeek [.inr (some (0, 12, 63)), .inl x1, .inl x2] h (fun h3 => SH h3 ∧ LX12_move_26 l E (d + 1) bc bs x1 x2 (nI 0) h3 Q))) ∧ (¬ (0 ≤ (x2).toInt ∧ (x2).toInt ≤ (hI h 63 8).toInt) → Q (-2) h))))) : CI l E (d + 1) bc bs mX12_move [.inr (some (0, 12, 63)), .inl x1, .inl x2] h Q := by
  refine CI.of (by decide) rfl ?_
  show TI l E mX12_move (d + 1) bc bs 0 [some (.inr (some (0, 12, 63))), some (.inl x1), some (.inl x2), none, none, none, none] [] h Q
  refine z_iload_n (pc := 0) dX12_move_0 rfl rfl ?_
  refine y_SI (pc := 1) (bc := bc) (bs := bs) (mc := 0) (ms := 0) (As := [.inl x1]) (rest := []) dX12_move_1 kX12_isWeek lX12_149 rfl rfl (c_isWeek S ?_)
  refine z_if_eq (pc := 4) (tgt := 15) dX12_move_4 (by decide) (fun c1 => ?_) (fun c1 => ?_)
  · replace H := H.1 (bI0.mp c1)
    refine z_bipush (pc := 15) (v := (-2)) dX12_move_15 (by decide) ?_
    exact z_iret (pc := 17) dX12_move_17 rfl rfl ⟨_, rfl, H⟩
  · replace H := H.2 (bI1.mp c1)
    refine z_aload_n (pc := 7) dX12_move_7 rfl rfl ?_
    refine z_iload_n (pc := 8) dX12_move_8 rfl rfl ?_
    refine y_VI (pc := 9) (bc := bc) (bs := bs) (mc := 0) (ms := 0) (As := [.inl x2]) (rest := []) dX12_move_9 kX12_isKnown lX12_152 ⟨_, _, rfl⟩ rfl rfl (c_isKnown S ?_)
    refine z_if_ne (pc := 12) (tgt := 18) dX12_move_12 (by decide) (fun c2 => ?_) (fun c2 => ?_)
    · replace H := H.1 (bI1.mp c2)
      refine z_aload_n (pc := 18) dX12_move_18 rfl rfl ?_
      refine z_iload_n (pc := 19) dX12_move_19 rfl rfl ?_
      refine z_iload_n (pc := 20) dX12_move_20 rfl rfl ?_
      refine y_VV (pc := 21) (bc := bc) (bs := bs) (mc := 0) (ms := 0) (As := [.inl x1, .inl x2]) (rest := []) dX12_move_21 kX12_takesWeek lX12_214 ⟨_, _, rfl⟩ rfl rfl (H.use (fun h3 H => ?_))
      have S3 := H.1
      replace H := H.2
      refine z_iconst (pc := 24) (v := (nI 0)) dX12_move_24 (by decide) ?_
      refine z_istore_n (pc := 25) (ls' := [some (.inr (some (0, 12, 63))), some (.inl x1), some (.inl x2), some (.inl (nI 0)), none, none, none]) dX12_move_25 rfl rfl rfl ?_
      exact H
    · replace H := H.2 (bI0.mp c2)
      refine z_bipush (pc := 15) (v := (-2)) dX12_move_15 (by decide) ?_
      exact z_iret (pc := 17) dX12_move_17 rfl rfl ⟨_, rfl, H⟩

set_option maxRecDepth 20000 in
theorem bX12_move_26 {l : Launch} {E : eE} {d bc bs : Nat} {h : aH} {Q : Int32 → aH → Prop} {x1 : Int32} {x2 : Int32} {x3 : Int32} (S : SH h) (H : (((nI 4) ≤ x3 → LX12_move_99 l E (d + 1) bc bs x1 x2 (nI 0) h Q) ∧ (¬ (nI 4) ≤ x3 → (vp_in x3 4 ∧ LX12_move_65 l E (d + 1) bc bs x1 x2 x3 (nI 0) (stA (stA (stA h 97 (x3).toNatClampNeg (hA h 81 (x3).toNatClampNeg)) 98 (x3).toNatClampNeg (hA h 82 (x3).toNatClampNeg)) 95 (x3).toNatClampNeg (-1)) Q)))) : LX12_move_26 l E (d + 1) bc bs x1 x2 x3 h Q := by
  refine z_iload_n (pc := 26) dX12_move_26 rfl rfl ?_
  refine z_iconst (pc := 27) (v := (nI 4)) dX12_move_27 (by decide) ?_
  refine z_icmp_ge (pc := 28) (tgt := 97) dX12_move_28 (by decide) (fun c1 => ?_) (fun c1 => ?_)
  · replace H := H.1 c1
    refine z_iconst (pc := 97) (v := (nI 0)) dX12_move_97 (by decide) ?_
    refine z_istore_n (pc := 98) (ls' := [some (.inr (some (0, 12, 63))), some (.inl x1), some (.inl x2), some (.inl (nI 0)), none, none, none]) dX12_move_98 rfl rfl rfl ?_
    exact H
  · replace H := H.2 c1
    refine z_aload_n (pc := 31) dX12_move_31 rfl rfl ?_
    refine z_getk (pc := 32) dX12_move_32 fX12_114 rfl (s_63_41 S) ?_
    refine z_iload_n (pc := 35) dX12_move_35 rfl rfl ?_
    refine z_aload_n (pc := 36) dX12_move_36 rfl rfl ?_
    refine z_getk (pc := 37) dX12_move_37 fX12_66 rfl (s_63_24 S) ?_
    refine z_iload_n (pc := 40) dX12_move_40 rfl rfl ?_
    have c2 := H.1
    replace H := H.2
    refine z_iald (pc := 41) dX12_move_41 c2 ?_
    refine z_iast (pc := 42) dX12_move_42 c2 ?_
    refine z_aload_n (pc := 43) dX12_move_43 rfl rfl ?_
    refine z_getk (pc := 44) dX12_move_44 fX12_117 rfl (s_63_42 S) ?_
    refine z_iload_n (pc := 47) dX12_move_47 rfl rfl ?_
    refine z_aload_n (pc := 48) dX12_move_48 rfl rfl ?_
    refine z_getk (pc := 49) dX12_move_49 fX12_69 rfl (s_63_25 S) ?_
    refine z_iload_n (pc := 52) dX12_move_52 rfl rfl ?_
    refine z_iald (pc := 53) dX12_move_53 c2 ?_
    refine z_iast (pc := 54) dX12_move_54 c2 ?_
    refine z_aload_n (pc := 55) dX12_move_55 rfl rfl ?_
    refine z_getk (pc := 56) dX12_move_56 fX12_108 rfl (s_63_39 S) ?_
    refine z_iload_n (pc := 59) dX12_move_59 rfl rfl ?_
    refine z_iconst (pc := 60) (v := (-1)) dX12_move_60 (by decide) ?_
    refine z_iast (pc := 61) dX12_move_61 c2 ?_
    refine z_iconst (pc := 62) (v := (nI 0)) dX12_move_62 (by decide) ?_
    refine z_istore (pc := 63) (ls' := [some (.inr (some (0, 12, 63))), some (.inl x1), some (.inl x2), some (.inl x3), some (.inl (nI 0)), none, none]) dX12_move_63 rfl rfl ?_
    exact H

set_option maxRecDepth 20000 in
theorem bX12_move_65 {l : Launch} {E : eE} {d bc bs : Nat} {h : aH} {Q : Int32 → aH → Prop} {x1 : Int32} {x2 : Int32} {x3 : Int32} {x4 : Int32} (S : SH h) (H : (((nI 12) ≤ x4 → LX12_move_26 l E (d + 1) bc bs x1 x2 (x3 + (nI 1)) h Q) ∧ (¬ (nI 12) ≤ x4 → (vp_in (((nI 12) * x3) + x4) 48 ∧ LX12_move_65 l E (d + 1) bc bs x1 x2 x3 (x4 + (nI 1)) (stA h 83 ((((nI 12) * x3) + x4)).toNatClampNeg (nI 0)) Q)))) : LX12_move_65 l E (d + 1) bc bs x1 x2 x3 x4 h Q := by
  refine z_iload (pc := 65) dX12_move_65 rfl ?_
  refine z_bipush (pc := 67) (v := (nI 12)) dX12_move_67 (by decide) ?_
  refine z_icmp_ge (pc := 69) (tgt := 91) dX12_move_69 (by decide) (fun c1 => ?_) (fun c1 => ?_)
  · replace H := H.1 c1
    refine z_iinc (pc := 91) (v := (x3 + (nI 1))) (ls' := [some (.inr (some (0, 12, 63))), some (.inl x1), some (.inl x2), some (.inl (x3 + (nI 1))), some (.inl x4), none, none]) dX12_move_91 rfl (by rw [show Int32.ofInt (1) = (nI 1) by decide]) rfl ?_
    refine z_goto (pc := 94) (tgt := 26) dX12_move_94 (by decide) ?_
    exact z_drop (ls' := [some (.inr (some (0, 12, 63))), some (.inl x1), some (.inl x2), some (.inl (x3 + (nI 1))), none, none, none]) (by simp [dropL]) H
  · replace H := H.2 c1
    refine z_aload_n (pc := 72) dX12_move_72 rfl rfl ?_
    refine z_getk (pc := 73) dX12_move_73 fX12_72 rfl (s_63_26 S) ?_
    refine z_bipush (pc := 76) (v := (nI 12)) dX12_move_76 (by decide) ?_
    refine z_iload_n (pc := 78) dX12_move_78 rfl rfl ?_
    refine z_imul (pc := 79) dX12_move_79 ?_
    refine z_iload (pc := 80) dX12_move_80 rfl ?_
    refine z_iadd (pc := 82) dX12_move_82 ?_
    refine z_iconst (pc := 83) (v := (nI 0)) dX12_move_83 (by decide) ?_
    have c2 := H.1
    replace H := H.2
    refine z_iast (pc := 84) dX12_move_84 c2 ?_
    refine z_iinc (pc := 85) (v := (x4 + (nI 1))) (ls' := [some (.inr (some (0, 12, 63))), some (.inl x1), some (.inl x2), some (.inl x3), some (.inl (x4 + (nI 1))), none, none]) dX12_move_85 rfl (by rw [show Int32.ofInt (1) = (nI 1) by decide]) rfl ?_
    refine z_goto (pc := 88) (tgt := 65) dX12_move_88 (by decide) ?_
    exact H

set_option maxRecDepth 20000 in
theorem bX12_move_99 {l : Launch} {E : eE} {d bc bs : Nat} {h : aH} {Q : Int32 → aH → Prop} {x1 : Int32} {x2 : Int32} {x3 : Int32} (S : SH h) (H : (((hI h 63 14) ≤ x3 → LX12_move_126 l E (d + 1) bc bs x1 x2 (-1) (nI 0) (nI 0) h Q) ∧ (¬ (hI h 63 14) ≤ x3 → (CV l E d 0 0 mX12_lists [.inr (some (0, 12, 63)), .inl x3] h (fun h2 => SH h2 ∧ LX12_move_99 l E (d + 1) bc bs x1 x2 (x3 + (nI 1)) h2 Q))))) : LX12_move_99 l E (d + 1) bc bs x1 x2 x3 h Q := by
  refine z_iload_n (pc := 99) dX12_move_99 rfl rfl ?_
  refine z_aload_n (pc := 100) dX12_move_100 rfl rfl ?_
  refine z_geti (pc := 101) dX12_move_101 fX12_126 rfl ?_
  refine z_icmp_ge (pc := 104) (tgt := 118) dX12_move_104 (by decide) (fun c1 => ?_) (fun c1 => ?_)
  · replace H := H.1 c1
    refine z_iconst (pc := 118) (v := (-1)) dX12_move_118 (by decide) ?_
    refine z_istore_n (pc := 119) (ls' := [some (.inr (some (0, 12, 63))), some (.inl x1), some (.inl x2), some (.inl (-1)), none, none, none]) dX12_move_119 rfl rfl rfl ?_
    refine z_iconst (pc := 120) (v := (nI 0)) dX12_move_120 (by decide) ?_
    refine z_istore (pc := 121) (ls' := [some (.inr (some (0, 12, 63))), some (.inl x1), some (.inl x2), some (.inl (-1)), some (.inl (nI 0)), none, none]) dX12_move_121 rfl rfl ?_
    refine z_iconst (pc := 123) (v := (nI 0)) dX12_move_123 (by decide) ?_
    refine z_istore (pc := 124) (ls' := [some (.inr (some (0, 12, 63))), some (.inl x1), some (.inl x2), some (.inl (-1)), some (.inl (nI 0)), some (.inl (nI 0)), none]) dX12_move_124 rfl rfl ?_
    exact H
  · replace H := H.2 c1
    refine z_aload_n (pc := 107) dX12_move_107 rfl rfl ?_
    refine z_iload_n (pc := 108) dX12_move_108 rfl rfl ?_
    refine y_VV (pc := 109) (bc := bc) (bs := bs) (mc := 0) (ms := 0) (As := [.inl x3]) (rest := []) dX12_move_109 kX12_lists lX12_224 ⟨_, _, rfl⟩ rfl rfl (H.use (fun h2 H => ?_))
    have S2 := H.1
    replace H := H.2
    refine z_iinc (pc := 112) (v := (x3 + (nI 1))) (ls' := [some (.inr (some (0, 12, 63))), some (.inl x1), some (.inl x2), some (.inl (x3 + (nI 1))), none, none, none]) dX12_move_112 rfl (by rw [show Int32.ofInt (1) = (nI 1) by decide]) rfl ?_
    refine z_goto (pc := 115) (tgt := 99) dX12_move_115 (by decide) ?_
    exact H

set_option maxRecDepth 20000 in
theorem bX12_move_126 {l : Launch} {E : eE} {d bc bs : Nat} {h : aH} {Q : Int32 → aH → Prop} {x1 : Int32} {x2 : Int32} {x3 : Int32} {x4 : Int32} {x5 : Int32} (S : SH h) (H : ((x4 < 0 → ((¬ x3 = (-1) → LX12_move_399 l E (d + 1) bc bs x1 x2 x3 x4 x5 (nI 0) h Q) ∧ (x3 = (-1) → Q (-1) h))) ∧ (¬ x4 < 0 → ((¬ x4 = (hI h 63 14) → (vp_in x4 4 ∧ ((¬ (hA h 97 (x4).toNatClampNeg) = (-1) → ((¬ (hA (stA h 95 (x4).toNatClampNeg ((hA h 95 (x4).toNatClampNeg) + (nI 1))) 95 (x4).toNatClampNeg) = (hA h 87 (x4).toNatClampNeg) → (CI l E d 0 0 mX12_takesChoice [.inr (some (0, 12, 63)), .inl x4] (stA h 95 (x4).toNatClampNeg ((hA h 95 (x4).toNatClampNeg) + (nI 1))) (fun v7 h7 => SH h7 ∧ ((v7 = 0 → LX12_move_126 l E (d + 1) bc bs x1 x2 x3 x4 x5 h7 Q) ∧ (¬ v7 = 0 → LX12_move_126 l E (d + 1) bc bs x1 x2 x3 (x4 + (nI 1)) x5 h7 Q))))) ∧ ((hA (stA h 95 (x4).toNatClampNeg ((hA h 95 (x4).toNatClampNeg) + (nI 1))) 95 (x4).toNatClampNeg) = (hA h 87 (x4).toNatClampNeg) → LX12_move_126 l E (d + 1) bc bs x1 x2 x3 (x4 + (-1)) x5 (stA (stA h 95 (x4).toNatClampNeg ((hA h 95 (x4).toNatClampNeg) + (nI 1))) 95 (x4).toNatClampNeg (-1)) Q))) ∧ ((hA h 97 (x4).toNatClampNeg) = (-1) → ((¬ (hA h 95 (x4).toNatClampNeg) = (-1) → ((¬ (hA (stA h 95 (x4).toNatClampNeg (-1)) 95 (x4).toNatClampNeg) = 0 → LX12_move_126 l E (d + 1) bc bs x1 x2 x3 (x4 + (-1)) x5 (stA h 95 (x4).toNatClampNeg (-1)) Q) ∧ ((hA (stA h 95 (x4).toNatClampNeg (-1)) 95 (x4).toNatClampNeg) = 0 → LX12_move_126 l E (d + 1) bc bs x1 x2 x3 (x4 + (nI 1)) x5 (stA h 95 (x4).toNatClampNeg (-1)) Q))) ∧ ((hA h 95 (x4).toNatClampNeg) = (-1) → ((¬ (hA (stA h 95 (x4).toNatClampNeg (nI 0)) 95 (x4).toNatClampNeg) = 0 → LX12_move_126 l E (d + 1) bc bs x1 x2 x3 (x4 + (-1)) x5 (stA h 95 (x4).toNatClampNeg (nI 0)) Q) ∧ ((hA (stA h 95 (x4).toNatClampNeg (nI 0)) 95 (x4).toNatClampNeg) = 0 → LX12_move_126 l E (d + 1) bc bs x1 x2 x3 (x4 + (nI 1)) x5 (stA h 95 (x4).toNatClampNeg (nI 0)) Q)))))))) ∧ (x4 = (hI h 63 14) → LX12_move_146 l E (d + 1) bc bs x1 x2 x3 x4 (nI 0) (nI 0) h Q))))) : LX12_move_126 l E (d + 1) bc bs x1 x2 x3 x4 x5 h Q := by
  refine z_iload (pc := 126) dX12_move_126 rfl ?_
  refine z_if_lt (pc := 128) (tgt := 389) dX12_move_128 (by decide) (fun c1 => ?_) (fun c1 => ?_)
  · replace H := H.1 c1
    refine z_iload_n (pc := 389) dX12_move_389 rfl rfl ?_
    refine z_iconst (pc := 390) (v := (-1)) dX12_move_390 (by decide) ?_
    refine z_icmp_ne (pc := 391) (tgt := 396) dX12_move_391 (by decide) (fun c2 => ?_) (fun c2 => ?_)
    · replace H := H.1 c2
      refine z_iconst (pc := 396) (v := (nI 0)) dX12_move_396 (by decide) ?_
      refine z_istore (pc := 397) (ls' := [some (.inr (some (0, 12, 63))), some (.inl x1), some (.inl x2), some (.inl x3), some (.inl x4), some (.inl x5), some (.inl (nI 0))]) dX12_move_397 rfl rfl ?_
      exact H
    · replace H := H.2 c2
      refine z_iconst (pc := 394) (v := (-1)) dX12_move_394 (by decide) ?_
      exact z_iret (pc := 395) dX12_move_395 rfl rfl ⟨_, rfl, H⟩
  · replace H := H.2 c1
    refine z_iload (pc := 131) dX12_move_131 rfl ?_
    refine z_aload_n (pc := 133) dX12_move_133 rfl rfl ?_
    refine z_geti (pc := 134) dX12_move_134 fX12_126 rfl ?_
    refine z_icmp_ne (pc := 137) (tgt := 275) dX12_move_137 (by decide) (fun c3 => ?_) (fun c3 => ?_)
    · replace H := H.1 c3
      refine z_aload_n (pc := 275) dX12_move_275 rfl rfl ?_
      refine z_getk (pc := 276) dX12_move_276 fX12_114 rfl (s_63_41 S) ?_
      refine z_iload (pc := 279) dX12_move_279 rfl ?_
      have c4 := H.1
      replace H := H.2
      refine z_iald (pc := 281) dX12_move_281 c4 ?_
      refine z_iconst (pc := 282) (v := (-1)) dX12_move_282 (by decide) ?_
      refine z_icmp_ne (pc := 283) (tgt := 332) dX12_move_283 (by decide) (fun c5 => ?_) (fun c5 => ?_)
      · replace H := H.1 c5
        refine z_aload_n (pc := 332) dX12_move_332 rfl rfl ?_
        refine z_getk (pc := 333) dX12_move_333 fX12_108 rfl (s_63_39 S) ?_
        refine z_iload (pc := 336) dX12_move_336 rfl ?_
        refine z_dup2 (pc := 338) dX12_move_338 ?_
        refine z_iald (pc := 339) dX12_move_339 c4 ?_
        refine z_iconst (pc := 340) (v := (nI 1)) dX12_move_340 (by decide) ?_
        refine z_iadd (pc := 341) dX12_move_341 ?_
        refine z_iast (pc := 342) dX12_move_342 c4 ?_
        refine z_aload_n (pc := 343) dX12_move_343 rfl rfl ?_
        refine z_getk (pc := 344) dX12_move_344 fX12_108 rfl (s_63_39 S) ?_
        refine z_iload (pc := 347) dX12_move_347 rfl ?_
        refine z_iald (pc := 349) dX12_move_349 c4 ?_
        refine z_aload_n (pc := 350) dX12_move_350 rfl rfl ?_
        refine z_getk (pc := 351) dX12_move_351 fX12_84 rfl (s_63_30 S) ?_
        refine z_iload (pc := 354) dX12_move_354 rfl ?_
        refine z_iald (pc := 356) dX12_move_356 c4 ?_
        refine z_icmp_ne (pc := 357) (tgt := 374) dX12_move_357 (by decide) (fun c6 => ?_) (fun c6 => ?_)
        · replace H := H.1 c6
          refine z_aload_n (pc := 374) dX12_move_374 rfl rfl ?_
          refine z_iload (pc := 375) dX12_move_375 rfl ?_
          refine y_VI (pc := 377) (bc := bc) (bs := bs) (mc := 0) (ms := 0) (As := [.inl x4]) (rest := []) dX12_move_377 kX12_takesChoice lX12_260 ⟨_, _, rfl⟩ rfl rfl (H.use (fun v7 h7 H => ?_))
          have S7 := H.1
          replace H := H.2
          refine z_if_eq (pc := 380) (tgt := 126) dX12_move_380 (by decide) (fun c8 => ?_) (fun c8 => ?_)
          · replace H := H.1 c8
            exact H
          · replace H := H.2 c8
            refine z_iinc (pc := 383) (v := (x4 + (nI 1))) (ls' := [some (.inr (some (0, 12, 63))), some (.inl x1), some (.inl x2), some (.inl x3), some (.inl (x4 + (nI 1))), some (.inl x5), none]) dX12_move_383 rfl (by rw [show Int32.ofInt (1) = (nI 1) by decide]) rfl ?_
            refine z_goto (pc := 386) (tgt := 126) dX12_move_386 (by decide) ?_
            exact H
        · replace H := H.2 c6
          refine z_aload_n (pc := 360) dX12_move_360 rfl rfl ?_
          refine z_getk (pc := 361) dX12_move_361 fX12_108 rfl (s_63_39 S) ?_
          refine z_iload (pc := 364) dX12_move_364 rfl ?_
          refine z_iconst (pc := 366) (v := (-1)) dX12_move_366 (by decide) ?_
          refine z_iast (pc := 367) dX12_move_367 c4 ?_
          refine z_iinc (pc := 368) (v := (x4 + (-1))) (ls' := [some (.inr (some (0, 12, 63))), some (.inl x1), some (.inl x2), some (.inl x3), some (.inl (x4 + (-1))), some (.inl x5), none]) dX12_move_368 rfl (by rw [show Int32.ofInt (-1) = (-1) by decide]) rfl ?_
          refine z_goto (pc := 371) (tgt := 126) dX12_move_371 (by decide) ?_
          exact H
      · replace H := H.2 c5
        refine z_aload_n (pc := 286) dX12_move_286 rfl rfl ?_
        refine z_getk (pc := 287) dX12_move_287 fX12_108 rfl (s_63_39 S) ?_
        refine z_iload (pc := 290) dX12_move_290 rfl ?_
        refine z_aload_n (pc := 292) dX12_move_292 rfl rfl ?_
        refine z_getk (pc := 293) dX12_move_293 fX12_108 rfl (s_63_39 S) ?_
        refine z_iload (pc := 296) dX12_move_296 rfl ?_
        refine z_iald (pc := 298) dX12_move_298 c4 ?_
        refine z_iconst (pc := 299) (v := (-1)) dX12_move_299 (by decide) ?_
        refine z_icmp_ne (pc := 300) (tgt := 307) dX12_move_300 (by decide) (fun c9 => ?_) (fun c9 => ?_)
        · replace H := H.1 c9
          refine z_iconst (pc := 307) (v := (-1)) dX12_move_307 (by decide) ?_
          refine z_iast (pc := 308) dX12_move_308 c4 ?_
          refine z_iload (pc := 309) dX12_move_309 rfl ?_
          refine z_aload_n (pc := 311) dX12_move_311 rfl rfl ?_
          refine z_getk (pc := 312) dX12_move_312 fX12_108 rfl (s_63_39 S) ?_
          refine z_iload (pc := 315) dX12_move_315 rfl ?_
          refine z_iald (pc := 317) dX12_move_317 c4 ?_
          refine z_if_ne (pc := 318) (tgt := 325) dX12_move_318 (by decide) (fun c10 => ?_) (fun c10 => ?_)
          · replace H := H.1 c10
            refine z_iconst (pc := 325) (v := (-1)) dX12_move_325 (by decide) ?_
            refine z_iadd (pc := 326) dX12_move_326 ?_
            refine z_istore (pc := 327) (ls' := [some (.inr (some (0, 12, 63))), some (.inl x1), some (.inl x2), some (.inl x3), some (.inl (x4 + (-1))), some (.inl x5), none]) dX12_move_327 rfl rfl ?_
            refine z_goto (pc := 329) (tgt := 126) dX12_move_329 (by decide) ?_
            exact H
          · replace H := H.2 c10
            refine z_iconst (pc := 321) (v := (nI 1)) dX12_move_321 (by decide) ?_
            refine z_goto (pc := 322) (tgt := 326) dX12_move_322 (by decide) ?_
            refine z_iadd (pc := 326) dX12_move_326 ?_
            refine z_istore (pc := 327) (ls' := [some (.inr (some (0, 12, 63))), some (.inl x1), some (.inl x2), some (.inl x3), some (.inl (x4 + (nI 1))), some (.inl x5), none]) dX12_move_327 rfl rfl ?_
            refine z_goto (pc := 329) (tgt := 126) dX12_move_329 (by decide) ?_
            exact H
        · replace H := H.2 c9
          refine z_iconst (pc := 303) (v := (nI 0)) dX12_move_303 (by decide) ?_
          refine z_goto (pc := 304) (tgt := 308) dX12_move_304 (by decide) ?_
          refine z_iast (pc := 308) dX12_move_308 c4 ?_
          refine z_iload (pc := 309) dX12_move_309 rfl ?_
          refine z_aload_n (pc := 311) dX12_move_311 rfl rfl ?_
          refine z_getk (pc := 312) dX12_move_312 fX12_108 rfl (s_63_39 S) ?_
          refine z_iload (pc := 315) dX12_move_315 rfl ?_
          refine z_iald (pc := 317) dX12_move_317 c4 ?_
          refine z_if_ne (pc := 318) (tgt := 325) dX12_move_318 (by decide) (fun c11 => ?_) (fun c11 => ?_)
          · replace H := H.1 c11
            refine z_iconst (pc := 325) (v := (-1)) dX12_move_325 (by decide) ?_
            refine z_iadd (pc := 326) dX12_move_326 ?_
            refine z_istore (pc := 327) (ls' := [some (.inr (some (0, 12, 63))), some (.inl x1), some (.inl x2), some (.inl x3), some (.inl (x4 + (-1))), some (.inl x5), none]) dX12_move_327 rfl rfl ?_
            refine z_goto (pc := 329) (tgt := 126) dX12_move_329 (by decide) ?_
            exact H
          · replace H := H.2 c11
            refine z_iconst (pc := 321) (v := (nI 1)) dX12_move_321 (by decide) ?_
            refine z_goto (pc := 322) (tgt := 326) dX12_move_322 (by decide) ?_
            refine z_iadd (pc := 326) dX12_move_326 ?_
            refine z_istore (pc := 327) (ls' := [some (.inr (some (0, 12, 63))), some (.inl x1), some (.inl x2), some (.inl x3), some (.inl (x4 + (nI 1))), some (.inl x5), none]) dX12_move_327 rfl rfl ?_
            refine z_goto (pc := 329) (tgt := 126) dX12_move_329 (by decide) ?_
            exact H
    · replace H := H.2 c3
      refine z_iconst (pc := 140) (v := (nI 0)) dX12_move_140 (by decide) ?_
      refine z_istore (pc := 141) (ls' := [some (.inr (some (0, 12, 63))), some (.inl x1), some (.inl x2), some (.inl x3), some (.inl x4), some (.inl (nI 0)), none]) dX12_move_141 rfl rfl ?_
      refine z_iconst (pc := 143) (v := (nI 0)) dX12_move_143 (by decide) ?_
      refine z_istore (pc := 144) (ls' := [some (.inr (some (0, 12, 63))), some (.inl x1), some (.inl x2), some (.inl x3), some (.inl x4), some (.inl (nI 0)), some (.inl (nI 0))]) dX12_move_144 rfl rfl ?_
      exact H

set_option maxRecDepth 20000 in
theorem bX12_move_146 {l : Launch} {E : eE} {d bc bs : Nat} {h : aH} {Q : Int32 → aH → Prop} {x1 : Int32} {x2 : Int32} {x3 : Int32} {x4 : Int32} {x5 : Int32} {x6 : Int32} (S : SH h) (H : (((hI h 63 14) ≤ x6 → (CV l E d 0 0 mX12_weekSums [.inr (some (0, 12, 63))] h (fun h2 => SH h2 ∧ (CV l E d 0 0 mX12_sorts [.inr (some (0, 12, 63))] h2 (fun h3 => SH h3 ∧ ((x3 = (-1) → (CV l E d 0 0 mX12_isBest [.inr (some (0, 12, 63))] h3 (fun h5 => SH h5 ∧ LX12_move_240 l E (d + 1) bc bs x1 x2 x5 x4 x5 (nI 0) h5 Q))) ∧ (¬ x3 = (-1) → ((x5 < x3 → (CV l E d 0 0 mX12_isBest [.inr (some (0, 12, 63))] h3 (fun h7 => SH h7 ∧ LX12_move_240 l E (d + 1) bc bs x1 x2 x5 x4 x5 (nI 0) h7 Q))) ∧ (¬ x5 < x3 → ((¬ x5 = x3 → LX12_move_126 l E (d + 1) bc bs x1 x2 x3 (x4 + (-1)) x5 h3 Q) ∧ (x5 = x3 → (CI l E d 0 0 mX12_isLess [.inr (some (0, 12, 63))] h3 (fun v9 h9 => SH h9 ∧ ((v9 = 0 → LX12_move_126 l E (d + 1) bc bs x1 x2 x3 (x4 + (-1)) x5 h9 Q) ∧ (¬ v9 = 0 → (CV l E d 0 0 mX12_isBest [.inr (some (0, 12, 63))] h9 (fun h11 => SH h11 ∧ LX12_move_240 l E (d + 1) bc bs x1 x2 x5 x4 x5 (nI 0) h11 Q))))))))))))))))) ∧ (¬ (hI h 63 14) ≤ x6 → (vp_in x6 4 ∧ ((¬ (hA h 81 (x6).toNatClampNeg) = (hA h 97 (x6).toNatClampNeg) → LX12_move_146 l E (d + 1) bc bs x1 x2 x3 x4 (x5 + (nI 1)) (x6 + (nI 1)) h Q) ∧ ((hA h 81 (x6).toNatClampNeg) = (hA h 97 (x6).toNatClampNeg) → (((hA h 82 (x6).toNatClampNeg) = (hA h 98 (x6).toNatClampNeg) → LX12_move_146 l E (d + 1) bc bs x1 x2 x3 x4 x5 (x6 + (nI 1)) h Q) ∧ (¬ (hA h 82 (x6).toNatClampNeg) = (hA h 98 (x6).toNatClampNeg) → LX12_move_146 l E (d + 1) bc bs x1 x2 x3 x4 (x5 + (nI 1)) (x6 + (nI 1)) h Q)))))))) : LX12_move_146 l E (d + 1) bc bs x1 x2 x3 x4 x5 x6 h Q := by
  refine z_iload (pc := 146) dX12_move_146 rfl ?_
  refine z_aload_n (pc := 148) dX12_move_148 rfl rfl ?_
  refine z_geti (pc := 149) dX12_move_149 fX12_126 rfl ?_
  refine z_icmp_ge (pc := 152) (tgt := 198) dX12_move_152 (by decide) (fun c1 => ?_) (fun c1 => ?_)
  · replace H := H.1 c1
    refine z_aload_n (pc := 198) dX12_move_198 rfl rfl ?_
    refine y_VV (pc := 199) (bc := bc) (bs := bs) (mc := 0) (ms := 0) (As := []) (rest := []) dX12_move_199 kX12_weekSums lX12_257 ⟨_, _, rfl⟩ rfl rfl (H.use (fun h2 H => ?_))
    have S2 := H.1
    replace H := H.2
    refine z_aload_n (pc := 202) dX12_move_202 rfl rfl ?_
    refine y_VV (pc := 203) (bc := bc) (bs := bs) (mc := 0) (ms := 0) (As := []) (rest := []) dX12_move_203 kX12_sorts lX12_238 ⟨_, _, rfl⟩ rfl rfl (H.use (fun h3 H => ?_))
    have S3 := H.1
    replace H := H.2
    refine z_iload_n (pc := 206) dX12_move_206 rfl rfl ?_
    refine z_iconst (pc := 207) (v := (-1)) dX12_move_207 (by decide) ?_
    refine z_icmp_eq (pc := 208) (tgt := 230) dX12_move_208 (by decide) (fun c4 => ?_) (fun c4 => ?_)
    · replace H := H.1 c4
      refine z_iload (pc := 230) dX12_move_230 rfl ?_
      refine z_istore_n (pc := 232) (ls' := [some (.inr (some (0, 12, 63))), some (.inl x1), some (.inl x2), some (.inl x5), some (.inl x4), some (.inl x5), some (.inl x6)]) dX12_move_232 rfl rfl rfl ?_
      refine z_aload_n (pc := 233) dX12_move_233 rfl rfl ?_
      refine y_VV (pc := 234) (bc := bc) (bs := bs) (mc := 0) (ms := 0) (As := []) (rest := []) dX12_move_234 kX12_isBest lX12_245 ⟨_, _, rfl⟩ rfl rfl (H.use (fun h5 H => ?_))
      have S5 := H.1
      replace H := H.2
      refine z_iconst (pc := 237) (v := (nI 0)) dX12_move_237 (by decide) ?_
      refine z_istore (pc := 238) (ls' := [some (.inr (some (0, 12, 63))), some (.inl x1), some (.inl x2), some (.inl x5), some (.inl x4), some (.inl x5), some (.inl (nI 0))]) dX12_move_238 rfl rfl ?_
      exact H
    · replace H := H.2 c4
      refine z_iload (pc := 211) dX12_move_211 rfl ?_
      refine z_iload_n (pc := 213) dX12_move_213 rfl rfl ?_
      refine z_icmp_lt (pc := 214) (tgt := 230) dX12_move_214 (by decide) (fun c6 => ?_) (fun c6 => ?_)
      · replace H := H.1 c6
        refine z_iload (pc := 230) dX12_move_230 rfl ?_
        refine z_istore_n (pc := 232) (ls' := [some (.inr (some (0, 12, 63))), some (.inl x1), some (.inl x2), some (.inl x5), some (.inl x4), some (.inl x5), some (.inl x6)]) dX12_move_232 rfl rfl rfl ?_
        refine z_aload_n (pc := 233) dX12_move_233 rfl rfl ?_
        refine y_VV (pc := 234) (bc := bc) (bs := bs) (mc := 0) (ms := 0) (As := []) (rest := []) dX12_move_234 kX12_isBest lX12_245 ⟨_, _, rfl⟩ rfl rfl (H.use (fun h7 H => ?_))
        have S7 := H.1
        replace H := H.2
        refine z_iconst (pc := 237) (v := (nI 0)) dX12_move_237 (by decide) ?_
        refine z_istore (pc := 238) (ls' := [some (.inr (some (0, 12, 63))), some (.inl x1), some (.inl x2), some (.inl x5), some (.inl x4), some (.inl x5), some (.inl (nI 0))]) dX12_move_238 rfl rfl ?_
        exact H
      · replace H := H.2 c6
        refine z_iload (pc := 217) dX12_move_217 rfl ?_
        refine z_iload_n (pc := 219) dX12_move_219 rfl rfl ?_
        refine z_icmp_ne (pc := 220) (tgt := 269) dX12_move_220 (by decide) (fun c8 => ?_) (fun c8 => ?_)
        · replace H := H.1 c8
          refine z_iinc (pc := 269) (v := (x4 + (-1))) (ls' := [some (.inr (some (0, 12, 63))), some (.inl x1), some (.inl x2), some (.inl x3), some (.inl (x4 + (-1))), some (.inl x5), some (.inl x6)]) dX12_move_269 rfl (by rw [show Int32.ofInt (-1) = (-1) by decide]) rfl ?_
          refine z_goto (pc := 272) (tgt := 126) dX12_move_272 (by decide) ?_
          exact z_drop (ls' := [some (.inr (some (0, 12, 63))), some (.inl x1), some (.inl x2), some (.inl x3), some (.inl (x4 + (-1))), some (.inl x5), none]) (by simp [dropL]) H
        · replace H := H.2 c8
          refine z_aload_n (pc := 223) dX12_move_223 rfl rfl ?_
          refine y_VI (pc := 224) (bc := bc) (bs := bs) (mc := 0) (ms := 0) (As := []) (rest := []) dX12_move_224 kX12_isLess lX12_241 ⟨_, _, rfl⟩ rfl rfl (H.use (fun v9 h9 H => ?_))
          have S9 := H.1
          replace H := H.2
          refine z_if_eq (pc := 227) (tgt := 269) dX12_move_227 (by decide) (fun c10 => ?_) (fun c10 => ?_)
          · replace H := H.1 c10
            refine z_iinc (pc := 269) (v := (x4 + (-1))) (ls' := [some (.inr (some (0, 12, 63))), some (.inl x1), some (.inl x2), some (.inl x3), some (.inl (x4 + (-1))), some (.inl x5), some (.inl x6)]) dX12_move_269 rfl (by rw [show Int32.ofInt (-1) = (-1) by decide]) rfl ?_
            refine z_goto (pc := 272) (tgt := 126) dX12_move_272 (by decide) ?_
            exact z_drop (ls' := [some (.inr (some (0, 12, 63))), some (.inl x1), some (.inl x2), some (.inl x3), some (.inl (x4 + (-1))), some (.inl x5), none]) (by simp [dropL]) H
          · replace H := H.2 c10
            refine z_iload (pc := 230) dX12_move_230 rfl ?_
            refine z_istore_n (pc := 232) (ls' := [some (.inr (some (0, 12, 63))), some (.inl x1), some (.inl x2), some (.inl x5), some (.inl x4), some (.inl x5), some (.inl x6)]) dX12_move_232 rfl rfl rfl ?_
            refine z_aload_n (pc := 233) dX12_move_233 rfl rfl ?_
            refine y_VV (pc := 234) (bc := bc) (bs := bs) (mc := 0) (ms := 0) (As := []) (rest := []) dX12_move_234 kX12_isBest lX12_245 ⟨_, _, rfl⟩ rfl rfl (H.use (fun h11 H => ?_))
            have S11 := H.1
            replace H := H.2
            refine z_iconst (pc := 237) (v := (nI 0)) dX12_move_237 (by decide) ?_
            refine z_istore (pc := 238) (ls' := [some (.inr (some (0, 12, 63))), some (.inl x1), some (.inl x2), some (.inl x5), some (.inl x4), some (.inl x5), some (.inl (nI 0))]) dX12_move_238 rfl rfl ?_
            exact H
  · replace H := H.2 c1
    refine z_aload_n (pc := 155) dX12_move_155 rfl rfl ?_
    refine z_getk (pc := 156) dX12_move_156 fX12_66 rfl (s_63_24 S) ?_
    refine z_iload (pc := 159) dX12_move_159 rfl ?_
    have c12 := H.1
    replace H := H.2
    refine z_iald (pc := 161) dX12_move_161 c12 ?_
    refine z_aload_n (pc := 162) dX12_move_162 rfl rfl ?_
    refine z_getk (pc := 163) dX12_move_163 fX12_114 rfl (s_63_41 S) ?_
    refine z_iload (pc := 166) dX12_move_166 rfl ?_
    refine z_iald (pc := 168) dX12_move_168 c12 ?_
    refine z_icmp_ne (pc := 169) (tgt := 189) dX12_move_169 (by decide) (fun c13 => ?_) (fun c13 => ?_)
    · replace H := H.1 c13
      refine z_iinc (pc := 189) (v := (x5 + (nI 1))) (ls' := [some (.inr (some (0, 12, 63))), some (.inl x1), some (.inl x2), some (.inl x3), some (.inl x4), some (.inl (x5 + (nI 1))), some (.inl x6)]) dX12_move_189 rfl (by rw [show Int32.ofInt (1) = (nI 1) by decide]) rfl ?_
      refine z_iinc (pc := 192) (v := (x6 + (nI 1))) (ls' := [some (.inr (some (0, 12, 63))), some (.inl x1), some (.inl x2), some (.inl x3), some (.inl x4), some (.inl (x5 + (nI 1))), some (.inl (x6 + (nI 1)))]) dX12_move_192 rfl (by rw [show Int32.ofInt (1) = (nI 1) by decide]) rfl ?_
      refine z_goto (pc := 195) (tgt := 146) dX12_move_195 (by decide) ?_
      exact H
    · replace H := H.2 c13
      refine z_aload_n (pc := 172) dX12_move_172 rfl rfl ?_
      refine z_getk (pc := 173) dX12_move_173 fX12_69 rfl (s_63_25 S) ?_
      refine z_iload (pc := 176) dX12_move_176 rfl ?_
      refine z_iald (pc := 178) dX12_move_178 c12 ?_
      refine z_aload_n (pc := 179) dX12_move_179 rfl rfl ?_
      refine z_getk (pc := 180) dX12_move_180 fX12_117 rfl (s_63_42 S) ?_
      refine z_iload (pc := 183) dX12_move_183 rfl ?_
      refine z_iald (pc := 185) dX12_move_185 c12 ?_
      refine z_icmp_eq (pc := 186) (tgt := 192) dX12_move_186 (by decide) (fun c14 => ?_) (fun c14 => ?_)
      · replace H := H.1 c14
        refine z_iinc (pc := 192) (v := (x6 + (nI 1))) (ls' := [some (.inr (some (0, 12, 63))), some (.inl x1), some (.inl x2), some (.inl x3), some (.inl x4), some (.inl x5), some (.inl (x6 + (nI 1)))]) dX12_move_192 rfl (by rw [show Int32.ofInt (1) = (nI 1) by decide]) rfl ?_
        refine z_goto (pc := 195) (tgt := 146) dX12_move_195 (by decide) ?_
        exact H
      · replace H := H.2 c14
        refine z_iinc (pc := 189) (v := (x5 + (nI 1))) (ls' := [some (.inr (some (0, 12, 63))), some (.inl x1), some (.inl x2), some (.inl x3), some (.inl x4), some (.inl (x5 + (nI 1))), some (.inl x6)]) dX12_move_189 rfl (by rw [show Int32.ofInt (1) = (nI 1) by decide]) rfl ?_
        refine z_iinc (pc := 192) (v := (x6 + (nI 1))) (ls' := [some (.inr (some (0, 12, 63))), some (.inl x1), some (.inl x2), some (.inl x3), some (.inl x4), some (.inl (x5 + (nI 1))), some (.inl (x6 + (nI 1)))]) dX12_move_192 rfl (by rw [show Int32.ofInt (1) = (nI 1) by decide]) rfl ?_
        refine z_goto (pc := 195) (tgt := 146) dX12_move_195 (by decide) ?_
        exact H

set_option maxRecDepth 20000 in
theorem bX12_move_240 {l : Launch} {E : eE} {d bc bs : Nat} {h : aH} {Q : Int32 → aH → Prop} {x1 : Int32} {x2 : Int32} {x3 : Int32} {x4 : Int32} {x5 : Int32} {x6 : Int32} (S : SH h) (H : (((hI h 63 14) ≤ x6 → LX12_move_126 l E (d + 1) bc bs x1 x2 x3 (x4 + (-1)) x5 h Q) ∧ (¬ (hI h 63 14) ≤ x6 → (vp_in x6 4 ∧ LX12_move_240 l E (d + 1) bc bs x1 x2 x3 x4 x5 (x6 + (nI 1)) (stA h 96 (x6).toNatClampNeg (hA h 95 (x6).toNatClampNeg)) Q)))) : LX12_move_240 l E (d + 1) bc bs x1 x2 x3 x4 x5 x6 h Q := by
  refine z_iload (pc := 240) dX12_move_240 rfl ?_
  refine z_aload_n (pc := 242) dX12_move_242 rfl rfl ?_
  refine z_geti (pc := 243) dX12_move_243 fX12_126 rfl ?_
  refine z_icmp_ge (pc := 246) (tgt := 269) dX12_move_246 (by decide) (fun c1 => ?_) (fun c1 => ?_)
  · replace H := H.1 c1
    refine z_iinc (pc := 269) (v := (x4 + (-1))) (ls' := [some (.inr (some (0, 12, 63))), some (.inl x1), some (.inl x2), some (.inl x3), some (.inl (x4 + (-1))), some (.inl x5), some (.inl x6)]) dX12_move_269 rfl (by rw [show Int32.ofInt (-1) = (-1) by decide]) rfl ?_
    refine z_goto (pc := 272) (tgt := 126) dX12_move_272 (by decide) ?_
    exact z_drop (ls' := [some (.inr (some (0, 12, 63))), some (.inl x1), some (.inl x2), some (.inl x3), some (.inl (x4 + (-1))), some (.inl x5), none]) (by simp [dropL]) H
  · replace H := H.2 c1
    refine z_aload_n (pc := 249) dX12_move_249 rfl rfl ?_
    refine z_getk (pc := 250) dX12_move_250 fX12_111 rfl (s_63_40 S) ?_
    refine z_iload (pc := 253) dX12_move_253 rfl ?_
    refine z_aload_n (pc := 255) dX12_move_255 rfl rfl ?_
    refine z_getk (pc := 256) dX12_move_256 fX12_108 rfl (s_63_39 S) ?_
    refine z_iload (pc := 259) dX12_move_259 rfl ?_
    have c2 := H.1
    replace H := H.2
    refine z_iald (pc := 261) dX12_move_261 c2 ?_
    refine z_iast (pc := 262) dX12_move_262 c2 ?_
    refine z_iinc (pc := 263) (v := (x6 + (nI 1))) (ls' := [some (.inr (some (0, 12, 63))), some (.inl x1), some (.inl x2), some (.inl x3), some (.inl x4), some (.inl x5), some (.inl (x6 + (nI 1)))]) dX12_move_263 rfl (by rw [show Int32.ofInt (1) = (nI 1) by decide]) rfl ?_
    refine z_goto (pc := 266) (tgt := 240) dX12_move_266 (by decide) ?_
    exact H

set_option maxRecDepth 20000 in
theorem bX12_move_399 {l : Launch} {E : eE} {d bc bs : Nat} {h : aH} {Q : Int32 → aH → Prop} {x1 : Int32} {x2 : Int32} {x3 : Int32} {x4 : Int32} {x5 : Int32} {x6 : Int32} (S : SH h) (H : (((hI h 63 14) ≤ x6 → Q x3 h) ∧ (¬ (hI h 63 14) ≤ x6 → (vp_in x6 4 ∧ ((¬ (hA h 97 (x6).toNatClampNeg) = (-1) → (vp_in (((nI 15) * x6) + (hA h 96 (x6).toNatClampNeg)) 60 ∧ (vp_in ((nI 2) * (((nI 52) * x6) + x1)) 416 ∧ (vp_in (((nI 2) * (((nI 52) * x6) + x1)) + (nI 1)) 416 ∧ LX12_move_399 l E (d + 1) bc bs x1 x2 x3 x4 x5 (x6 + (nI 1)) (stA (stA h 80 (((nI 2) * (((nI 52) * x6) + x1))).toNatClampNeg (hA h 85 ((((nI 15) * x6) + (hA h 96 (x6).toNatClampNeg))).toNatClampNeg)) 80 ((((nI 2) * (((nI 52) * x6) + x1)) + (nI 1))).toNatClampNeg (hA h 86 ((((nI 15) * x6) + (hA h 96 (x6).toNatClampNeg))).toNatClampNeg)) Q)))) ∧ ((hA h 97 (x6).toNatClampNeg) = (-1) → LX12_move_399 l E (d + 1) bc bs x1 x2 x3 x4 x5 (x6 + (nI 1)) h Q)))))) : LX12_move_399 l E (d + 1) bc bs x1 x2 x3 x4 x5 x6 h Q := by
  refine z_iload (pc := 399) dX12_move_399 rfl ?_
  refine z_aload_n (pc := 401) dX12_move_401 rfl rfl ?_
  refine z_geti (pc := 402) dX12_move_402 fX12_126 rfl ?_
  refine z_icmp_ge (pc := 405) (tgt := 494) dX12_move_405 (by decide) (fun c1 => ?_) (fun c1 => ?_)
  · replace H := H.1 c1
    refine z_iload_n (pc := 494) dX12_move_494 rfl rfl ?_
    exact z_iret (pc := 495) dX12_move_495 rfl rfl ⟨_, rfl, H⟩
  · replace H := H.2 c1
    refine z_aload_n (pc := 408) dX12_move_408 rfl rfl ?_
    refine z_getk (pc := 409) dX12_move_409 fX12_114 rfl (s_63_41 S) ?_
    refine z_iload (pc := 412) dX12_move_412 rfl ?_
    have c2 := H.1
    replace H := H.2
    refine z_iald (pc := 414) dX12_move_414 c2 ?_
    refine z_iconst (pc := 415) (v := (-1)) dX12_move_415 (by decide) ?_
    refine z_icmp_ne (pc := 416) (tgt := 422) dX12_move_416 (by decide) (fun c3 => ?_) (fun c3 => ?_)
    · replace H := H.1 c3
      refine z_aload_n (pc := 422) dX12_move_422 rfl rfl ?_
      refine z_getk (pc := 423) dX12_move_423 fX12_63 rfl (s_63_21 S) ?_
      refine z_iconst (pc := 426) (v := (nI 2)) dX12_move_426 (by decide) ?_
      refine z_bipush (pc := 427) (v := (nI 52)) dX12_move_427 (by decide) ?_
      refine z_iload (pc := 429) dX12_move_429 rfl ?_
      refine z_imul (pc := 431) dX12_move_431 ?_
      refine z_iload_n (pc := 432) dX12_move_432 rfl rfl ?_
      refine z_iadd (pc := 433) dX12_move_433 ?_
      refine z_imul (pc := 434) dX12_move_434 ?_
      refine z_aload_n (pc := 435) dX12_move_435 rfl rfl ?_
      refine z_getk (pc := 436) dX12_move_436 fX12_78 rfl (s_63_28 S) ?_
      refine z_bipush (pc := 439) (v := (nI 15)) dX12_move_439 (by decide) ?_
      refine z_iload (pc := 441) dX12_move_441 rfl ?_
      refine z_imul (pc := 443) dX12_move_443 ?_
      refine z_aload_n (pc := 444) dX12_move_444 rfl rfl ?_
      refine z_getk (pc := 445) dX12_move_445 fX12_111 rfl (s_63_40 S) ?_
      refine z_iload (pc := 448) dX12_move_448 rfl ?_
      refine z_iald (pc := 450) dX12_move_450 c2 ?_
      refine z_iadd (pc := 451) dX12_move_451 ?_
      have c4 := H.1
      replace H := H.2
      refine z_iald (pc := 452) dX12_move_452 c4 ?_
      have c5 := H.1
      replace H := H.2
      refine z_iast (pc := 453) dX12_move_453 c5 ?_
      refine z_aload_n (pc := 454) dX12_move_454 rfl rfl ?_
      refine z_getk (pc := 455) dX12_move_455 fX12_63 rfl (s_63_21 S) ?_
      refine z_iconst (pc := 458) (v := (nI 2)) dX12_move_458 (by decide) ?_
      refine z_bipush (pc := 459) (v := (nI 52)) dX12_move_459 (by decide) ?_
      refine z_iload (pc := 461) dX12_move_461 rfl ?_
      refine z_imul (pc := 463) dX12_move_463 ?_
      refine z_iload_n (pc := 464) dX12_move_464 rfl rfl ?_
      refine z_iadd (pc := 465) dX12_move_465 ?_
      refine z_imul (pc := 466) dX12_move_466 ?_
      refine z_iconst (pc := 467) (v := (nI 1)) dX12_move_467 (by decide) ?_
      refine z_iadd (pc := 468) dX12_move_468 ?_
      refine z_aload_n (pc := 469) dX12_move_469 rfl rfl ?_
      refine z_getk (pc := 470) dX12_move_470 fX12_81 rfl (s_63_29 S) ?_
      refine z_bipush (pc := 473) (v := (nI 15)) dX12_move_473 (by decide) ?_
      refine z_iload (pc := 475) dX12_move_475 rfl ?_
      refine z_imul (pc := 477) dX12_move_477 ?_
      refine z_aload_n (pc := 478) dX12_move_478 rfl rfl ?_
      refine z_getk (pc := 479) dX12_move_479 fX12_111 rfl (s_63_40 S) ?_
      refine z_iload (pc := 482) dX12_move_482 rfl ?_
      refine z_iald (pc := 484) dX12_move_484 c2 ?_
      refine z_iadd (pc := 485) dX12_move_485 ?_
      refine z_iald (pc := 486) dX12_move_486 c4 ?_
      have c6 := H.1
      replace H := H.2
      refine z_iast (pc := 487) dX12_move_487 c6 ?_
      refine z_iinc (pc := 488) (v := (x6 + (nI 1))) (ls' := [some (.inr (some (0, 12, 63))), some (.inl x1), some (.inl x2), some (.inl x3), some (.inl x4), some (.inl x5), some (.inl (x6 + (nI 1)))]) dX12_move_488 rfl (by rw [show Int32.ofInt (1) = (nI 1) by decide]) rfl ?_
      refine z_goto (pc := 491) (tgt := 399) dX12_move_491 (by decide) ?_
      exact H
    · replace H := H.2 c3
      refine z_goto (pc := 419) (tgt := 488) dX12_move_419 (by decide) ?_
      refine z_iinc (pc := 488) (v := (x6 + (nI 1))) (ls' := [some (.inr (some (0, 12, 63))), some (.inl x1), some (.inl x2), some (.inl x3), some (.inl x4), some (.inl x5), some (.inl (x6 + (nI 1)))]) dX12_move_488 rfl (by rw [show Int32.ofInt (1) = (nI 1) by decide]) rfl ?_
      refine z_goto (pc := 491) (tgt := 399) dX12_move_491 (by decide) ?_
      exact H
