abbrev LX12_isFree_29 (l : Launch) (E : eE) (d bc bs : Nat) (x1 : Int32) (x2 : Int32) (x3 : Int32) (x4 : Int32) (h : aH) (Q : Int32 → aH → Prop) : Prop := TI l E mX12_isFree d bc bs 29 [some (.inr (some (0, 12, 63))), some (.inl x1), some (.inl x2), some (.inl x3), some (.inl x4)] [] h Q

abbrev LX12_isFree_96 (l : Launch) (E : eE) (d bc bs : Nat) (x1 : Int32) (x2 : Int32) (x3 : Int32) (x4 : Int32) (h : aH) (Q : Int32 → aH → Prop) : Prop := TI l E mX12_isFree d bc bs 96 [some (.inr (some (0, 12, 63))), some (.inl x1), some (.inl x2), some (.inl x3), some (.inl x4)] [] h Q

abbrev LX12_isFree_138 (l : Launch) (E : eE) (d bc bs : Nat) (x1 : Int32) (x2 : Int32) (x3 : Int32) (x4 : Int32) (h : aH) (Q : Int32 → aH → Prop) : Prop := TI l E mX12_isFree d bc bs 138 [some (.inr (some (0, 12, 63))), some (.inl x1), some (.inl x2), some (.inl x3), some (.inl x4)] [] h Q

set_option maxRecDepth 20000 in
theorem bX12_isFree_0 {l : Launch} {E : eE} {d bc bs : Nat} {h : aH} {Q : Int32 → aH → Prop} {x1 : Int32} {x2 : Int32} {x3 : Int32} (S : SR h) (hd : 2 ≤ d) (H : ((vp_in x2 4 ∧ vp_in x3 6) ∧ (vp_in x2 4 ∧ ((inI x1 (hI h 63 3)) ∧ ((0 ≤ ((rSlot h x2 x3)).toInt ∧ 1 ≤ ((hA h 74 (x2).toNatClampNeg)).toInt ∧ ((hA h 74 (x2).toNatClampNeg)).toInt ≤ 6 ∧ ((rSlot h x2 x3)).toInt + ((hA h 74 (x2).toNatClampNeg)).toInt ≤ 17472) ∧ ((0 ≤ ((hI h 63 23)).toInt ∧ ((hI h 63 23)).toInt ≤ (hI h 63 8).toInt) ∧ (((rReasons h x1 (rSlot h x2 x3) ((hI h 63 23)).toNatClampNeg 0 ((hA h 74 (x2).toNatClampNeg)).toNatClampNeg) ≤ 0 → LX12_isFree_29 l E (d + 1) bc bs x1 x2 x3 (nI 0) h Q) ∧ (¬ (rReasons h x1 (rSlot h x2 x3) ((hI h 63 23)).toNatClampNeg 0 ((hA h 74 (x2).toNatClampNeg)).toNatClampNeg) ≤ 0 → Q (nI 0) h)))))))) : CI l E (d + 1) bc bs mX12_isFree [.inr (some (0, 12, 63)), .inl x1, .inl x2, .inl x3] h Q := by
  refine CI.of (by decide) rfl ?_
  show TI l E mX12_isFree (d + 1) bc bs 0 [some (.inr (some (0, 12, 63))), some (.inl x1), some (.inl x2), some (.inl x3), none] [] h Q
  refine z_aload_n (pc := 0) dX12_isFree_0 rfl rfl ?_
  refine z_iload_n (pc := 1) dX12_isFree_1 rfl rfl ?_
  refine z_aload_n (pc := 2) dX12_isFree_2 rfl rfl ?_
  refine z_iload_n (pc := 3) dX12_isFree_3 rfl rfl ?_
  refine z_iload_n (pc := 4) dX12_isFree_4 rfl rfl ?_
  have c1 := H.1
  replace H := H.2
  refine y_VI (pc := 5) (bc := bc) (bs := bs) (mc := 0) (ms := 0) (As := [.inl x2, .inl x3]) (rest := [.inl x1, .inr (some (0, 12, 63))]) dX12_isFree_5 kX12_slotOf lX12_184 ⟨_, _, rfl⟩ rfl rfl (c_slotOf S.1 c1 ?_)
  refine z_aload_n (pc := 8) dX12_isFree_8 rfl rfl ?_
  refine z_getk (pc := 9) dX12_isFree_9 fX12_45 rfl (s_63_15 S.1) ?_
  refine z_iload_n (pc := 12) dX12_isFree_12 rfl rfl ?_
  have c2 := H.1
  replace H := H.2
  refine z_iald (pc := 13) dX12_isFree_13 c2 ?_
  refine z_aload_n (pc := 14) dX12_isFree_14 rfl rfl ?_
  refine z_geti (pc := 15) dX12_isFree_15 fX12_187 rfl ?_
  have c3 := H.1
  replace H := H.2
  have c4 := H.1
  replace H := H.2
  have c5 := H.1
  replace H := H.2
  refine y_VI (pc := 18) (bc := bc) (bs := bs) (mc := 0) (ms := 0) (As := [.inl x1, .inl (rSlot h x2 x3), .inl (hA h 74 (x2).toNatClampNeg), .inl (hI h 63 23)]) (rest := []) dX12_isFree_18 kX12_reasons lX12_174 ⟨_, _, rfl⟩ rfl rfl (c_reasons S (by omega) c3 c4 c5 ?_)
  refine z_if_le (pc := 21) (tgt := 26) dX12_isFree_21 (by decide) (fun c6 => ?_) (fun c6 => ?_)
  · replace H := H.1 c6
    refine z_iconst (pc := 26) (v := (nI 0)) dX12_isFree_26 (by decide) ?_
    refine z_istore (pc := 27) (ls' := [some (.inr (some (0, 12, 63))), some (.inl x1), some (.inl x2), some (.inl x3), some (.inl (nI 0))]) dX12_isFree_27 rfl rfl ?_
    exact H
  · replace H := H.2 c6
    refine z_iconst (pc := 24) (v := (nI 0)) dX12_isFree_24 (by decide) ?_
    exact z_iret (pc := 25) dX12_isFree_25 rfl rfl ⟨_, rfl, H⟩

set_option maxRecDepth 20000 in
theorem bX12_isFree_29 {l : Launch} {E : eE} {d bc bs : Nat} {h : aH} {Q : Int32 → aH → Prop} {x1 : Int32} {x2 : Int32} {x3 : Int32} {x4 : Int32} (S : SR h) (H : (((hI h 63 23) ≤ x4 → LX12_isFree_96 l E (d + 1) bc bs x1 x2 x3 (nI 0) h Q) ∧ (¬ (hI h 63 23) ≤ x4 → (vp_in x4 400 ∧ ((¬ (hA h 69 (x4).toNatClampNeg) = (nI 3) → LX12_isFree_29 l E (d + 1) bc bs x1 x2 x3 (x4 + (nI 1)) h Q) ∧ ((hA h 69 (x4).toNatClampNeg) = (nI 3) → ((¬ (hA h 70 (x4).toNatClampNeg) = x1 → LX12_isFree_29 l E (d + 1) bc bs x1 x2 x3 (x4 + (nI 1)) h Q) ∧ ((hA h 70 (x4).toNatClampNeg) = x1 → ((¬ (hA h 71 (x4).toNatClampNeg) = x2 → LX12_isFree_29 l E (d + 1) bc bs x1 x2 x3 (x4 + (nI 1)) h Q) ∧ ((hA h 71 (x4).toNatClampNeg) = x2 → ((¬ (hA h 72 (x4).toNatClampNeg) = (hI h 63 22) → LX12_isFree_29 l E (d + 1) bc bs x1 x2 x3 (x4 + (nI 1)) h Q) ∧ ((hA h 72 (x4).toNatClampNeg) = (hI h 63 22) → Q (nI 0) h)))))))))))) : LX12_isFree_29 l E (d + 1) bc bs x1 x2 x3 x4 h Q := by
  refine z_iload (pc := 29) dX12_isFree_29 rfl ?_
  refine z_aload_n (pc := 31) dX12_isFree_31 rfl rfl ?_
  refine z_geti (pc := 32) dX12_isFree_32 fX12_187 rfl ?_
  refine z_icmp_ge (pc := 35) (tgt := 93) dX12_isFree_35 (by decide) (fun c1 => ?_) (fun c1 => ?_)
  · replace H := H.1 c1
    refine z_iconst (pc := 93) (v := (nI 0)) dX12_isFree_93 (by decide) ?_
    refine z_istore (pc := 94) (ls' := [some (.inr (some (0, 12, 63))), some (.inl x1), some (.inl x2), some (.inl x3), some (.inl (nI 0))]) dX12_isFree_94 rfl rfl ?_
    exact H
  · replace H := H.2 c1
    refine z_aload_n (pc := 38) dX12_isFree_38 rfl rfl ?_
    refine z_getk (pc := 39) dX12_isFree_39 fX12_29 rfl (s_63_9 S.1) ?_
    refine z_iload (pc := 42) dX12_isFree_42 rfl ?_
    have c2 := H.1
    replace H := H.2
    refine z_iald (pc := 44) dX12_isFree_44 c2 ?_
    refine z_iconst (pc := 45) (v := (nI 3)) dX12_isFree_45 (by decide) ?_
    refine z_icmp_ne (pc := 46) (tgt := 87) dX12_isFree_46 (by decide) (fun c3 => ?_) (fun c3 => ?_)
    · replace H := H.1 c3
      refine z_iinc (pc := 87) (v := (x4 + (nI 1))) (ls' := [some (.inr (some (0, 12, 63))), some (.inl x1), some (.inl x2), some (.inl x3), some (.inl (x4 + (nI 1)))]) dX12_isFree_87 rfl (by rw [show Int32.ofInt (1) = (nI 1) by decide]) rfl ?_
      refine z_goto (pc := 90) (tgt := 29) dX12_isFree_90 (by decide) ?_
      exact H
    · replace H := H.2 c3
      refine z_aload_n (pc := 49) dX12_isFree_49 rfl rfl ?_
      refine z_getk (pc := 50) dX12_isFree_50 fX12_32 rfl (s_63_10 S.1) ?_
      refine z_iload (pc := 53) dX12_isFree_53 rfl ?_
      refine z_iald (pc := 55) dX12_isFree_55 c2 ?_
      refine z_iload_n (pc := 56) dX12_isFree_56 rfl rfl ?_
      refine z_icmp_ne (pc := 57) (tgt := 87) dX12_isFree_57 (by decide) (fun c4 => ?_) (fun c4 => ?_)
      · replace H := H.1 c4
        refine z_iinc (pc := 87) (v := (x4 + (nI 1))) (ls' := [some (.inr (some (0, 12, 63))), some (.inl x1), some (.inl x2), some (.inl x3), some (.inl (x4 + (nI 1)))]) dX12_isFree_87 rfl (by rw [show Int32.ofInt (1) = (nI 1) by decide]) rfl ?_
        refine z_goto (pc := 90) (tgt := 29) dX12_isFree_90 (by decide) ?_
        exact H
      · replace H := H.2 c4
        refine z_aload_n (pc := 60) dX12_isFree_60 rfl rfl ?_
        refine z_getk (pc := 61) dX12_isFree_61 fX12_35 rfl (s_63_11 S.1) ?_
        refine z_iload (pc := 64) dX12_isFree_64 rfl ?_
        refine z_iald (pc := 66) dX12_isFree_66 c2 ?_
        refine z_iload_n (pc := 67) dX12_isFree_67 rfl rfl ?_
        refine z_icmp_ne (pc := 68) (tgt := 87) dX12_isFree_68 (by decide) (fun c5 => ?_) (fun c5 => ?_)
        · replace H := H.1 c5
          refine z_iinc (pc := 87) (v := (x4 + (nI 1))) (ls' := [some (.inr (some (0, 12, 63))), some (.inl x1), some (.inl x2), some (.inl x3), some (.inl (x4 + (nI 1)))]) dX12_isFree_87 rfl (by rw [show Int32.ofInt (1) = (nI 1) by decide]) rfl ?_
          refine z_goto (pc := 90) (tgt := 29) dX12_isFree_90 (by decide) ?_
          exact H
        · replace H := H.2 c5
          refine z_aload_n (pc := 71) dX12_isFree_71 rfl rfl ?_
          refine z_getk (pc := 72) dX12_isFree_72 fX12_38 rfl (s_63_12 S.1) ?_
          refine z_iload (pc := 75) dX12_isFree_75 rfl ?_
          refine z_iald (pc := 77) dX12_isFree_77 c2 ?_
          refine z_aload_n (pc := 78) dX12_isFree_78 rfl rfl ?_
          refine z_geti (pc := 79) dX12_isFree_79 fX12_181 rfl ?_
          refine z_icmp_ne (pc := 82) (tgt := 87) dX12_isFree_82 (by decide) (fun c6 => ?_) (fun c6 => ?_)
          · replace H := H.1 c6
            refine z_iinc (pc := 87) (v := (x4 + (nI 1))) (ls' := [some (.inr (some (0, 12, 63))), some (.inl x1), some (.inl x2), some (.inl x3), some (.inl (x4 + (nI 1)))]) dX12_isFree_87 rfl (by rw [show Int32.ofInt (1) = (nI 1) by decide]) rfl ?_
            refine z_goto (pc := 90) (tgt := 29) dX12_isFree_90 (by decide) ?_
            exact H
          · replace H := H.2 c6
            refine z_iconst (pc := 85) (v := (nI 0)) dX12_isFree_85 (by decide) ?_
            exact z_iret (pc := 86) dX12_isFree_86 rfl rfl ⟨_, rfl, H⟩

set_option maxRecDepth 20000 in
theorem bX12_isFree_96 {l : Launch} {E : eE} {d bc bs : Nat} {h : aH} {Q : Int32 → aH → Prop} {x1 : Int32} {x2 : Int32} {x3 : Int32} {x4 : Int32} (S : SR h) (hd : 1 ≤ d) (H : ((x2 ≤ x4 → Q (nI 1) h) ∧ (¬ x2 ≤ x4 → (vp_in (((nI 12) * x4) + x1) 48 ∧ ((¬ ((hA h 83 ((((nI 12) * x4) + x1)).toNatClampNeg) &&& (nI 1)) = (nI 1) → LX12_isFree_138 l E (d + 1) bc bs x1 x2 x3 x4 h Q) ∧ (((hA h 83 ((((nI 12) * x4) + x1)).toNatClampNeg) &&& (nI 1)) = (nI 1) → (vp_in x4 4 ∧ (((vp_in x2 4 ∧ vp_in x3 6) ∧ vp_in x4 4 ∧ vp_in (hA h 81 (x4).toNatClampNeg) 6) ∧ (((rMeet h x2 x3 x4 (hA h 81 (x4).toNatClampNeg)) → Q (nI 0) h) ∧ (¬ (rMeet h x2 x3 x4 (hA h 81 (x4).toNatClampNeg)) → LX12_isFree_138 l E (d + 1) bc bs x1 x2 x3 x4 h Q)))))))))) : LX12_isFree_96 l E (d + 1) bc bs x1 x2 x3 x4 h Q := by
  refine z_iload (pc := 96) dX12_isFree_96 rfl ?_
  refine z_iload_n (pc := 98) dX12_isFree_98 rfl rfl ?_
  refine z_icmp_ge (pc := 99) (tgt := 182) dX12_isFree_99 (by decide) (fun c1 => ?_) (fun c1 => ?_)
  · replace H := H.1 c1
    refine z_iconst (pc := 182) (v := (nI 1)) dX12_isFree_182 (by decide) ?_
    exact z_iret (pc := 183) dX12_isFree_183 rfl rfl ⟨_, rfl, H⟩
  · replace H := H.2 c1
    refine z_aload_n (pc := 102) dX12_isFree_102 rfl rfl ?_
    refine z_getk (pc := 103) dX12_isFree_103 fX12_72 rfl (s_63_26 S.1) ?_
    refine z_bipush (pc := 106) (v := (nI 12)) dX12_isFree_106 (by decide) ?_
    refine z_iload (pc := 108) dX12_isFree_108 rfl ?_
    refine z_imul (pc := 110) dX12_isFree_110 ?_
    refine z_iload_n (pc := 111) dX12_isFree_111 rfl rfl ?_
    refine z_iadd (pc := 112) dX12_isFree_112 ?_
    have c2 := H.1
    replace H := H.2
    refine z_iald (pc := 113) dX12_isFree_113 c2 ?_
    refine z_iconst (pc := 114) (v := (nI 1)) dX12_isFree_114 (by decide) ?_
    refine z_iand (pc := 115) dX12_isFree_115 ?_
    refine z_iconst (pc := 116) (v := (nI 1)) dX12_isFree_116 (by decide) ?_
    refine z_icmp_ne (pc := 117) (tgt := 138) dX12_isFree_117 (by decide) (fun c3 => ?_) (fun c3 => ?_)
    · replace H := H.1 c3
      exact H
    · replace H := H.2 c3
      refine z_aload_n (pc := 120) dX12_isFree_120 rfl rfl ?_
      refine z_iload_n (pc := 121) dX12_isFree_121 rfl rfl ?_
      refine z_iload_n (pc := 122) dX12_isFree_122 rfl rfl ?_
      refine z_iload (pc := 123) dX12_isFree_123 rfl ?_
      refine z_aload_n (pc := 125) dX12_isFree_125 rfl rfl ?_
      refine z_getk (pc := 126) dX12_isFree_126 fX12_66 rfl (s_63_24 S.1) ?_
      refine z_iload (pc := 129) dX12_isFree_129 rfl ?_
      have c4 := H.1
      replace H := H.2
      refine z_iald (pc := 131) dX12_isFree_131 c4 ?_
      have c5 := H.1
      replace H := H.2
      refine y_VI (pc := 132) (bc := bc) (bs := bs) (mc := 0) (ms := 0) (As := [.inl x2, .inl x3, .inl x4, .inl (hA h 81 (x4).toNatClampNeg)]) (rest := []) dX12_isFree_132 kX12_meet lX12_190 ⟨_, _, rfl⟩ rfl rfl (c_meet S.1 (by omega) c5 ?_)
      refine z_if_ne (pc := 135) (tgt := 174) dX12_isFree_135 (by decide) (fun c6 => ?_) (fun c6 => ?_)
      · replace H := H.1 (bI1.mp c6)
        refine z_iconst (pc := 174) (v := (nI 0)) dX12_isFree_174 (by decide) ?_
        exact z_iret (pc := 175) dX12_isFree_175 rfl rfl ⟨_, rfl, H⟩
      · replace H := H.2 (bI0.mp c6)
        exact H

set_option maxRecDepth 20000 in
theorem bX12_isFree_138 {l : Launch} {E : eE} {d bc bs : Nat} {h : aH} {Q : Int32 → aH → Prop} {x1 : Int32} {x2 : Int32} {x3 : Int32} {x4 : Int32} (S : SR h) (hd : 1 ≤ d) (H : (vp_in (((nI 12) * x4) + x1) 48 ∧ ((¬ ((hA h 83 ((((nI 12) * x4) + x1)).toNatClampNeg) &&& (nI 2)) = (nI 2) → LX12_isFree_96 l E (d + 1) bc bs x1 x2 x3 (x4 + (nI 1)) h Q) ∧ (((hA h 83 ((((nI 12) * x4) + x1)).toNatClampNeg) &&& (nI 2)) = (nI 2) → (vp_in x4 4 ∧ (((vp_in x2 4 ∧ vp_in x3 6) ∧ vp_in x4 4 ∧ vp_in (hA h 82 (x4).toNatClampNeg) 6) ∧ ((¬ (rMeet h x2 x3 x4 (hA h 82 (x4).toNatClampNeg)) → LX12_isFree_96 l E (d + 1) bc bs x1 x2 x3 (x4 + (nI 1)) h Q) ∧ ((rMeet h x2 x3 x4 (hA h 82 (x4).toNatClampNeg)) → Q (nI 0) h)))))))) : LX12_isFree_138 l E (d + 1) bc bs x1 x2 x3 x4 h Q := by
  refine z_aload_n (pc := 138) dX12_isFree_138 rfl rfl ?_
  refine z_getk (pc := 139) dX12_isFree_139 fX12_72 rfl (s_63_26 S.1) ?_
  refine z_bipush (pc := 142) (v := (nI 12)) dX12_isFree_142 (by decide) ?_
  refine z_iload (pc := 144) dX12_isFree_144 rfl ?_
  refine z_imul (pc := 146) dX12_isFree_146 ?_
  refine z_iload_n (pc := 147) dX12_isFree_147 rfl rfl ?_
  refine z_iadd (pc := 148) dX12_isFree_148 ?_
  have c1 := H.1
  replace H := H.2
  refine z_iald (pc := 149) dX12_isFree_149 c1 ?_
  refine z_iconst (pc := 150) (v := (nI 2)) dX12_isFree_150 (by decide) ?_
  refine z_iand (pc := 151) dX12_isFree_151 ?_
  refine z_iconst (pc := 152) (v := (nI 2)) dX12_isFree_152 (by decide) ?_
  refine z_icmp_ne (pc := 153) (tgt := 176) dX12_isFree_153 (by decide) (fun c2 => ?_) (fun c2 => ?_)
  · replace H := H.1 c2
    refine z_iinc (pc := 176) (v := (x4 + (nI 1))) (ls' := [some (.inr (some (0, 12, 63))), some (.inl x1), some (.inl x2), some (.inl x3), some (.inl (x4 + (nI 1)))]) dX12_isFree_176 rfl (by rw [show Int32.ofInt (1) = (nI 1) by decide]) rfl ?_
    refine z_goto (pc := 179) (tgt := 96) dX12_isFree_179 (by decide) ?_
    exact H
  · replace H := H.2 c2
    refine z_aload_n (pc := 156) dX12_isFree_156 rfl rfl ?_
    refine z_iload_n (pc := 157) dX12_isFree_157 rfl rfl ?_
    refine z_iload_n (pc := 158) dX12_isFree_158 rfl rfl ?_
    refine z_iload (pc := 159) dX12_isFree_159 rfl ?_
    refine z_aload_n (pc := 161) dX12_isFree_161 rfl rfl ?_
    refine z_getk (pc := 162) dX12_isFree_162 fX12_69 rfl (s_63_25 S.1) ?_
    refine z_iload (pc := 165) dX12_isFree_165 rfl ?_
    have c3 := H.1
    replace H := H.2
    refine z_iald (pc := 167) dX12_isFree_167 c3 ?_
    have c4 := H.1
    replace H := H.2
    refine y_VI (pc := 168) (bc := bc) (bs := bs) (mc := 0) (ms := 0) (As := [.inl x2, .inl x3, .inl x4, .inl (hA h 82 (x4).toNatClampNeg)]) (rest := []) dX12_isFree_168 kX12_meet lX12_190 ⟨_, _, rfl⟩ rfl rfl (c_meet S.1 (by omega) c4 ?_)
    refine z_if_eq (pc := 171) (tgt := 176) dX12_isFree_171 (by decide) (fun c5 => ?_) (fun c5 => ?_)
    · replace H := H.1 (bI0.mp c5)
      refine z_iinc (pc := 176) (v := (x4 + (nI 1))) (ls' := [some (.inr (some (0, 12, 63))), some (.inl x1), some (.inl x2), some (.inl x3), some (.inl (x4 + (nI 1)))]) dX12_isFree_176 rfl (by rw [show Int32.ofInt (1) = (nI 1) by decide]) rfl ?_
      refine z_goto (pc := 179) (tgt := 96) dX12_isFree_179 (by decide) ?_
      exact H
    · replace H := H.2 (bI1.mp c5)
      refine z_iconst (pc := 174) (v := (nI 0)) dX12_isFree_174 (by decide) ?_
      exact z_iret (pc := 175) dX12_isFree_175 rfl rfl ⟨_, rfl, H⟩

abbrev LX12_asksFree_2 (l : Launch) (E : eE) (d bc bs : Nat) (x1 : Int32) (x2 : Int32) (h : aH) (Q : aH → Prop) : Prop := TV l E mX12_asksFree d bc bs 2 [some (.inr (some (0, 12, 63))), some (.inl x1), some (.inl x2), none] [] h Q

abbrev LX12_asksFree_12 (l : Launch) (E : eE) (d bc bs : Nat) (x1 : Int32) (x2 : Int32) (x3 : Int32) (h : aH) (Q : aH → Prop) : Prop := TV l E mX12_asksFree d bc bs 12 [some (.inr (some (0, 12, 63))), some (.inl x1), some (.inl x2), some (.inl x3)] [] h Q

set_option maxRecDepth 20000 in
theorem bX12_asksFree_0 {l : Launch} {E : eE} {d bc bs : Nat} {h : aH} {Q : aH → Prop} {x1 : Int32} (S : SH h) (H : LX12_asksFree_2 l E (d + 1) bc bs x1 (nI 0) h Q) : CV l E (d + 1) bc bs mX12_asksFree [.inr (some (0, 12, 63)), .inl x1] h Q := by
  refine CV.of (by decide) rfl ?_
  show TV l E mX12_asksFree (d + 1) bc bs 0 [some (.inr (some (0, 12, 63))), some (.inl x1), none, none] [] h Q
  refine z_iconst (pc := 0) (v := (nI 0)) dX12_asksFree_0 (by decide) ?_
  refine z_istore_n (pc := 1) (ls' := [some (.inr (some (0, 12, 63))), some (.inl x1), some (.inl (nI 0)), none]) dX12_asksFree_1 rfl rfl rfl ?_
  exact H

set_option maxRecDepth 20000 in
theorem bX12_asksFree_2 {l : Launch} {E : eE} {d bc bs : Nat} {h : aH} {Q : aH → Prop} {x1 : Int32} {x2 : Int32} (S : SH h) (H : (((hI h 63 3) ≤ x2 → Q h) ∧ (¬ (hI h 63 3) ≤ x2 → LX12_asksFree_12 l E (d + 1) bc bs x1 x2 (nI 0) h Q))) : LX12_asksFree_2 l E (d + 1) bc bs x1 x2 h Q := by
  refine z_iload_n (pc := 2) dX12_asksFree_2 rfl rfl ?_
  refine z_aload_n (pc := 3) dX12_asksFree_3 rfl rfl ?_
  refine z_geti (pc := 4) dX12_asksFree_4 fX12_123 rfl ?_
  refine z_icmp_ge (pc := 7) (tgt := 69) dX12_asksFree_7 (by decide) (fun c1 => ?_) (fun c1 => ?_)
  · replace H := H.1 c1
    exact z_ret (pc := 69) dX12_asksFree_69 rfl ⟨rfl, H⟩
  · replace H := H.2 c1
    refine z_iconst (pc := 10) (v := (nI 0)) dX12_asksFree_10 (by decide) ?_
    refine z_istore_n (pc := 11) (ls' := [some (.inr (some (0, 12, 63))), some (.inl x1), some (.inl x2), some (.inl (nI 0))]) dX12_asksFree_11 rfl rfl rfl ?_
    exact H

set_option maxRecDepth 20000 in
theorem bX12_asksFree_12 {l : Launch} {E : eE} {d bc bs : Nat} {h : aH} {Q : aH → Prop} {x1 : Int32} {x2 : Int32} {x3 : Int32} (S : SH h) (hd : 1 ≤ d) (H : (vp_in x1 4 ∧ (((hA h 77 (x1).toNatClampNeg) ≤ x3 → LX12_asksFree_2 l E (d + 1) bc bs x1 (x2 + (nI 1)) h Q) ∧ (¬ (hA h 77 (x1).toNatClampNeg) ≤ x3 → ((vp_in x1 4 ∧ vp_in x3 6) ∧ ((¬ (rSlot h x1 x3 + hA h 74 (x1).toNatClampNeg ≤ nI 17472) → (vp_in (((nI 6) * x2) + x3) 72 ∧ LX12_asksFree_12 l E (d + 1) bc bs x1 x2 (x3 + (nI 1)) (stA h 84 ((((nI 6) * x2) + x3)).toNatClampNeg (vp_nar .boolean (nI 0))) Q)) ∧ ((rSlot h x1 x3 + hA h 74 (x1).toNatClampNeg ≤ nI 17472) → (CI l E d 0 0 mX12_isFree [.inr (some (0, 12, 63)), .inl x2, .inl x1, .inl x3] h (fun v6 h6 => SH h6 ∧ ((v6 = 0 → (vp_in (((nI 6) * x2) + x3) 72 ∧ LX12_asksFree_12 l E (d + 1) bc bs x1 x2 (x3 + (nI 1)) (stA h6 84 ((((nI 6) * x2) + x3)).toNatClampNeg (vp_nar .boolean (nI 0))) Q)) ∧ (¬ v6 = 0 → (vp_in (((nI 6) * x2) + x3) 72 ∧ LX12_asksFree_12 l E (d + 1) bc bs x1 x2 (x3 + (nI 1)) (stA h6 84 ((((nI 6) * x2) + x3)).toNatClampNeg (vp_nar .boolean (nI 1))) Q)))))))))))) : LX12_asksFree_12 l E (d + 1) bc bs x1 x2 x3 h Q := by
  refine z_iload_n (pc := 12) dX12_asksFree_12 rfl rfl ?_
  refine z_aload_n (pc := 13) dX12_asksFree_13 rfl rfl ?_
  refine z_getk (pc := 14) dX12_asksFree_14 fX12_54 rfl (s_63_18 S) ?_
  refine z_iload_n (pc := 17) dX12_asksFree_17 rfl rfl ?_
  have c1 := H.1
  replace H := H.2
  refine z_iald (pc := 18) dX12_asksFree_18 c1 ?_
  refine z_icmp_ge (pc := 19) (tgt := 63) dX12_asksFree_19 (by decide) (fun c2 => ?_) (fun c2 => ?_)
  · replace H := H.1 c2
    refine z_iinc (pc := 63) (v := (x2 + (nI 1))) (ls' := [some (.inr (some (0, 12, 63))), some (.inl x1), some (.inl (x2 + (nI 1))), some (.inl x3)]) dX12_asksFree_63 rfl (by rw [show Int32.ofInt (1) = (nI 1) by decide]) rfl ?_
    refine z_goto (pc := 66) (tgt := 2) dX12_asksFree_66 (by decide) ?_
    exact z_drop (ls' := [some (.inr (some (0, 12, 63))), some (.inl x1), some (.inl (x2 + (nI 1))), none]) (by simp [dropL]) H
  · replace H := H.2 c2
    refine z_aload_n (pc := 22) dX12_asksFree_22 rfl rfl ?_
    refine z_getk (pc := 23) dX12_asksFree_23 fX12_75 rfl (s_63_27 S) ?_
    refine z_bipush (pc := 26) (v := (nI 6)) dX12_asksFree_26 (by decide) ?_
    refine z_iload_n (pc := 28) dX12_asksFree_28 rfl rfl ?_
    refine z_imul (pc := 29) dX12_asksFree_29 ?_
    refine z_iload_n (pc := 30) dX12_asksFree_30 rfl rfl ?_
    refine z_iadd (pc := 31) dX12_asksFree_31 ?_
    refine z_aload_n (pc := 32) dX12_asksFree_32 rfl rfl ?_
    refine z_iload_n (pc := 33) dX12_asksFree_33 rfl rfl ?_
    refine z_iload_n (pc := 34) dX12_asksFree_34 rfl rfl ?_
    have c3 := H.1
    replace H := H.2
    refine y_VI (pc := 35) (bc := bc) (bs := bs) (mc := 0) (ms := 0) (As := [.inl x1, .inl x3]) (rest := [.inl (((nI 6) * x2) + x3), .inr (some (2, 72, 84))]) dX12_asksFree_35 kX12_isIn lX12_193 ⟨_, _, rfl⟩ rfl rfl (c_isInO S (by omega) c3 ?_)
    refine z_if_eq (pc := 38) (tgt := 55) dX12_asksFree_38 (by decide) (fun c4 => ?_) (fun c4 => ?_)
    · replace H := H.1 (bI0.mp c4)
      refine z_iconst (pc := 55) (v := (nI 0)) dX12_asksFree_55 (by decide) ?_
      have c5 := H.1
      replace H := H.2
      refine z_zast (pc := 56) dX12_asksFree_56 c5 ?_
      refine z_iinc (pc := 57) (v := (x3 + (nI 1))) (ls' := [some (.inr (some (0, 12, 63))), some (.inl x1), some (.inl x2), some (.inl (x3 + (nI 1)))]) dX12_asksFree_57 rfl (by rw [show Int32.ofInt (1) = (nI 1) by decide]) rfl ?_
      refine z_goto (pc := 60) (tgt := 12) dX12_asksFree_60 (by decide) ?_
      exact H
    · replace H := H.2 (bI1.mp c4)
      refine z_aload_n (pc := 41) dX12_asksFree_41 rfl rfl ?_
      refine z_iload_n (pc := 42) dX12_asksFree_42 rfl rfl ?_
      refine z_iload_n (pc := 43) dX12_asksFree_43 rfl rfl ?_
      refine z_iload_n (pc := 44) dX12_asksFree_44 rfl rfl ?_
      refine y_VI (pc := 45) (bc := bc) (bs := bs) (mc := 0) (ms := 0) (As := [.inl x2, .inl x1, .inl x3]) (rest := [.inl (((nI 6) * x2) + x3), .inr (some (2, 72, 84))]) dX12_asksFree_45 kX12_isFree lX12_197 ⟨_, _, rfl⟩ rfl rfl (H.use (fun v6 h6 H => ?_))
      have S6 := H.1
      replace H := H.2
      refine z_if_eq (pc := 48) (tgt := 55) dX12_asksFree_48 (by decide) (fun c7 => ?_) (fun c7 => ?_)
      · replace H := H.1 c7
        refine z_iconst (pc := 55) (v := (nI 0)) dX12_asksFree_55 (by decide) ?_
        have c8 := H.1
        replace H := H.2
        refine z_zast (pc := 56) dX12_asksFree_56 c8 ?_
        refine z_iinc (pc := 57) (v := (x3 + (nI 1))) (ls' := [some (.inr (some (0, 12, 63))), some (.inl x1), some (.inl x2), some (.inl (x3 + (nI 1)))]) dX12_asksFree_57 rfl (by rw [show Int32.ofInt (1) = (nI 1) by decide]) rfl ?_
        refine z_goto (pc := 60) (tgt := 12) dX12_asksFree_60 (by decide) ?_
        exact H
      · replace H := H.2 c7
        refine z_iconst (pc := 51) (v := (nI 1)) dX12_asksFree_51 (by decide) ?_
        refine z_goto (pc := 52) (tgt := 56) dX12_asksFree_52 (by decide) ?_
        have c9 := H.1
        replace H := H.2
        refine z_zast (pc := 56) dX12_asksFree_56 c9 ?_
        refine z_iinc (pc := 57) (v := (x3 + (nI 1))) (ls' := [some (.inr (some (0, 12, 63))), some (.inl x1), some (.inl x2), some (.inl (x3 + (nI 1)))]) dX12_asksFree_57 rfl (by rw [show Int32.ofInt (1) = (nI 1) by decide]) rfl ?_
        refine z_goto (pc := 60) (tgt := 12) dX12_asksFree_60 (by decide) ?_
        exact H

abbrev LX12_comesTo_125 (l : Launch) (E : eE) (d bc bs : Nat) (x1 : Int32) (x2 : Int32) (x3 : Int32) (x4 : Int32) (x5 : Int32) (x6 : Int32) (h : aH) (Q : Int32 → aH → Prop) : Prop := TI l E mX12_comesTo d bc bs 125 [some (.inr (some (0, 12, 63))), some (.inl x1), some (.inl x2), some (.inl x3), some (.inl x4), some (.inl x5), some (.inl x6)] [] h Q

set_option maxRecDepth 20000 in
theorem bX12_comesTo_0 {l : Launch} {E : eE} {d bc bs : Nat} {h : aH} {Q : Int32 → aH → Prop} {x1 : Int32} {x2 : Int32} {x3 : Int32} {x4 : Int32} (S : SR h) (H : ((¬ x4 = (-1) → (vp_in (((nI 6) * x1) + x3) 72 ∧ (vp_in (((nI 6) * x1) + x4) 72 ∧ (vp_in x2 4 ∧ ((¬ x1 = (hA h 76 (x2).toNatClampNeg) → (vp_in (((nI 12) * x2) + x1) 48 ∧ (((hA h 79 ((((nI 12) * x2) + x1)).toNatClampNeg) = 0 → Q (nI 0) h) ∧ (¬ (hA h 79 ((((nI 12) * x2) + x1)).toNatClampNeg) = 0 → ((¬ (hA h 84 ((((nI 6) * x1) + x3)).toNatClampNeg) = 0 → LX12_comesTo_125 l E (d + 1) bc bs x1 x2 x3 x4 (hA h 84 ((((nI 6) * x1) + x3)).toNatClampNeg) (hA h 84 ((((nI 6) * x1) + x4)).toNatClampNeg) h Q) ∧ ((hA h 84 ((((nI 6) * x1) + x3)).toNatClampNeg) = 0 → ((¬ (hA h 84 ((((nI 6) * x1) + x4)).toNatClampNeg) = 0 → LX12_comesTo_125 l E (d + 1) bc bs x1 x2 x3 x4 (hA h 84 ((((nI 6) * x1) + x3)).toNatClampNeg) (hA h 84 ((((nI 6) * x1) + x4)).toNatClampNeg) h Q) ∧ ((hA h 84 ((((nI 6) * x1) + x4)).toNatClampNeg) = 0 → Q (nI 0) h)))))))) ∧ (x1 = (hA h 76 (x2).toNatClampNeg) → (((hA h 84 ((((nI 6) * x1) + x3)).toNatClampNeg) = 0 → (((hA h 84 ((((nI 6) * x1) + x4)).toNatClampNeg) = 0 → Q ((nI 0) + (nI 0)) h) ∧ (¬ (hA h 84 ((((nI 6) * x1) + x4)).toNatClampNeg) = 0 → Q ((nI 0) + (nI 2)) h))) ∧ (¬ (hA h 84 ((((nI 6) * x1) + x3)).toNatClampNeg) = 0 → (((hA h 84 ((((nI 6) * x1) + x4)).toNatClampNeg) = 0 → Q ((nI 1) + (nI 0)) h) ∧ (¬ (hA h 84 ((((nI 6) * x1) + x4)).toNatClampNeg) = 0 → Q ((nI 1) + (nI 2)) h)))))))))) ∧ (x4 = (-1) → (vp_in (((nI 12) * x2) + x1) 48 ∧ (((hA h 79 ((((nI 12) * x2) + x1)).toNatClampNeg) ≤ 0 → Q (nI 0) h) ∧ (¬ (hA h 79 ((((nI 12) * x2) + x1)).toNatClampNeg) ≤ 0 → (vp_in (((nI 6) * x1) + x3) 72 ∧ (((hA h 84 ((((nI 6) * x1) + x3)).toNatClampNeg) = 0 → Q (nI 0) h) ∧ (¬ (hA h 84 ((((nI 6) * x1) + x3)).toNatClampNeg) = 0 → Q (nI 1) h))))))))) : CI l E (d + 1) bc bs mX12_comesTo [.inr (some (0, 12, 63)), .inl x1, .inl x2, .inl x3, .inl x4] h Q := by
  refine CI.of (by decide) rfl ?_
  show TI l E mX12_comesTo (d + 1) bc bs 0 [some (.inr (some (0, 12, 63))), some (.inl x1), some (.inl x2), some (.inl x3), some (.inl x4), none, none] [] h Q
  refine z_iload (pc := 0) dX12_comesTo_0 rfl ?_
  refine z_iconst (pc := 2) (v := (-1)) dX12_comesTo_2 (by decide) ?_
  refine z_icmp_ne (pc := 3) (tgt := 40) dX12_comesTo_3 (by decide) (fun c1 => ?_) (fun c1 => ?_)
  · replace H := H.1 c1
    refine z_aload_n (pc := 40) dX12_comesTo_40 rfl rfl ?_
    refine z_getk (pc := 41) dX12_comesTo_41 fX12_75 rfl (s_63_27 S.1) ?_
    refine z_bipush (pc := 44) (v := (nI 6)) dX12_comesTo_44 (by decide) ?_
    refine z_iload_n (pc := 46) dX12_comesTo_46 rfl rfl ?_
    refine z_imul (pc := 47) dX12_comesTo_47 ?_
    refine z_iload_n (pc := 48) dX12_comesTo_48 rfl rfl ?_
    refine z_iadd (pc := 49) dX12_comesTo_49 ?_
    have c2 := H.1
    replace H := H.2
    refine z_zald (pc := 50) dX12_comesTo_50 c2 ?_
    refine z_istore (pc := 51) (ls' := [some (.inr (some (0, 12, 63))), some (.inl x1), some (.inl x2), some (.inl x3), some (.inl x4), some (.inl (hA h 84 ((((nI 6) * x1) + x3)).toNatClampNeg)), none]) dX12_comesTo_51 rfl rfl ?_
    refine z_aload_n (pc := 53) dX12_comesTo_53 rfl rfl ?_
    refine z_getk (pc := 54) dX12_comesTo_54 fX12_75 rfl (s_63_27 S.1) ?_
    refine z_bipush (pc := 57) (v := (nI 6)) dX12_comesTo_57 (by decide) ?_
    refine z_iload_n (pc := 59) dX12_comesTo_59 rfl rfl ?_
    refine z_imul (pc := 60) dX12_comesTo_60 ?_
    refine z_iload (pc := 61) dX12_comesTo_61 rfl ?_
    refine z_iadd (pc := 63) dX12_comesTo_63 ?_
    have c3 := H.1
    replace H := H.2
    refine z_zald (pc := 64) dX12_comesTo_64 c3 ?_
    refine z_istore (pc := 65) (ls' := [some (.inr (some (0, 12, 63))), some (.inl x1), some (.inl x2), some (.inl x3), some (.inl x4), some (.inl (hA h 84 ((((nI 6) * x1) + x3)).toNatClampNeg)), some (.inl (hA h 84 ((((nI 6) * x1) + x4)).toNatClampNeg))]) dX12_comesTo_65 rfl rfl ?_
    refine z_iload_n (pc := 67) dX12_comesTo_67 rfl rfl ?_
    refine z_aload_n (pc := 68) dX12_comesTo_68 rfl rfl ?_
    refine z_getk (pc := 69) dX12_comesTo_69 fX12_51 rfl (s_63_17 S.1) ?_
    refine z_iload_n (pc := 72) dX12_comesTo_72 rfl rfl ?_
    have c4 := H.1
    replace H := H.2
    refine z_iald (pc := 73) dX12_comesTo_73 c4 ?_
    refine z_icmp_ne (pc := 74) (tgt := 99) dX12_comesTo_74 (by decide) (fun c5 => ?_) (fun c5 => ?_)
    · replace H := H.1 c5
      refine z_aload_n (pc := 99) dX12_comesTo_99 rfl rfl ?_
      refine z_getk (pc := 100) dX12_comesTo_100 fX12_60 rfl (s_63_20 S.1) ?_
      refine z_bipush (pc := 103) (v := (nI 12)) dX12_comesTo_103 (by decide) ?_
      refine z_iload_n (pc := 105) dX12_comesTo_105 rfl rfl ?_
      refine z_imul (pc := 106) dX12_comesTo_106 ?_
      refine z_iload_n (pc := 107) dX12_comesTo_107 rfl rfl ?_
      refine z_iadd (pc := 108) dX12_comesTo_108 ?_
      have c6 := H.1
      replace H := H.2
      refine z_iald (pc := 109) dX12_comesTo_109 c6 ?_
      refine z_if_eq (pc := 110) (tgt := 123) dX12_comesTo_110 (by decide) (fun c7 => ?_) (fun c7 => ?_)
      · replace H := H.1 c7
        refine z_iconst (pc := 123) (v := (nI 0)) dX12_comesTo_123 (by decide) ?_
        exact z_iret (pc := 124) dX12_comesTo_124 rfl rfl ⟨_, rfl, H⟩
      · replace H := H.2 c7
        refine z_iload (pc := 113) dX12_comesTo_113 rfl ?_
        refine z_if_ne (pc := 115) (tgt := 125) dX12_comesTo_115 (by decide) (fun c8 => ?_) (fun c8 => ?_)
        · replace H := H.1 c8
          exact H
        · replace H := H.2 c8
          refine z_iload (pc := 118) dX12_comesTo_118 rfl ?_
          refine z_if_ne (pc := 120) (tgt := 125) dX12_comesTo_120 (by decide) (fun c9 => ?_) (fun c9 => ?_)
          · replace H := H.1 c9
            exact H
          · replace H := H.2 c9
            refine z_iconst (pc := 123) (v := (nI 0)) dX12_comesTo_123 (by decide) ?_
            exact z_iret (pc := 124) dX12_comesTo_124 rfl rfl ⟨_, rfl, H⟩
    · replace H := H.2 c5
      refine z_iload (pc := 77) dX12_comesTo_77 rfl ?_
      refine z_if_eq (pc := 79) (tgt := 86) dX12_comesTo_79 (by decide) (fun c10 => ?_) (fun c10 => ?_)
      · replace H := H.1 c10
        refine z_iconst (pc := 86) (v := (nI 0)) dX12_comesTo_86 (by decide) ?_
        refine z_iload (pc := 87) dX12_comesTo_87 rfl ?_
        refine z_if_eq (pc := 89) (tgt := 96) dX12_comesTo_89 (by decide) (fun c11 => ?_) (fun c11 => ?_)
        · replace H := H.1 c11
          refine z_iconst (pc := 96) (v := (nI 0)) dX12_comesTo_96 (by decide) ?_
          refine z_iadd (pc := 97) dX12_comesTo_97 ?_
          exact z_iret (pc := 98) dX12_comesTo_98 rfl rfl ⟨_, rfl, H⟩
        · replace H := H.2 c11
          refine z_iconst (pc := 92) (v := (nI 2)) dX12_comesTo_92 (by decide) ?_
          refine z_goto (pc := 93) (tgt := 97) dX12_comesTo_93 (by decide) ?_
          refine z_iadd (pc := 97) dX12_comesTo_97 ?_
          exact z_iret (pc := 98) dX12_comesTo_98 rfl rfl ⟨_, rfl, H⟩
      · replace H := H.2 c10
        refine z_iconst (pc := 82) (v := (nI 1)) dX12_comesTo_82 (by decide) ?_
        refine z_goto (pc := 83) (tgt := 87) dX12_comesTo_83 (by decide) ?_
        refine z_iload (pc := 87) dX12_comesTo_87 rfl ?_
        refine z_if_eq (pc := 89) (tgt := 96) dX12_comesTo_89 (by decide) (fun c12 => ?_) (fun c12 => ?_)
        · replace H := H.1 c12
          refine z_iconst (pc := 96) (v := (nI 0)) dX12_comesTo_96 (by decide) ?_
          refine z_iadd (pc := 97) dX12_comesTo_97 ?_
          exact z_iret (pc := 98) dX12_comesTo_98 rfl rfl ⟨_, rfl, H⟩
        · replace H := H.2 c12
          refine z_iconst (pc := 92) (v := (nI 2)) dX12_comesTo_92 (by decide) ?_
          refine z_goto (pc := 93) (tgt := 97) dX12_comesTo_93 (by decide) ?_
          refine z_iadd (pc := 97) dX12_comesTo_97 ?_
          exact z_iret (pc := 98) dX12_comesTo_98 rfl rfl ⟨_, rfl, H⟩
  · replace H := H.2 c1
    refine z_aload_n (pc := 6) dX12_comesTo_6 rfl rfl ?_
    refine z_getk (pc := 7) dX12_comesTo_7 fX12_60 rfl (s_63_20 S.1) ?_
    refine z_bipush (pc := 10) (v := (nI 12)) dX12_comesTo_10 (by decide) ?_
    refine z_iload_n (pc := 12) dX12_comesTo_12 rfl rfl ?_
    refine z_imul (pc := 13) dX12_comesTo_13 ?_
    refine z_iload_n (pc := 14) dX12_comesTo_14 rfl rfl ?_
    refine z_iadd (pc := 15) dX12_comesTo_15 ?_
    have c13 := H.1
    replace H := H.2
    refine z_iald (pc := 16) dX12_comesTo_16 c13 ?_
    refine z_if_le (pc := 17) (tgt := 38) dX12_comesTo_17 (by decide) (fun c14 => ?_) (fun c14 => ?_)
    · replace H := H.1 c14
      refine z_iconst (pc := 38) (v := (nI 0)) dX12_comesTo_38 (by decide) ?_
      exact z_iret (pc := 39) dX12_comesTo_39 rfl rfl ⟨_, rfl, H⟩
    · replace H := H.2 c14
      refine z_aload_n (pc := 20) dX12_comesTo_20 rfl rfl ?_
      refine z_getk (pc := 21) dX12_comesTo_21 fX12_75 rfl (s_63_27 S.1) ?_
      refine z_bipush (pc := 24) (v := (nI 6)) dX12_comesTo_24 (by decide) ?_
      refine z_iload_n (pc := 26) dX12_comesTo_26 rfl rfl ?_
      refine z_imul (pc := 27) dX12_comesTo_27 ?_
      refine z_iload_n (pc := 28) dX12_comesTo_28 rfl rfl ?_
      refine z_iadd (pc := 29) dX12_comesTo_29 ?_
      have c15 := H.1
      replace H := H.2
      refine z_zald (pc := 30) dX12_comesTo_30 c15 ?_
      refine z_if_eq (pc := 31) (tgt := 38) dX12_comesTo_31 (by decide) (fun c16 => ?_) (fun c16 => ?_)
      · replace H := H.1 c16
        refine z_iconst (pc := 38) (v := (nI 0)) dX12_comesTo_38 (by decide) ?_
        exact z_iret (pc := 39) dX12_comesTo_39 rfl rfl ⟨_, rfl, H⟩
      · replace H := H.2 c16
        refine z_iconst (pc := 34) (v := (nI 1)) dX12_comesTo_34 (by decide) ?_
        refine z_goto (pc := 35) (tgt := 39) dX12_comesTo_35 (by decide) ?_
        exact z_iret (pc := 39) dX12_comesTo_39 rfl rfl ⟨_, rfl, H⟩

set_option maxRecDepth 20000 in
theorem bX12_comesTo_125 {l : Launch} {E : eE} {d bc bs : Nat} {h : aH} {Q : Int32 → aH → Prop} {x1 : Int32} {x2 : Int32} {x3 : Int32} {x4 : Int32} {x5 : Int32} {x6 : Int32} (S : SR h) (hd : 1 ≤ d) (H : ((x5 = 0 → ((x5 = 0 → Q (nI 2) h) ∧ (¬ x5 = 0 → Q (nI 1) h))) ∧ (¬ x5 = 0 → ((x6 = 0 → ((x5 = 0 → Q (nI 2) h) ∧ (¬ x5 = 0 → Q (nI 1) h))) ∧ (¬ x6 = 0 → ((vp_in x2 4 ∧ vp_in x4 6) ∧ (vp_in x2 4 ∧ ((inI x1 (hI h 63 3)) ∧ ((0 ≤ ((rSlot h x2 x4)).toInt ∧ 1 ≤ ((hA h 74 (x2).toNatClampNeg)).toInt ∧ ((hA h 74 (x2).toNatClampNeg)).toInt ≤ 6 ∧ ((rSlot h x2 x4)).toInt + ((hA h 74 (x2).toNatClampNeg)).toInt ≤ 17472) ∧ ((0 ≤ ((hI h 63 23)).toInt ∧ ((hI h 63 23)).toInt ≤ (hI h 63 8).toInt) ∧ ((vp_in x2 4 ∧ vp_in x3 6) ∧ ((inI x1 (hI h 63 3)) ∧ ((0 ≤ ((rSlot h x2 x3)).toInt ∧ 1 ≤ ((hA h 74 (x2).toNatClampNeg)).toInt ∧ ((hA h 74 (x2).toNatClampNeg)).toInt ≤ 6 ∧ ((rSlot h x2 x3)).toInt + ((hA h 74 (x2).toNatClampNeg)).toInt ≤ 17472) ∧ ((0 ≤ ((hI h 63 23)).toInt ∧ ((hI h 63 23)).toInt ≤ (hI h 63 8).toInt) ∧ (((rCosts h x1 (rSlot h x2 x3) ((hI h 63 23)).toNatClampNeg ((hA h 74 (x2).toNatClampNeg)).toNatClampNeg) ≤ (rCosts h x1 (rSlot h x2 x4) ((hI h 63 23)).toNatClampNeg ((hA h 74 (x2).toNatClampNeg)).toNatClampNeg) → Q (nI 1) h) ∧ (¬ (rCosts h x1 (rSlot h x2 x3) ((hI h 63 23)).toNatClampNeg ((hA h 74 (x2).toNatClampNeg)).toNatClampNeg) ≤ (rCosts h x1 (rSlot h x2 x4) ((hI h 63 23)).toNatClampNeg ((hA h 74 (x2).toNatClampNeg)).toNatClampNeg) → Q (nI 2) h)))))))))))))))) : LX12_comesTo_125 l E (d + 1) bc bs x1 x2 x3 x4 x5 x6 h Q := by
  refine z_iload (pc := 125) dX12_comesTo_125 rfl ?_
  refine z_if_eq (pc := 127) (tgt := 187) dX12_comesTo_127 (by decide) (fun c1 => ?_) (fun c1 => ?_)
  · replace H := H.1 c1
    refine z_iload (pc := 187) dX12_comesTo_187 rfl ?_
    refine z_if_eq (pc := 189) (tgt := 196) dX12_comesTo_189 (by decide) (fun c2 => ?_) (fun c2 => ?_)
    · replace H := H.1 c2
      refine z_iconst (pc := 196) (v := (nI 2)) dX12_comesTo_196 (by decide) ?_
      exact z_iret (pc := 197) dX12_comesTo_197 rfl rfl ⟨_, rfl, H⟩
    · replace H := H.2 c2
      refine z_iconst (pc := 192) (v := (nI 1)) dX12_comesTo_192 (by decide) ?_
      refine z_goto (pc := 193) (tgt := 197) dX12_comesTo_193 (by decide) ?_
      exact z_iret (pc := 197) dX12_comesTo_197 rfl rfl ⟨_, rfl, H⟩
  · replace H := H.2 c1
    refine z_iload (pc := 130) dX12_comesTo_130 rfl ?_
    refine z_if_eq (pc := 132) (tgt := 187) dX12_comesTo_132 (by decide) (fun c3 => ?_) (fun c3 => ?_)
    · replace H := H.1 c3
      refine z_iload (pc := 187) dX12_comesTo_187 rfl ?_
      refine z_if_eq (pc := 189) (tgt := 196) dX12_comesTo_189 (by decide) (fun c4 => ?_) (fun c4 => ?_)
      · replace H := H.1 c4
        refine z_iconst (pc := 196) (v := (nI 2)) dX12_comesTo_196 (by decide) ?_
        exact z_iret (pc := 197) dX12_comesTo_197 rfl rfl ⟨_, rfl, H⟩
      · replace H := H.2 c4
        refine z_iconst (pc := 192) (v := (nI 1)) dX12_comesTo_192 (by decide) ?_
        refine z_goto (pc := 193) (tgt := 197) dX12_comesTo_193 (by decide) ?_
        exact z_iret (pc := 197) dX12_comesTo_197 rfl rfl ⟨_, rfl, H⟩
    · replace H := H.2 c3
      refine z_aload_n (pc := 135) dX12_comesTo_135 rfl rfl ?_
      refine z_iload_n (pc := 136) dX12_comesTo_136 rfl rfl ?_
      refine z_aload_n (pc := 137) dX12_comesTo_137 rfl rfl ?_
      refine z_iload_n (pc := 138) dX12_comesTo_138 rfl rfl ?_
      refine z_iload (pc := 139) dX12_comesTo_139 rfl ?_
      have c5 := H.1
      replace H := H.2
      refine y_VI (pc := 141) (bc := bc) (bs := bs) (mc := 0) (ms := 0) (As := [.inl x2, .inl x4]) (rest := [.inl x1, .inr (some (0, 12, 63))]) dX12_comesTo_141 kX12_slotOf lX12_184 ⟨_, _, rfl⟩ rfl rfl (c_slotOf S.1 c5 ?_)
      refine z_aload_n (pc := 144) dX12_comesTo_144 rfl rfl ?_
      refine z_getk (pc := 145) dX12_comesTo_145 fX12_45 rfl (s_63_15 S.1) ?_
      refine z_iload_n (pc := 148) dX12_comesTo_148 rfl rfl ?_
      have c6 := H.1
      replace H := H.2
      refine z_iald (pc := 149) dX12_comesTo_149 c6 ?_
      refine z_aload_n (pc := 150) dX12_comesTo_150 rfl rfl ?_
      refine z_geti (pc := 151) dX12_comesTo_151 fX12_187 rfl ?_
      have c7 := H.1
      replace H := H.2
      have c8 := H.1
      replace H := H.2
      have c9 := H.1
      replace H := H.2
      refine y_VI (pc := 154) (bc := bc) (bs := bs) (mc := 0) (ms := 0) (As := [.inl x1, .inl (rSlot h x2 x4), .inl (hA h 74 (x2).toNatClampNeg), .inl (hI h 63 23)]) (rest := []) dX12_comesTo_154 kX12_costs lX12_178 ⟨_, _, rfl⟩ rfl rfl (c_costs S (by omega) c7 c8 c9 ?_)
      refine z_aload_n (pc := 157) dX12_comesTo_157 rfl rfl ?_
      refine z_iload_n (pc := 158) dX12_comesTo_158 rfl rfl ?_
      refine z_aload_n (pc := 159) dX12_comesTo_159 rfl rfl ?_
      refine z_iload_n (pc := 160) dX12_comesTo_160 rfl rfl ?_
      refine z_iload_n (pc := 161) dX12_comesTo_161 rfl rfl ?_
      have c10 := H.1
      replace H := H.2
      refine y_VI (pc := 162) (bc := bc) (bs := bs) (mc := 0) (ms := 0) (As := [.inl x2, .inl x3]) (rest := [.inl x1, .inr (some (0, 12, 63)), .inl (rCosts h x1 (rSlot h x2 x4) ((hI h 63 23)).toNatClampNeg ((hA h 74 (x2).toNatClampNeg)).toNatClampNeg)]) dX12_comesTo_162 kX12_slotOf lX12_184 ⟨_, _, rfl⟩ rfl rfl (c_slotOf S.1 c10 ?_)
      refine z_aload_n (pc := 165) dX12_comesTo_165 rfl rfl ?_
      refine z_getk (pc := 166) dX12_comesTo_166 fX12_45 rfl (s_63_15 S.1) ?_
      refine z_iload_n (pc := 169) dX12_comesTo_169 rfl rfl ?_
      refine z_iald (pc := 170) dX12_comesTo_170 c6 ?_
      refine z_aload_n (pc := 171) dX12_comesTo_171 rfl rfl ?_
      refine z_geti (pc := 172) dX12_comesTo_172 fX12_187 rfl ?_
      have c11 := H.1
      replace H := H.2
      have c12 := H.1
      replace H := H.2
      have c13 := H.1
      replace H := H.2
      refine y_VI (pc := 175) (bc := bc) (bs := bs) (mc := 0) (ms := 0) (As := [.inl x1, .inl (rSlot h x2 x3), .inl (hA h 74 (x2).toNatClampNeg), .inl (hI h 63 23)]) (rest := [.inl (rCosts h x1 (rSlot h x2 x4) ((hI h 63 23)).toNatClampNeg ((hA h 74 (x2).toNatClampNeg)).toNatClampNeg)]) dX12_comesTo_175 kX12_costs lX12_178 ⟨_, _, rfl⟩ rfl rfl (c_costs S (by omega) c11 c12 c13 ?_)
      refine z_icmp_ge (pc := 178) (tgt := 185) dX12_comesTo_178 (by decide) (fun c14 => ?_) (fun c14 => ?_)
      · replace H := H.1 c14
        refine z_iconst (pc := 185) (v := (nI 1)) dX12_comesTo_185 (by decide) ?_
        exact z_iret (pc := 186) dX12_comesTo_186 rfl rfl ⟨_, rfl, H⟩
      · replace H := H.2 c14
        refine z_iconst (pc := 181) (v := (nI 2)) dX12_comesTo_181 (by decide) ?_
        refine z_goto (pc := 182) (tgt := 186) dX12_comesTo_182 (by decide) ?_
        exact z_iret (pc := 186) dX12_comesTo_186 rfl rfl ⟨_, rfl, H⟩

abbrev LX12_comeAll_2 (l : Launch) (E : eE) (d bc bs : Nat) (x1 : Int32) (x2 : Int32) (h : aH) (Q : aH → Prop) : Prop := TV l E mX12_comeAll d bc bs 2 [some (.inr (some (0, 12, 63))), some (.inl x1), some (.inl x2), none] [] h Q

abbrev LX12_comeAll_9 (l : Launch) (E : eE) (d bc bs : Nat) (x1 : Int32) (x2 : Int32) (x3 : Int32) (h : aH) (Q : aH → Prop) : Prop := TV l E mX12_comeAll d bc bs 9 [some (.inr (some (0, 12, 63))), some (.inl x1), some (.inl x2), some (.inl x3)] [] h Q

abbrev LX12_comeAll_53 (l : Launch) (E : eE) (d bc bs : Nat) (x1 : Int32) (x2 : Int32) (x3 : Int32) (h : aH) (Q : aH → Prop) : Prop := TV l E mX12_comeAll d bc bs 53 [some (.inr (some (0, 12, 63))), some (.inl x1), some (.inl x2), some (.inl x3)] [] h Q

set_option maxRecDepth 20000 in
theorem bX12_comeAll_0 {l : Launch} {E : eE} {d bc bs : Nat} {h : aH} {Q : aH → Prop} {x1 : Int32} (S : SH h) (H : LX12_comeAll_2 l E (d + 1) bc bs x1 (nI 0) h Q) : CV l E (d + 1) bc bs mX12_comeAll [.inr (some (0, 12, 63)), .inl x1] h Q := by
  refine CV.of (by decide) rfl ?_
  show TV l E mX12_comeAll (d + 1) bc bs 0 [some (.inr (some (0, 12, 63))), some (.inl x1), none, none] [] h Q
  refine z_iconst (pc := 0) (v := (nI 0)) dX12_comeAll_0 (by decide) ?_
  refine z_istore_n (pc := 1) (ls' := [some (.inr (some (0, 12, 63))), some (.inl x1), some (.inl (nI 0)), none]) dX12_comeAll_1 rfl rfl rfl ?_
  exact H

set_option maxRecDepth 20000 in
theorem bX12_comeAll_2 {l : Launch} {E : eE} {d bc bs : Nat} {h : aH} {Q : aH → Prop} {x1 : Int32} {x2 : Int32} (S : SH h) (H : ((x1 ≤ x2 → Q h) ∧ (¬ x1 ≤ x2 → LX12_comeAll_9 l E (d + 1) bc bs x1 x2 (nI 0) h Q))) : LX12_comeAll_2 l E (d + 1) bc bs x1 x2 h Q := by
  refine z_iload_n (pc := 2) dX12_comeAll_2 rfl rfl ?_
  refine z_iload_n (pc := 3) dX12_comeAll_3 rfl rfl ?_
  refine z_icmp_ge (pc := 4) (tgt := 102) dX12_comeAll_4 (by decide) (fun c1 => ?_) (fun c1 => ?_)
  · replace H := H.1 c1
    exact z_ret (pc := 102) dX12_comeAll_102 rfl ⟨rfl, H⟩
  · replace H := H.2 c1
    refine z_iconst (pc := 7) (v := (nI 0)) dX12_comeAll_7 (by decide) ?_
    refine z_istore_n (pc := 8) (ls' := [some (.inr (some (0, 12, 63))), some (.inl x1), some (.inl x2), some (.inl (nI 0))]) dX12_comeAll_8 rfl rfl rfl ?_
    exact H

set_option maxRecDepth 20000 in
theorem bX12_comeAll_9 {l : Launch} {E : eE} {d bc bs : Nat} {h : aH} {Q : aH → Prop} {x1 : Int32} {x2 : Int32} {x3 : Int32} (S : SH h) (H : (((nI 12) ≤ x3 → (vp_in x2 4 ∧ ((¬ (hA h 81 (x2).toNatClampNeg) = (-1) → (CV l E d 0 0 mX12_asksFree [.inr (some (0, 12, 63)), .inl x2] h (fun h4 => SH h4 ∧ LX12_comeAll_53 l E (d + 1) bc bs x1 x2 (nI 0) h4 Q))) ∧ ((hA h 81 (x2).toNatClampNeg) = (-1) → LX12_comeAll_2 l E (d + 1) bc bs x1 (x2 + (nI 1)) h Q)))) ∧ (¬ (nI 12) ≤ x3 → (vp_in (((nI 12) * x2) + x3) 48 ∧ LX12_comeAll_9 l E (d + 1) bc bs x1 x2 (x3 + (nI 1)) (stA h 83 ((((nI 12) * x2) + x3)).toNatClampNeg (nI 0)) Q)))) : LX12_comeAll_9 l E (d + 1) bc bs x1 x2 x3 h Q := by
  refine z_iload_n (pc := 9) dX12_comeAll_9 rfl rfl ?_
  refine z_bipush (pc := 10) (v := (nI 12)) dX12_comeAll_10 (by decide) ?_
  refine z_icmp_ge (pc := 12) (tgt := 33) dX12_comeAll_12 (by decide) (fun c1 => ?_) (fun c1 => ?_)
  · replace H := H.1 c1
    refine z_aload_n (pc := 33) dX12_comeAll_33 rfl rfl ?_
    refine z_getk (pc := 34) dX12_comeAll_34 fX12_66 rfl (s_63_24 S) ?_
    refine z_iload_n (pc := 37) dX12_comeAll_37 rfl rfl ?_
    have c2 := H.1
    replace H := H.2
    refine z_iald (pc := 38) dX12_comeAll_38 c2 ?_
    refine z_iconst (pc := 39) (v := (-1)) dX12_comeAll_39 (by decide) ?_
    refine z_icmp_ne (pc := 40) (tgt := 46) dX12_comeAll_40 (by decide) (fun c3 => ?_) (fun c3 => ?_)
    · replace H := H.1 c3
      refine z_aload_n (pc := 46) dX12_comeAll_46 rfl rfl ?_
      refine z_iload_n (pc := 47) dX12_comeAll_47 rfl rfl ?_
      refine y_VV (pc := 48) (bc := bc) (bs := bs) (mc := 0) (ms := 0) (As := [.inl x2]) (rest := []) dX12_comeAll_48 kX12_asksFree lX12_201 ⟨_, _, rfl⟩ rfl rfl (H.use (fun h4 H => ?_))
      have S4 := H.1
      replace H := H.2
      refine z_iconst (pc := 51) (v := (nI 0)) dX12_comeAll_51 (by decide) ?_
      refine z_istore_n (pc := 52) (ls' := [some (.inr (some (0, 12, 63))), some (.inl x1), some (.inl x2), some (.inl (nI 0))]) dX12_comeAll_52 rfl rfl rfl ?_
      exact H
    · replace H := H.2 c3
      refine z_goto (pc := 43) (tgt := 96) dX12_comeAll_43 (by decide) ?_
      refine z_iinc (pc := 96) (v := (x2 + (nI 1))) (ls' := [some (.inr (some (0, 12, 63))), some (.inl x1), some (.inl (x2 + (nI 1))), some (.inl x3)]) dX12_comeAll_96 rfl (by rw [show Int32.ofInt (1) = (nI 1) by decide]) rfl ?_
      refine z_goto (pc := 99) (tgt := 2) dX12_comeAll_99 (by decide) ?_
      exact z_drop (ls' := [some (.inr (some (0, 12, 63))), some (.inl x1), some (.inl (x2 + (nI 1))), none]) (by simp [dropL]) H
  · replace H := H.2 c1
    refine z_aload_n (pc := 15) dX12_comeAll_15 rfl rfl ?_
    refine z_getk (pc := 16) dX12_comeAll_16 fX12_72 rfl (s_63_26 S) ?_
    refine z_bipush (pc := 19) (v := (nI 12)) dX12_comeAll_19 (by decide) ?_
    refine z_iload_n (pc := 21) dX12_comeAll_21 rfl rfl ?_
    refine z_imul (pc := 22) dX12_comeAll_22 ?_
    refine z_iload_n (pc := 23) dX12_comeAll_23 rfl rfl ?_
    refine z_iadd (pc := 24) dX12_comeAll_24 ?_
    refine z_iconst (pc := 25) (v := (nI 0)) dX12_comeAll_25 (by decide) ?_
    have c5 := H.1
    replace H := H.2
    refine z_iast (pc := 26) dX12_comeAll_26 c5 ?_
    refine z_iinc (pc := 27) (v := (x3 + (nI 1))) (ls' := [some (.inr (some (0, 12, 63))), some (.inl x1), some (.inl x2), some (.inl (x3 + (nI 1)))]) dX12_comeAll_27 rfl (by rw [show Int32.ofInt (1) = (nI 1) by decide]) rfl ?_
    refine z_goto (pc := 30) (tgt := 9) dX12_comeAll_30 (by decide) ?_
    exact H

set_option maxRecDepth 20000 in
theorem bX12_comeAll_53 {l : Launch} {E : eE} {d bc bs : Nat} {h : aH} {Q : aH → Prop} {x1 : Int32} {x2 : Int32} {x3 : Int32} (S : SH h) (H : (((hI h 63 3) ≤ x3 → LX12_comeAll_2 l E (d + 1) bc bs x1 (x2 + (nI 1)) h Q) ∧ (¬ (hI h 63 3) ≤ x3 → (vp_in x2 4 ∧ (CI l E d 0 0 mX12_comesTo [.inr (some (0, 12, 63)), .inl x3, .inl x2, .inl (hA h 81 (x2).toNatClampNeg), .inl (hA h 82 (x2).toNatClampNeg)] h (fun v3 h3 => SH h3 ∧ (vp_in (((nI 12) * x2) + x3) 48 ∧ LX12_comeAll_53 l E (d + 1) bc bs x1 x2 (x3 + (nI 1)) (stA h3 83 ((((nI 12) * x2) + x3)).toNatClampNeg v3) Q))))))) : LX12_comeAll_53 l E (d + 1) bc bs x1 x2 x3 h Q := by
  refine z_iload_n (pc := 53) dX12_comeAll_53 rfl rfl ?_
  refine z_aload_n (pc := 54) dX12_comeAll_54 rfl rfl ?_
  refine z_geti (pc := 55) dX12_comeAll_55 fX12_123 rfl ?_
  refine z_icmp_ge (pc := 58) (tgt := 96) dX12_comeAll_58 (by decide) (fun c1 => ?_) (fun c1 => ?_)
  · replace H := H.1 c1
    refine z_iinc (pc := 96) (v := (x2 + (nI 1))) (ls' := [some (.inr (some (0, 12, 63))), some (.inl x1), some (.inl (x2 + (nI 1))), some (.inl x3)]) dX12_comeAll_96 rfl (by rw [show Int32.ofInt (1) = (nI 1) by decide]) rfl ?_
    refine z_goto (pc := 99) (tgt := 2) dX12_comeAll_99 (by decide) ?_
    exact z_drop (ls' := [some (.inr (some (0, 12, 63))), some (.inl x1), some (.inl (x2 + (nI 1))), none]) (by simp [dropL]) H
  · replace H := H.2 c1
    refine z_aload_n (pc := 61) dX12_comeAll_61 rfl rfl ?_
    refine z_getk (pc := 62) dX12_comeAll_62 fX12_72 rfl (s_63_26 S) ?_
    refine z_bipush (pc := 65) (v := (nI 12)) dX12_comeAll_65 (by decide) ?_
    refine z_iload_n (pc := 67) dX12_comeAll_67 rfl rfl ?_
    refine z_imul (pc := 68) dX12_comeAll_68 ?_
    refine z_iload_n (pc := 69) dX12_comeAll_69 rfl rfl ?_
    refine z_iadd (pc := 70) dX12_comeAll_70 ?_
    refine z_aload_n (pc := 71) dX12_comeAll_71 rfl rfl ?_
    refine z_iload_n (pc := 72) dX12_comeAll_72 rfl rfl ?_
    refine z_iload_n (pc := 73) dX12_comeAll_73 rfl rfl ?_
    refine z_aload_n (pc := 74) dX12_comeAll_74 rfl rfl ?_
    refine z_getk (pc := 75) dX12_comeAll_75 fX12_66 rfl (s_63_24 S) ?_
    refine z_iload_n (pc := 78) dX12_comeAll_78 rfl rfl ?_
    have c2 := H.1
    replace H := H.2
    refine z_iald (pc := 79) dX12_comeAll_79 c2 ?_
    refine z_aload_n (pc := 80) dX12_comeAll_80 rfl rfl ?_
    refine z_getk (pc := 81) dX12_comeAll_81 fX12_69 rfl (s_63_25 S) ?_
    refine z_iload_n (pc := 84) dX12_comeAll_84 rfl rfl ?_
    refine z_iald (pc := 85) dX12_comeAll_85 c2 ?_
    refine y_VI (pc := 86) (bc := bc) (bs := bs) (mc := 0) (ms := 0) (As := [.inl x3, .inl x2, .inl (hA h 81 (x2).toNatClampNeg), .inl (hA h 82 (x2).toNatClampNeg)]) (rest := [.inl (((nI 12) * x2) + x3), .inr (some (1, 48, 83))]) dX12_comeAll_86 kX12_comesTo lX12_205 ⟨_, _, rfl⟩ rfl rfl (H.use (fun v3 h3 H => ?_))
    have S3 := H.1
    replace H := H.2
    have c4 := H.1
    replace H := H.2
    refine z_iast (pc := 89) dX12_comeAll_89 c4 ?_
    refine z_iinc (pc := 90) (v := (x3 + (nI 1))) (ls' := [some (.inr (some (0, 12, 63))), some (.inl x1), some (.inl x2), some (.inl (x3 + (nI 1)))]) dX12_comeAll_90 rfl (by rw [show Int32.ofInt (1) = (nI 1) by decide]) rfl ?_
    refine z_goto (pc := 93) (tgt := 53) dX12_comeAll_93 (by decide) ?_
    exact H

abbrev LX12_fitsBy_65 (l : Launch) (E : eE) (d bc bs : Nat) (x1 : Int32) (x2 : Int32) (x3 : Int32) (x4 : Int32) (x5 : Int32) (x6 : Int32) (h : aH) (Q : Int32 → aH → Prop) : Prop := TI l E mX12_fitsBy d bc bs 65 [some (.inr (some (0, 12, 63))), some (.inl x1), some (.inl x2), some (.inl x3), some (.inl x4), some (.inl x5), some (.inl x6), none, none, none] [] h Q

abbrev LX12_fitsBy_127 (l : Launch) (E : eE) (d bc bs : Nat) (x1 : Int32) (x2 : Int32) (x3 : Int32) (x4 : Int32) (x5 : Int32) (x6 : Int32) (x7 : Int32) (x8 : Int32) (h : aH) (Q : Int32 → aH → Prop) : Prop := TI l E mX12_fitsBy d bc bs 127 [some (.inr (some (0, 12, 63))), some (.inl x1), some (.inl x2), some (.inl x3), some (.inl x4), some (.inl x5), some (.inl x6), some (.inl x7), some (.inl x8), none] [] h Q

abbrev LX12_fitsBy_131 (l : Launch) (E : eE) (d bc bs : Nat) (x1 : Int32) (x2 : Int32) (x3 : Int32) (x4 : Int32) (x5 : Int32) (x6 : Int32) (x7 : Int32) (x8 : Int32) (h : aH) (Q : Int32 → aH → Prop) : Prop := TI l E mX12_fitsBy d bc bs 131 [some (.inr (some (0, 12, 63))), some (.inl x1), some (.inl x2), some (.inl x3), some (.inl x4), some (.inl x5), some (.inl x6), some (.inl x7), some (.inl x8), none] [] h Q

abbrev LX12_fitsBy_147 (l : Launch) (E : eE) (d bc bs : Nat) (x1 : Int32) (x2 : Int32) (x3 : Int32) (x4 : Int32) (x5 : Int32) (x6 : Int32) (x7 : Int32) (x8 : Int32) (x9 : Int32) (h : aH) (Q : Int32 → aH → Prop) : Prop := TI l E mX12_fitsBy d bc bs 147 [some (.inr (some (0, 12, 63))), some (.inl x1), some (.inl x2), some (.inl x3), some (.inl x4), some (.inl x5), some (.inl x6), some (.inl x7), some (.inl x8), some (.inl x9)] [] h Q

abbrev LX12_fitsBy_185 (l : Launch) (E : eE) (d bc bs : Nat) (x1 : Int32) (x2 : Int32) (x3 : Int32) (x4 : Int32) (x5 : Int32) (x6 : Int32) (x7 : Int32) (x8 : Int32) (x9 : Int32) (h : aH) (Q : Int32 → aH → Prop) : Prop := TI l E mX12_fitsBy d bc bs 185 [some (.inr (some (0, 12, 63))), some (.inl x1), some (.inl x2), some (.inl x3), some (.inl x4), some (.inl x5), some (.inl x6), some (.inl x7), some (.inl x8), some (.inl x9)] [] h Q

set_option maxRecDepth 20000 in
theorem bX12_fitsBy_0 {l : Launch} {E : eE} {d bc bs : Nat} {h : aH} {Q : Int32 → aH → Prop} {x1 : Int32} {x2 : Int32} {x3 : Int32} (S : SH h) (hd : 1 ≤ d) (H : ((vp_in x1 4 ∧ vp_in x2 6) ∧ ((¬ (rSlot h x1 x2 + hA h 74 (x1).toNatClampNeg ≤ nI 17472) → Q (nI 0) h) ∧ ((rSlot h x1 x2 + hA h 74 (x1).toNatClampNeg ≤ nI 17472) → (CI l E d 0 0 mX12_isBehind [.inr (some (0, 12, 63)), .inl x1, .inl x2] h (fun v3 h3 => SH h3 ∧ ((¬ v3 = 0 → ((x3 = (-1) → LX12_fitsBy_65 l E (d + 1) bc bs x1 x2 x3 (nI 0) (nI 0) (nI 0) h3 Q) ∧ (¬ x3 = (-1) → ((vp_in x1 4 ∧ vp_in x3 6) ∧ ((¬ (rSlot h3 x1 x3 + hA h3 74 (x1).toNatClampNeg ≤ nI 17472) → Q (nI 0) h3) ∧ ((rSlot h3 x1 x3 + hA h3 74 (x1).toNatClampNeg ≤ nI 17472) → (CI l E d 0 0 mX12_isBehind [.inr (some (0, 12, 63)), .inl x1, .inl x3] h3 (fun v8 h8 => SH h8 ∧ ((v8 = 0 → Q (nI 0) h8) ∧ (¬ v8 = 0 → (((vp_in x1 4 ∧ vp_in x2 6) ∧ vp_in x1 4 ∧ vp_in x3 6) ∧ ((¬ (rMeet h8 x1 x2 x1 x3) → LX12_fitsBy_65 l E (d + 1) bc bs x1 x2 x3 (nI 0) (nI 0) (nI 0) h8 Q) ∧ ((rMeet h8 x1 x2 x1 x3) → Q (nI 0) h8))))))))))))) ∧ (v3 = 0 → Q (nI 0) h3)))))))) : CI l E (d + 1) bc bs mX12_fitsBy [.inr (some (0, 12, 63)), .inl x1, .inl x2, .inl x3] h Q := by
  refine CI.of (by decide) rfl ?_
  show TI l E mX12_fitsBy (d + 1) bc bs 0 [some (.inr (some (0, 12, 63))), some (.inl x1), some (.inl x2), some (.inl x3), none, none, none, none, none, none] [] h Q
  refine z_aload_n (pc := 0) dX12_fitsBy_0 rfl rfl ?_
  refine z_iload_n (pc := 1) dX12_fitsBy_1 rfl rfl ?_
  refine z_iload_n (pc := 2) dX12_fitsBy_2 rfl rfl ?_
  have c1 := H.1
  replace H := H.2
  refine y_VI (pc := 3) (bc := bc) (bs := bs) (mc := 0) (ms := 0) (As := [.inl x1, .inl x2]) (rest := []) dX12_fitsBy_3 kX12_isIn lX12_193 ⟨_, _, rfl⟩ rfl rfl (c_isInO S (by omega) c1 ?_)
  refine z_if_eq (pc := 6) (tgt := 18) dX12_fitsBy_6 (by decide) (fun c2 => ?_) (fun c2 => ?_)
  · replace H := H.1 (bI0.mp c2)
    refine z_iconst (pc := 18) (v := (nI 0)) dX12_fitsBy_18 (by decide) ?_
    exact z_iret (pc := 19) dX12_fitsBy_19 rfl rfl ⟨_, rfl, H⟩
  · replace H := H.2 (bI1.mp c2)
    refine z_aload_n (pc := 9) dX12_fitsBy_9 rfl rfl ?_
    refine z_iload_n (pc := 10) dX12_fitsBy_10 rfl rfl ?_
    refine z_iload_n (pc := 11) dX12_fitsBy_11 rfl rfl ?_
    refine y_VI (pc := 12) (bc := bc) (bs := bs) (mc := 0) (ms := 0) (As := [.inl x1, .inl x2]) (rest := []) dX12_fitsBy_12 kX12_isBehind lX12_208 ⟨_, _, rfl⟩ rfl rfl (H.use (fun v3 h3 H => ?_))
    have S3 := H.1
    replace H := H.2
    refine z_if_ne (pc := 15) (tgt := 20) dX12_fitsBy_15 (by decide) (fun c4 => ?_) (fun c4 => ?_)
    · replace H := H.1 c4
      refine z_iload_n (pc := 20) dX12_fitsBy_20 rfl rfl ?_
      refine z_iconst (pc := 21) (v := (-1)) dX12_fitsBy_21 (by decide) ?_
      refine z_icmp_eq (pc := 22) (tgt := 56) dX12_fitsBy_22 (by decide) (fun c5 => ?_) (fun c5 => ?_)
      · replace H := H.1 c5
        refine z_iconst (pc := 56) (v := (nI 0)) dX12_fitsBy_56 (by decide) ?_
        refine z_istore (pc := 57) (ls' := [some (.inr (some (0, 12, 63))), some (.inl x1), some (.inl x2), some (.inl x3), some (.inl (nI 0)), none, none, none, none, none]) dX12_fitsBy_57 rfl rfl ?_
        refine z_iconst (pc := 59) (v := (nI 0)) dX12_fitsBy_59 (by decide) ?_
        refine z_istore (pc := 60) (ls' := [some (.inr (some (0, 12, 63))), some (.inl x1), some (.inl x2), some (.inl x3), some (.inl (nI 0)), some (.inl (nI 0)), none, none, none, none]) dX12_fitsBy_60 rfl rfl ?_
        refine z_iconst (pc := 62) (v := (nI 0)) dX12_fitsBy_62 (by decide) ?_
        refine z_istore (pc := 63) (ls' := [some (.inr (some (0, 12, 63))), some (.inl x1), some (.inl x2), some (.inl x3), some (.inl (nI 0)), some (.inl (nI 0)), some (.inl (nI 0)), none, none, none]) dX12_fitsBy_63 rfl rfl ?_
        exact H
      · replace H := H.2 c5
        refine z_aload_n (pc := 25) dX12_fitsBy_25 rfl rfl ?_
        refine z_iload_n (pc := 26) dX12_fitsBy_26 rfl rfl ?_
        refine z_iload_n (pc := 27) dX12_fitsBy_27 rfl rfl ?_
        have c6 := H.1
        replace H := H.2
        refine y_VI (pc := 28) (bc := bc) (bs := bs) (mc := 0) (ms := 0) (As := [.inl x1, .inl x3]) (rest := []) dX12_fitsBy_28 kX12_isIn lX12_193 ⟨_, _, rfl⟩ rfl rfl (c_isInO S3 (by omega) c6 ?_)
        refine z_if_eq (pc := 31) (tgt := 54) dX12_fitsBy_31 (by decide) (fun c7 => ?_) (fun c7 => ?_)
        · replace H := H.1 (bI0.mp c7)
          refine z_iconst (pc := 54) (v := (nI 0)) dX12_fitsBy_54 (by decide) ?_
          exact z_iret (pc := 55) dX12_fitsBy_55 rfl rfl ⟨_, rfl, H⟩
        · replace H := H.2 (bI1.mp c7)
          refine z_aload_n (pc := 34) dX12_fitsBy_34 rfl rfl ?_
          refine z_iload_n (pc := 35) dX12_fitsBy_35 rfl rfl ?_
          refine z_iload_n (pc := 36) dX12_fitsBy_36 rfl rfl ?_
          refine y_VI (pc := 37) (bc := bc) (bs := bs) (mc := 0) (ms := 0) (As := [.inl x1, .inl x3]) (rest := []) dX12_fitsBy_37 kX12_isBehind lX12_208 ⟨_, _, rfl⟩ rfl rfl (H.use (fun v8 h8 H => ?_))
          have S8 := H.1
          replace H := H.2
          refine z_if_eq (pc := 40) (tgt := 54) dX12_fitsBy_40 (by decide) (fun c9 => ?_) (fun c9 => ?_)
          · replace H := H.1 c9
            refine z_iconst (pc := 54) (v := (nI 0)) dX12_fitsBy_54 (by decide) ?_
            exact z_iret (pc := 55) dX12_fitsBy_55 rfl rfl ⟨_, rfl, H⟩
          · replace H := H.2 c9
            refine z_aload_n (pc := 43) dX12_fitsBy_43 rfl rfl ?_
            refine z_iload_n (pc := 44) dX12_fitsBy_44 rfl rfl ?_
            refine z_iload_n (pc := 45) dX12_fitsBy_45 rfl rfl ?_
            refine z_iload_n (pc := 46) dX12_fitsBy_46 rfl rfl ?_
            refine z_iload_n (pc := 47) dX12_fitsBy_47 rfl rfl ?_
            have c10 := H.1
            replace H := H.2
            refine y_VI (pc := 48) (bc := bc) (bs := bs) (mc := 0) (ms := 0) (As := [.inl x1, .inl x2, .inl x1, .inl x3]) (rest := []) dX12_fitsBy_48 kX12_meet lX12_190 ⟨_, _, rfl⟩ rfl rfl (c_meet S8 (by omega) c10 ?_)
            refine z_if_eq (pc := 51) (tgt := 56) dX12_fitsBy_51 (by decide) (fun c11 => ?_) (fun c11 => ?_)
            · replace H := H.1 (bI0.mp c11)
              refine z_iconst (pc := 56) (v := (nI 0)) dX12_fitsBy_56 (by decide) ?_
              refine z_istore (pc := 57) (ls' := [some (.inr (some (0, 12, 63))), some (.inl x1), some (.inl x2), some (.inl x3), some (.inl (nI 0)), none, none, none, none, none]) dX12_fitsBy_57 rfl rfl ?_
              refine z_iconst (pc := 59) (v := (nI 0)) dX12_fitsBy_59 (by decide) ?_
              refine z_istore (pc := 60) (ls' := [some (.inr (some (0, 12, 63))), some (.inl x1), some (.inl x2), some (.inl x3), some (.inl (nI 0)), some (.inl (nI 0)), none, none, none, none]) dX12_fitsBy_60 rfl rfl ?_
              refine z_iconst (pc := 62) (v := (nI 0)) dX12_fitsBy_62 (by decide) ?_
              refine z_istore (pc := 63) (ls' := [some (.inr (some (0, 12, 63))), some (.inl x1), some (.inl x2), some (.inl x3), some (.inl (nI 0)), some (.inl (nI 0)), some (.inl (nI 0)), none, none, none]) dX12_fitsBy_63 rfl rfl ?_
              exact H
            · replace H := H.2 (bI1.mp c11)
              refine z_iconst (pc := 54) (v := (nI 0)) dX12_fitsBy_54 (by decide) ?_
              exact z_iret (pc := 55) dX12_fitsBy_55 rfl rfl ⟨_, rfl, H⟩
    · replace H := H.2 c4
      refine z_iconst (pc := 18) (v := (nI 0)) dX12_fitsBy_18 (by decide) ?_
      exact z_iret (pc := 19) dX12_fitsBy_19 rfl rfl ⟨_, rfl, H⟩

set_option maxRecDepth 20000 in
theorem bX12_fitsBy_65 {l : Launch} {E : eE} {d bc bs : Nat} {h : aH} {Q : Int32 → aH → Prop} {x1 : Int32} {x2 : Int32} {x3 : Int32} {x4 : Int32} {x5 : Int32} {x6 : Int32} (S : SH h) (H : (((hI h 63 3) ≤ x6 → ((¬ x4 = x5 → Q (nI 0) h) ∧ (x4 = x5 → Q (nI 1) h))) ∧ (¬ (hI h 63 3) ≤ x6 → (vp_in (((nI 12) * x1) + x6) 48 ∧ (vp_in (((nI 6) * x6) + x2) 72 ∧ ((¬ (hA h 84 ((((nI 6) * x6) + x2)).toNatClampNeg) = 0 → LX12_fitsBy_127 l E (d + 1) bc bs x1 x2 x3 x4 x5 x6 (hA h 79 ((((nI 12) * x1) + x6)).toNatClampNeg) (hA h 84 ((((nI 6) * x6) + x2)).toNatClampNeg) h Q) ∧ ((hA h 84 ((((nI 6) * x6) + x2)).toNatClampNeg) = 0 → ((x3 = (-1) → LX12_fitsBy_131 l E (d + 1) bc bs x1 x2 x3 x4 x5 x6 (hA h 79 ((((nI 12) * x1) + x6)).toNatClampNeg) (hA h 84 ((((nI 6) * x6) + x2)).toNatClampNeg) h Q) ∧ (¬ x3 = (-1) → (vp_in (((nI 6) * x6) + x3) 72 ∧ (((hA h 84 ((((nI 6) * x6) + x3)).toNatClampNeg) = 0 → LX12_fitsBy_131 l E (d + 1) bc bs x1 x2 x3 x4 x5 x6 (hA h 79 ((((nI 12) * x1) + x6)).toNatClampNeg) (hA h 84 ((((nI 6) * x6) + x2)).toNatClampNeg) h Q) ∧ (¬ (hA h 84 ((((nI 6) * x6) + x3)).toNatClampNeg) = 0 → LX12_fitsBy_127 l E (d + 1) bc bs x1 x2 x3 x4 x5 x6 (hA h 79 ((((nI 12) * x1) + x6)).toNatClampNeg) (hA h 84 ((((nI 6) * x6) + x2)).toNatClampNeg) h Q)))))))))))) : LX12_fitsBy_65 l E (d + 1) bc bs x1 x2 x3 x4 x5 x6 h Q := by
  refine z_iload (pc := 65) dX12_fitsBy_65 rfl ?_
  refine z_aload_n (pc := 67) dX12_fitsBy_67 rfl rfl ?_
  refine z_geti (pc := 68) dX12_fitsBy_68 fX12_123 rfl ?_
  refine z_icmp_ge (pc := 71) (tgt := 223) dX12_fitsBy_71 (by decide) (fun c1 => ?_) (fun c1 => ?_)
  · replace H := H.1 c1
    refine z_iload (pc := 223) dX12_fitsBy_223 rfl ?_
    refine z_iload (pc := 225) dX12_fitsBy_225 rfl ?_
    refine z_icmp_ne (pc := 227) (tgt := 234) dX12_fitsBy_227 (by decide) (fun c2 => ?_) (fun c2 => ?_)
    · replace H := H.1 c2
      refine z_iconst (pc := 234) (v := (nI 0)) dX12_fitsBy_234 (by decide) ?_
      exact z_iret (pc := 235) dX12_fitsBy_235 rfl rfl ⟨_, rfl, H⟩
    · replace H := H.2 c2
      refine z_iconst (pc := 230) (v := (nI 1)) dX12_fitsBy_230 (by decide) ?_
      refine z_goto (pc := 231) (tgt := 235) dX12_fitsBy_231 (by decide) ?_
      exact z_iret (pc := 235) dX12_fitsBy_235 rfl rfl ⟨_, rfl, H⟩
  · replace H := H.2 c1
    refine z_aload_n (pc := 74) dX12_fitsBy_74 rfl rfl ?_
    refine z_getk (pc := 75) dX12_fitsBy_75 fX12_60 rfl (s_63_20 S) ?_
    refine z_bipush (pc := 78) (v := (nI 12)) dX12_fitsBy_78 (by decide) ?_
    refine z_iload_n (pc := 80) dX12_fitsBy_80 rfl rfl ?_
    refine z_imul (pc := 81) dX12_fitsBy_81 ?_
    refine z_iload (pc := 82) dX12_fitsBy_82 rfl ?_
    refine z_iadd (pc := 84) dX12_fitsBy_84 ?_
    have c3 := H.1
    replace H := H.2
    refine z_iald (pc := 85) dX12_fitsBy_85 c3 ?_
    refine z_istore (pc := 86) (ls' := [some (.inr (some (0, 12, 63))), some (.inl x1), some (.inl x2), some (.inl x3), some (.inl x4), some (.inl x5), some (.inl x6), some (.inl (hA h 79 ((((nI 12) * x1) + x6)).toNatClampNeg)), none, none]) dX12_fitsBy_86 rfl rfl ?_
    refine z_aload_n (pc := 88) dX12_fitsBy_88 rfl rfl ?_
    refine z_getk (pc := 89) dX12_fitsBy_89 fX12_75 rfl (s_63_27 S) ?_
    refine z_bipush (pc := 92) (v := (nI 6)) dX12_fitsBy_92 (by decide) ?_
    refine z_iload (pc := 94) dX12_fitsBy_94 rfl ?_
    refine z_imul (pc := 96) dX12_fitsBy_96 ?_
    refine z_iload_n (pc := 97) dX12_fitsBy_97 rfl rfl ?_
    refine z_iadd (pc := 98) dX12_fitsBy_98 ?_
    have c4 := H.1
    replace H := H.2
    refine z_zald (pc := 99) dX12_fitsBy_99 c4 ?_
    refine z_istore (pc := 100) (ls' := [some (.inr (some (0, 12, 63))), some (.inl x1), some (.inl x2), some (.inl x3), some (.inl x4), some (.inl x5), some (.inl x6), some (.inl (hA h 79 ((((nI 12) * x1) + x6)).toNatClampNeg)), some (.inl (hA h 84 ((((nI 6) * x6) + x2)).toNatClampNeg)), none]) dX12_fitsBy_100 rfl rfl ?_
    refine z_iload (pc := 102) dX12_fitsBy_102 rfl ?_
    refine z_if_ne (pc := 104) (tgt := 127) dX12_fitsBy_104 (by decide) (fun c5 => ?_) (fun c5 => ?_)
    · replace H := H.1 c5
      exact H
    · replace H := H.2 c5
      refine z_iload_n (pc := 107) dX12_fitsBy_107 rfl rfl ?_
      refine z_iconst (pc := 108) (v := (-1)) dX12_fitsBy_108 (by decide) ?_
      refine z_icmp_eq (pc := 109) (tgt := 131) dX12_fitsBy_109 (by decide) (fun c6 => ?_) (fun c6 => ?_)
      · replace H := H.1 c6
        exact H
      · replace H := H.2 c6
        refine z_aload_n (pc := 112) dX12_fitsBy_112 rfl rfl ?_
        refine z_getk (pc := 113) dX12_fitsBy_113 fX12_75 rfl (s_63_27 S) ?_
        refine z_bipush (pc := 116) (v := (nI 6)) dX12_fitsBy_116 (by decide) ?_
        refine z_iload (pc := 118) dX12_fitsBy_118 rfl ?_
        refine z_imul (pc := 120) dX12_fitsBy_120 ?_
        refine z_iload_n (pc := 121) dX12_fitsBy_121 rfl rfl ?_
        refine z_iadd (pc := 122) dX12_fitsBy_122 ?_
        have c7 := H.1
        replace H := H.2
        refine z_zald (pc := 123) dX12_fitsBy_123 c7 ?_
        refine z_if_eq (pc := 124) (tgt := 131) dX12_fitsBy_124 (by decide) (fun c8 => ?_) (fun c8 => ?_)
        · replace H := H.1 c8
          exact H
        · replace H := H.2 c8
          exact H

set_option maxRecDepth 20000 in
theorem bX12_fitsBy_127 {l : Launch} {E : eE} {d bc bs : Nat} {h : aH} {Q : Int32 → aH → Prop} {x1 : Int32} {x2 : Int32} {x3 : Int32} {x4 : Int32} {x5 : Int32} {x6 : Int32} {x7 : Int32} {x8 : Int32} (S : SH h) (H : ((¬ x7 = (nI 1) → LX12_fitsBy_147 l E (d + 1) bc bs x1 x2 x3 x4 x5 x6 x7 x8 (nI 1) h Q) ∧ (x7 = (nI 1) → ((¬ (nI 1) = 0 → LX12_fitsBy_147 l E (d + 1) bc bs x1 x2 x3 x4 x5 x6 x7 x8 (nI 1) h Q) ∧ ((nI 1) = 0 → Q (nI 0) h))))) : LX12_fitsBy_127 l E (d + 1) bc bs x1 x2 x3 x4 x5 x6 x7 x8 h Q := by
  refine z_iconst (pc := 127) (v := (nI 1)) dX12_fitsBy_127 (by decide) ?_
  refine z_goto (pc := 128) (tgt := 132) dX12_fitsBy_128 (by decide) ?_
  refine z_istore (pc := 132) (ls' := [some (.inr (some (0, 12, 63))), some (.inl x1), some (.inl x2), some (.inl x3), some (.inl x4), some (.inl x5), some (.inl x6), some (.inl x7), some (.inl x8), some (.inl (nI 1))]) dX12_fitsBy_132 rfl rfl ?_
  refine z_iload (pc := 134) dX12_fitsBy_134 rfl ?_
  refine z_iconst (pc := 136) (v := (nI 1)) dX12_fitsBy_136 (by decide) ?_
  refine z_icmp_ne (pc := 137) (tgt := 147) dX12_fitsBy_137 (by decide) (fun c1 => ?_) (fun c1 => ?_)
  · replace H := H.1 c1
    exact H
  · replace H := H.2 c1
    refine z_iload (pc := 140) dX12_fitsBy_140 rfl ?_
    refine z_if_ne (pc := 142) (tgt := 147) dX12_fitsBy_142 (by decide) (fun c2 => ?_) (fun c2 => ?_)
    · replace H := H.1 c2
      exact H
    · replace H := H.2 c2
      refine z_iconst (pc := 145) (v := (nI 0)) dX12_fitsBy_145 (by decide) ?_
      exact z_iret (pc := 146) dX12_fitsBy_146 rfl rfl ⟨_, rfl, H⟩

set_option maxRecDepth 20000 in
theorem bX12_fitsBy_131 {l : Launch} {E : eE} {d bc bs : Nat} {h : aH} {Q : Int32 → aH → Prop} {x1 : Int32} {x2 : Int32} {x3 : Int32} {x4 : Int32} {x5 : Int32} {x6 : Int32} {x7 : Int32} {x8 : Int32} (S : SH h) (H : ((¬ x7 = (nI 1) → LX12_fitsBy_147 l E (d + 1) bc bs x1 x2 x3 x4 x5 x6 x7 x8 (nI 0) h Q) ∧ (x7 = (nI 1) → ((¬ (nI 0) = 0 → LX12_fitsBy_147 l E (d + 1) bc bs x1 x2 x3 x4 x5 x6 x7 x8 (nI 0) h Q) ∧ ((nI 0) = 0 → Q (nI 0) h))))) : LX12_fitsBy_131 l E (d + 1) bc bs x1 x2 x3 x4 x5 x6 x7 x8 h Q := by
  refine z_iconst (pc := 131) (v := (nI 0)) dX12_fitsBy_131 (by decide) ?_
  refine z_istore (pc := 132) (ls' := [some (.inr (some (0, 12, 63))), some (.inl x1), some (.inl x2), some (.inl x3), some (.inl x4), some (.inl x5), some (.inl x6), some (.inl x7), some (.inl x8), some (.inl (nI 0))]) dX12_fitsBy_132 rfl rfl ?_
  refine z_iload (pc := 134) dX12_fitsBy_134 rfl ?_
  refine z_iconst (pc := 136) (v := (nI 1)) dX12_fitsBy_136 (by decide) ?_
  refine z_icmp_ne (pc := 137) (tgt := 147) dX12_fitsBy_137 (by decide) (fun c1 => ?_) (fun c1 => ?_)
  · replace H := H.1 c1
    exact H
  · replace H := H.2 c1
    refine z_iload (pc := 140) dX12_fitsBy_140 rfl ?_
    refine z_if_ne (pc := 142) (tgt := 147) dX12_fitsBy_142 (by decide) (fun c2 => ?_) (fun c2 => ?_)
    · replace H := H.1 c2
      exact H
    · replace H := H.2 c2
      refine z_iconst (pc := 145) (v := (nI 0)) dX12_fitsBy_145 (by decide) ?_
      exact z_iret (pc := 146) dX12_fitsBy_146 rfl rfl ⟨_, rfl, H⟩

set_option maxRecDepth 20000 in
theorem bX12_fitsBy_147 {l : Launch} {E : eE} {d bc bs : Nat} {h : aH} {Q : Int32 → aH → Prop} {x1 : Int32} {x2 : Int32} {x3 : Int32} {x4 : Int32} {x5 : Int32} {x6 : Int32} {x7 : Int32} {x8 : Int32} {x9 : Int32} (S : SH h) (H : (vp_in x1 4 ∧ ((¬ x6 = (hA h 76 (x1).toNatClampNeg) → LX12_fitsBy_185 l E (d + 1) bc bs x1 x2 x3 x4 x5 x6 x7 x8 x9 h Q) ∧ (x6 = (hA h 76 (x1).toNatClampNeg) → ((x3 = (-1) → LX12_fitsBy_185 l E (d + 1) bc bs x1 x2 x3 x4 x5 x6 x7 x8 x9 h Q) ∧ (¬ x3 = (-1) → ((x8 = 0 → Q (nI 0) h) ∧ (¬ x8 = 0 → (vp_in (((nI 6) * x6) + x3) 72 ∧ ((¬ (hA h 84 ((((nI 6) * x6) + x3)).toNatClampNeg) = 0 → LX12_fitsBy_185 l E (d + 1) bc bs x1 x2 x3 x4 x5 x6 x7 x8 x9 h Q) ∧ ((hA h 84 ((((nI 6) * x6) + x3)).toNatClampNeg) = 0 → Q (nI 0) h))))))))))) : LX12_fitsBy_147 l E (d + 1) bc bs x1 x2 x3 x4 x5 x6 x7 x8 x9 h Q := by
  refine z_iload (pc := 147) dX12_fitsBy_147 rfl ?_
  refine z_aload_n (pc := 149) dX12_fitsBy_149 rfl rfl ?_
  refine z_getk (pc := 150) dX12_fitsBy_150 fX12_51 rfl (s_63_17 S) ?_
  refine z_iload_n (pc := 153) dX12_fitsBy_153 rfl rfl ?_
  have c1 := H.1
  replace H := H.2
  refine z_iald (pc := 154) dX12_fitsBy_154 c1 ?_
  refine z_icmp_ne (pc := 155) (tgt := 185) dX12_fitsBy_155 (by decide) (fun c2 => ?_) (fun c2 => ?_)
  · replace H := H.1 c2
    exact H
  · replace H := H.2 c2
    refine z_iload_n (pc := 158) dX12_fitsBy_158 rfl rfl ?_
    refine z_iconst (pc := 159) (v := (-1)) dX12_fitsBy_159 (by decide) ?_
    refine z_icmp_eq (pc := 160) (tgt := 185) dX12_fitsBy_160 (by decide) (fun c3 => ?_) (fun c3 => ?_)
    · replace H := H.1 c3
      exact H
    · replace H := H.2 c3
      refine z_iload (pc := 163) dX12_fitsBy_163 rfl ?_
      refine z_if_eq (pc := 165) (tgt := 183) dX12_fitsBy_165 (by decide) (fun c4 => ?_) (fun c4 => ?_)
      · replace H := H.1 c4
        refine z_iconst (pc := 183) (v := (nI 0)) dX12_fitsBy_183 (by decide) ?_
        exact z_iret (pc := 184) dX12_fitsBy_184 rfl rfl ⟨_, rfl, H⟩
      · replace H := H.2 c4
        refine z_aload_n (pc := 168) dX12_fitsBy_168 rfl rfl ?_
        refine z_getk (pc := 169) dX12_fitsBy_169 fX12_75 rfl (s_63_27 S) ?_
        refine z_bipush (pc := 172) (v := (nI 6)) dX12_fitsBy_172 (by decide) ?_
        refine z_iload (pc := 174) dX12_fitsBy_174 rfl ?_
        refine z_imul (pc := 176) dX12_fitsBy_176 ?_
        refine z_iload_n (pc := 177) dX12_fitsBy_177 rfl rfl ?_
        refine z_iadd (pc := 178) dX12_fitsBy_178 ?_
        have c5 := H.1
        replace H := H.2
        refine z_zald (pc := 179) dX12_fitsBy_179 c5 ?_
        refine z_if_ne (pc := 180) (tgt := 185) dX12_fitsBy_180 (by decide) (fun c6 => ?_) (fun c6 => ?_)
        · replace H := H.1 c6
          exact H
        · replace H := H.2 c6
          refine z_iconst (pc := 183) (v := (nI 0)) dX12_fitsBy_183 (by decide) ?_
          exact z_iret (pc := 184) dX12_fitsBy_184 rfl rfl ⟨_, rfl, H⟩

set_option maxRecDepth 20000 in
theorem bX12_fitsBy_185 {l : Launch} {E : eE} {d bc bs : Nat} {h : aH} {Q : Int32 → aH → Prop} {x1 : Int32} {x2 : Int32} {x3 : Int32} {x4 : Int32} {x5 : Int32} {x6 : Int32} {x7 : Int32} {x8 : Int32} {x9 : Int32} (S : SH h) (H : (((nI 3) ≤ x7 → ((x9 = 0 → LX12_fitsBy_65 l E (d + 1) bc bs x1 x2 x3 (x4 ||| ((nI 1) <<< (x7 &&& 31))) x5 (x6 + (nI 1)) h Q) ∧ (¬ x9 = 0 → LX12_fitsBy_65 l E (d + 1) bc bs x1 x2 x3 (x4 ||| ((nI 1) <<< (x7 &&& 31))) (x5 ||| ((nI 1) <<< (x7 &&& 31))) (x6 + (nI 1)) h Q))) ∧ (¬ (nI 3) ≤ x7 → LX12_fitsBy_65 l E (d + 1) bc bs x1 x2 x3 x4 x5 (x6 + (nI 1)) h Q))) : LX12_fitsBy_185 l E (d + 1) bc bs x1 x2 x3 x4 x5 x6 x7 x8 x9 h Q := by
  refine z_iload (pc := 185) dX12_fitsBy_185 rfl ?_
  refine z_iconst (pc := 187) (v := (nI 3)) dX12_fitsBy_187 (by decide) ?_
  refine z_icmp_ge (pc := 188) (tgt := 194) dX12_fitsBy_188 (by decide) (fun c1 => ?_) (fun c1 => ?_)
  · replace H := H.1 c1
    refine z_iload (pc := 194) dX12_fitsBy_194 rfl ?_
    refine z_iconst (pc := 196) (v := (nI 1)) dX12_fitsBy_196 (by decide) ?_
    refine z_iload (pc := 197) dX12_fitsBy_197 rfl ?_
    refine z_ishl (pc := 199) dX12_fitsBy_199 ?_
    refine z_ior (pc := 200) dX12_fitsBy_200 ?_
    refine z_istore (pc := 201) (ls' := [some (.inr (some (0, 12, 63))), some (.inl x1), some (.inl x2), some (.inl x3), some (.inl (x4 ||| ((nI 1) <<< (x7 &&& 31)))), some (.inl x5), some (.inl x6), some (.inl x7), some (.inl x8), some (.inl x9)]) dX12_fitsBy_201 rfl rfl ?_
    refine z_iload (pc := 203) dX12_fitsBy_203 rfl ?_
    refine z_if_eq (pc := 205) (tgt := 217) dX12_fitsBy_205 (by decide) (fun c2 => ?_) (fun c2 => ?_)
    · replace H := H.1 c2
      refine z_iinc (pc := 217) (v := (x6 + (nI 1))) (ls' := [some (.inr (some (0, 12, 63))), some (.inl x1), some (.inl x2), some (.inl x3), some (.inl (x4 ||| ((nI 1) <<< (x7 &&& 31)))), some (.inl x5), some (.inl (x6 + (nI 1))), some (.inl x7), some (.inl x8), some (.inl x9)]) dX12_fitsBy_217 rfl (by rw [show Int32.ofInt (1) = (nI 1) by decide]) rfl ?_
      refine z_goto (pc := 220) (tgt := 65) dX12_fitsBy_220 (by decide) ?_
      exact z_drop (ls' := [some (.inr (some (0, 12, 63))), some (.inl x1), some (.inl x2), some (.inl x3), some (.inl (x4 ||| ((nI 1) <<< (x7 &&& 31)))), some (.inl x5), some (.inl (x6 + (nI 1))), none, none, none]) (by simp [dropL]) H
    · replace H := H.2 c2
      refine z_iload (pc := 208) dX12_fitsBy_208 rfl ?_
      refine z_iconst (pc := 210) (v := (nI 1)) dX12_fitsBy_210 (by decide) ?_
      refine z_iload (pc := 211) dX12_fitsBy_211 rfl ?_
      refine z_ishl (pc := 213) dX12_fitsBy_213 ?_
      refine z_ior (pc := 214) dX12_fitsBy_214 ?_
      refine z_istore (pc := 215) (ls' := [some (.inr (some (0, 12, 63))), some (.inl x1), some (.inl x2), some (.inl x3), some (.inl (x4 ||| ((nI 1) <<< (x7 &&& 31)))), some (.inl (x5 ||| ((nI 1) <<< (x7 &&& 31)))), some (.inl x6), some (.inl x7), some (.inl x8), some (.inl x9)]) dX12_fitsBy_215 rfl rfl ?_
      refine z_iinc (pc := 217) (v := (x6 + (nI 1))) (ls' := [some (.inr (some (0, 12, 63))), some (.inl x1), some (.inl x2), some (.inl x3), some (.inl (x4 ||| ((nI 1) <<< (x7 &&& 31)))), some (.inl (x5 ||| ((nI 1) <<< (x7 &&& 31)))), some (.inl (x6 + (nI 1))), some (.inl x7), some (.inl x8), some (.inl x9)]) dX12_fitsBy_217 rfl (by rw [show Int32.ofInt (1) = (nI 1) by decide]) rfl ?_
      refine z_goto (pc := 220) (tgt := 65) dX12_fitsBy_220 (by decide) ?_
      exact z_drop (ls' := [some (.inr (some (0, 12, 63))), some (.inl x1), some (.inl x2), some (.inl x3), some (.inl (x4 ||| ((nI 1) <<< (x7 &&& 31)))), some (.inl (x5 ||| ((nI 1) <<< (x7 &&& 31)))), some (.inl (x6 + (nI 1))), none, none, none]) (by simp [dropL]) H
  · replace H := H.2 c1
    refine z_goto (pc := 191) (tgt := 217) dX12_fitsBy_191 (by decide) ?_
    refine z_iinc (pc := 217) (v := (x6 + (nI 1))) (ls' := [some (.inr (some (0, 12, 63))), some (.inl x1), some (.inl x2), some (.inl x3), some (.inl x4), some (.inl x5), some (.inl (x6 + (nI 1))), some (.inl x7), some (.inl x8), some (.inl x9)]) dX12_fitsBy_217 rfl (by rw [show Int32.ofInt (1) = (nI 1) by decide]) rfl ?_
    refine z_goto (pc := 220) (tgt := 65) dX12_fitsBy_220 (by decide) ?_
    exact z_drop (ls' := [some (.inr (some (0, 12, 63))), some (.inl x1), some (.inl x2), some (.inl x3), some (.inl x4), some (.inl x5), some (.inl (x6 + (nI 1))), none, none, none]) (by simp [dropL]) H

set_option maxRecDepth 20000 in
theorem bX12_fits_0 {l : Launch} {E : eE} {d bc bs : Nat} {h : aH} {Q : Int32 → aH → Prop} {x1 : Int32} {x2 : Int32} {x3 : Int32} {x4 : Int32} {x5 : Int32} (S : SH h) (H : ((¬ (inI x1 (hI h 63 14)) → Q (-1) h) ∧ ((inI x1 (hI h 63 14)) → ((¬ (0 ≤ (x2).toInt ∧ (x2).toInt < 52) → Q (-1) h) ∧ ((0 ≤ (x2).toInt ∧ (x2).toInt < 52) → ((¬ (0 ≤ (x5).toInt ∧ (x5).toInt ≤ (hI h 63 8).toInt) → Q (-1) h) ∧ ((0 ≤ (x5).toInt ∧ (x5).toInt ≤ (hI h 63 8).toInt) → (CI l E d 0 0 mX12_isPair [.inr (some (0, 12, 63)), .inl x1, .inl x3, .inl x4] h (fun v4 h4 => SH h4 ∧ ((¬ v4 = 0 → (CV l E d 0 0 mX12_takesWeek [.inr (some (0, 12, 63)), .inl x2, .inl x5] h4 (fun h6 => SH h6 ∧ (CV l E d 0 0 mX12_comeAll [.inr (some (0, 12, 63)), .inl x1] h6 (fun h7 => SH h7 ∧ (CV l E d 0 0 mX12_asksFree [.inr (some (0, 12, 63)), .inl x1] h7 (fun h8 => SH h8 ∧ (CI l E d 0 0 mX12_fitsBy [.inr (some (0, 12, 63)), .inl x1, .inl x3, .inl x4] h8 (fun v9 h9 => SH h9 ∧ ((v9 = 0 → Q (nI 0) h9) ∧ (¬ v9 = 0 → Q (nI 1) h9))))))))))) ∧ (v4 = 0 → Q (-1) h4))))))))))) : CI l E (d + 1) bc bs mX12_fits [.inr (some (0, 12, 63)), .inl x1, .inl x2, .inl x3, .inl x4, .inl x5] h Q := by
  refine CI.of (by decide) rfl ?_
  show TI l E mX12_fits (d + 1) bc bs 0 [some (.inr (some (0, 12, 63))), some (.inl x1), some (.inl x2), some (.inl x3), some (.inl x4), some (.inl x5)] [] h Q
  refine z_aload_n (pc := 0) dX12_fits_0 rfl rfl ?_
  refine z_iload_n (pc := 1) dX12_fits_1 rfl rfl ?_
  refine y_VI (pc := 2) (bc := bc) (bs := bs) (mc := 0) (ms := 0) (As := [.inl x1]) (rest := []) dX12_fits_2 kX12_isSeries lX12_146 ⟨_, _, rfl⟩ rfl rfl (c_isSeries S ?_)
  refine z_if_eq (pc := 5) (tgt := 35) dX12_fits_5 (by decide) (fun c1 => ?_) (fun c1 => ?_)
  · replace H := H.1 (bI0.mp c1)
    refine z_iconst (pc := 35) (v := (-1)) dX12_fits_35 (by decide) ?_
    exact z_iret (pc := 36) dX12_fits_36 rfl rfl ⟨_, rfl, H⟩
  · replace H := H.2 (bI1.mp c1)
    refine z_iload_n (pc := 8) dX12_fits_8 rfl rfl ?_
    refine y_SI (pc := 9) (bc := bc) (bs := bs) (mc := 0) (ms := 0) (As := [.inl x2]) (rest := []) dX12_fits_9 kX12_isWeek lX12_149 rfl rfl (c_isWeek S ?_)
    refine z_if_eq (pc := 12) (tgt := 35) dX12_fits_12 (by decide) (fun c2 => ?_) (fun c2 => ?_)
    · replace H := H.1 (bI0.mp c2)
      refine z_iconst (pc := 35) (v := (-1)) dX12_fits_35 (by decide) ?_
      exact z_iret (pc := 36) dX12_fits_36 rfl rfl ⟨_, rfl, H⟩
    · replace H := H.2 (bI1.mp c2)
      refine z_aload_n (pc := 15) dX12_fits_15 rfl rfl ?_
      refine z_iload (pc := 16) dX12_fits_16 rfl ?_
      refine y_VI (pc := 18) (bc := bc) (bs := bs) (mc := 0) (ms := 0) (As := [.inl x5]) (rest := []) dX12_fits_18 kX12_isKnown lX12_152 ⟨_, _, rfl⟩ rfl rfl (c_isKnown S ?_)
      refine z_if_eq (pc := 21) (tgt := 35) dX12_fits_21 (by decide) (fun c3 => ?_) (fun c3 => ?_)
      · replace H := H.1 (bI0.mp c3)
        refine z_iconst (pc := 35) (v := (-1)) dX12_fits_35 (by decide) ?_
        exact z_iret (pc := 36) dX12_fits_36 rfl rfl ⟨_, rfl, H⟩
      · replace H := H.2 (bI1.mp c3)
        refine z_aload_n (pc := 24) dX12_fits_24 rfl rfl ?_
        refine z_iload_n (pc := 25) dX12_fits_25 rfl rfl ?_
        refine z_iload_n (pc := 26) dX12_fits_26 rfl rfl ?_
        refine z_iload (pc := 27) dX12_fits_27 rfl ?_
        refine y_VI (pc := 29) (bc := bc) (bs := bs) (mc := 0) (ms := 0) (As := [.inl x1, .inl x3, .inl x4]) (rest := []) dX12_fits_29 kX12_isPair lX12_211 ⟨_, _, rfl⟩ rfl rfl (H.use (fun v4 h4 H => ?_))
        have S4 := H.1
        replace H := H.2
        refine z_if_ne (pc := 32) (tgt := 37) dX12_fits_32 (by decide) (fun c5 => ?_) (fun c5 => ?_)
        · replace H := H.1 c5
          refine z_aload_n (pc := 37) dX12_fits_37 rfl rfl ?_
          refine z_iload_n (pc := 38) dX12_fits_38 rfl rfl ?_
          refine z_iload (pc := 39) dX12_fits_39 rfl ?_
          refine y_VV (pc := 41) (bc := bc) (bs := bs) (mc := 0) (ms := 0) (As := [.inl x2, .inl x5]) (rest := []) dX12_fits_41 kX12_takesWeek lX12_214 ⟨_, _, rfl⟩ rfl rfl (H.use (fun h6 H => ?_))
          have S6 := H.1
          replace H := H.2
          refine z_aload_n (pc := 44) dX12_fits_44 rfl rfl ?_
          refine z_iload_n (pc := 45) dX12_fits_45 rfl rfl ?_
          refine y_VV (pc := 46) (bc := bc) (bs := bs) (mc := 0) (ms := 0) (As := [.inl x1]) (rest := []) dX12_fits_46 kX12_comeAll lX12_218 ⟨_, _, rfl⟩ rfl rfl (H.use (fun h7 H => ?_))
          have S7 := H.1
          replace H := H.2
          refine z_aload_n (pc := 49) dX12_fits_49 rfl rfl ?_
          refine z_iload_n (pc := 50) dX12_fits_50 rfl rfl ?_
          refine y_VV (pc := 51) (bc := bc) (bs := bs) (mc := 0) (ms := 0) (As := [.inl x1]) (rest := []) dX12_fits_51 kX12_asksFree lX12_201 ⟨_, _, rfl⟩ rfl rfl (H.use (fun h8 H => ?_))
          have S8 := H.1
          replace H := H.2
          refine z_aload_n (pc := 54) dX12_fits_54 rfl rfl ?_
          refine z_iload_n (pc := 55) dX12_fits_55 rfl rfl ?_
          refine z_iload_n (pc := 56) dX12_fits_56 rfl rfl ?_
          refine z_iload (pc := 57) dX12_fits_57 rfl ?_
          refine y_VI (pc := 59) (bc := bc) (bs := bs) (mc := 0) (ms := 0) (As := [.inl x1, .inl x3, .inl x4]) (rest := []) dX12_fits_59 kX12_fitsBy lX12_221 ⟨_, _, rfl⟩ rfl rfl (H.use (fun v9 h9 H => ?_))
          have S9 := H.1
          replace H := H.2
          refine z_if_eq (pc := 62) (tgt := 69) dX12_fits_62 (by decide) (fun c10 => ?_) (fun c10 => ?_)
          · replace H := H.1 c10
            refine z_iconst (pc := 69) (v := (nI 0)) dX12_fits_69 (by decide) ?_
            exact z_iret (pc := 70) dX12_fits_70 rfl rfl ⟨_, rfl, H⟩
          · replace H := H.2 c10
            refine z_iconst (pc := 65) (v := (nI 1)) dX12_fits_65 (by decide) ?_
            refine z_goto (pc := 66) (tgt := 70) dX12_fits_66 (by decide) ?_
            exact z_iret (pc := 70) dX12_fits_70 rfl rfl ⟨_, rfl, H⟩
        · replace H := H.2 c5
          refine z_iconst (pc := 35) (v := (-1)) dX12_fits_35 (by decide) ?_
          exact z_iret (pc := 36) dX12_fits_36 rfl rfl ⟨_, rfl, H⟩

abbrev LX12_priceOf_37 (l : Launch) (E : eE) (d bc bs : Nat) (x1 : Int32) (x2 : Int32) (x3 : Int32) (x4 : Int32) (x5 : Int32) (x6 : Int32) (h : aH) (Q : Int32 → aH → Prop) : Prop := TI l E mX12_priceOf d bc bs 37 [some (.inr (some (0, 12, 63))), some (.inl x1), some (.inl x2), some (.inl x3), some (.inl x4), some (.inl x5), some (.inl x6)] [] h Q

set_option maxRecDepth 20000 in
theorem bX12_priceOf_0 {l : Launch} {E : eE} {d bc bs : Nat} {h : aH} {Q : Int32 → aH → Prop} {x1 : Int32} {x2 : Int32} {x3 : Int32} {x4 : Int32} {x5 : Int32} (S : SR h) (hd : 1 ≤ d) (H : ((¬ (x5 &&& (nI 1)) = (nI 1) → LX12_priceOf_37 l E (d + 1) bc bs x1 x2 x3 x4 x5 (nI 0) h Q) ∧ ((x5 &&& (nI 1)) = (nI 1) → ((vp_in x2 4 ∧ vp_in x3 6) ∧ (vp_in x2 4 ∧ ((inI x1 (hI h 63 3)) ∧ ((0 ≤ ((rSlot h x2 x3)).toInt ∧ 1 ≤ ((hA h 74 (x2).toNatClampNeg)).toInt ∧ ((hA h 74 (x2).toNatClampNeg)).toInt ≤ 6 ∧ ((rSlot h x2 x3)).toInt + ((hA h 74 (x2).toNatClampNeg)).toInt ≤ 17472) ∧ ((0 ≤ ((hI h 63 23)).toInt ∧ ((hI h 63 23)).toInt ≤ (hI h 63 8).toInt) ∧ LX12_priceOf_37 l E (d + 1) bc bs x1 x2 x3 x4 x5 ((nI 0) + (rCosts h x1 (rSlot h x2 x3) ((hI h 63 23)).toNatClampNeg ((hA h 74 (x2).toNatClampNeg)).toNatClampNeg)) h Q)))))))) : CI l E (d + 1) bc bs mX12_priceOf [.inr (some (0, 12, 63)), .inl x1, .inl x2, .inl x3, .inl x4, .inl x5] h Q := by
  refine CI.of (by decide) rfl ?_
  show TI l E mX12_priceOf (d + 1) bc bs 0 [some (.inr (some (0, 12, 63))), some (.inl x1), some (.inl x2), some (.inl x3), some (.inl x4), some (.inl x5), none] [] h Q
  refine z_iconst (pc := 0) (v := (nI 0)) dX12_priceOf_0 (by decide) ?_
  refine z_istore (pc := 1) (ls' := [some (.inr (some (0, 12, 63))), some (.inl x1), some (.inl x2), some (.inl x3), some (.inl x4), some (.inl x5), some (.inl (nI 0))]) dX12_priceOf_1 rfl rfl ?_
  refine z_iload (pc := 3) dX12_priceOf_3 rfl ?_
  refine z_iconst (pc := 5) (v := (nI 1)) dX12_priceOf_5 (by decide) ?_
  refine z_iand (pc := 6) dX12_priceOf_6 ?_
  refine z_iconst (pc := 7) (v := (nI 1)) dX12_priceOf_7 (by decide) ?_
  refine z_icmp_ne (pc := 8) (tgt := 37) dX12_priceOf_8 (by decide) (fun c1 => ?_) (fun c1 => ?_)
  · replace H := H.1 c1
    exact H
  · replace H := H.2 c1
    refine z_iload (pc := 11) dX12_priceOf_11 rfl ?_
    refine z_aload_n (pc := 13) dX12_priceOf_13 rfl rfl ?_
    refine z_iload_n (pc := 14) dX12_priceOf_14 rfl rfl ?_
    refine z_aload_n (pc := 15) dX12_priceOf_15 rfl rfl ?_
    refine z_iload_n (pc := 16) dX12_priceOf_16 rfl rfl ?_
    refine z_iload_n (pc := 17) dX12_priceOf_17 rfl rfl ?_
    have c2 := H.1
    replace H := H.2
    refine y_VI (pc := 18) (bc := bc) (bs := bs) (mc := 0) (ms := 0) (As := [.inl x2, .inl x3]) (rest := [.inl x1, .inr (some (0, 12, 63)), .inl (nI 0)]) dX12_priceOf_18 kX12_slotOf lX12_184 ⟨_, _, rfl⟩ rfl rfl (c_slotOf S.1 c2 ?_)
    refine z_aload_n (pc := 21) dX12_priceOf_21 rfl rfl ?_
    refine z_getk (pc := 22) dX12_priceOf_22 fX12_45 rfl (s_63_15 S.1) ?_
    refine z_iload_n (pc := 25) dX12_priceOf_25 rfl rfl ?_
    have c3 := H.1
    replace H := H.2
    refine z_iald (pc := 26) dX12_priceOf_26 c3 ?_
    refine z_aload_n (pc := 27) dX12_priceOf_27 rfl rfl ?_
    refine z_geti (pc := 28) dX12_priceOf_28 fX12_187 rfl ?_
    have c4 := H.1
    replace H := H.2
    have c5 := H.1
    replace H := H.2
    have c6 := H.1
    replace H := H.2
    refine y_VI (pc := 31) (bc := bc) (bs := bs) (mc := 0) (ms := 0) (As := [.inl x1, .inl (rSlot h x2 x3), .inl (hA h 74 (x2).toNatClampNeg), .inl (hI h 63 23)]) (rest := [.inl (nI 0)]) dX12_priceOf_31 kX12_costs lX12_178 ⟨_, _, rfl⟩ rfl rfl (c_costs S (by omega) c4 c5 c6 ?_)
    refine z_iadd (pc := 34) dX12_priceOf_34 ?_
    refine z_istore (pc := 35) (ls' := [some (.inr (some (0, 12, 63))), some (.inl x1), some (.inl x2), some (.inl x3), some (.inl x4), some (.inl x5), some (.inl ((nI 0) + (rCosts h x1 (rSlot h x2 x3) ((hI h 63 23)).toNatClampNeg ((hA h 74 (x2).toNatClampNeg)).toNatClampNeg)))]) dX12_priceOf_35 rfl rfl ?_
    exact H

set_option maxRecDepth 20000 in
theorem bX12_priceOf_37 {l : Launch} {E : eE} {d bc bs : Nat} {h : aH} {Q : Int32 → aH → Prop} {x1 : Int32} {x2 : Int32} {x3 : Int32} {x4 : Int32} {x5 : Int32} {x6 : Int32} (S : SR h) (hd : 1 ≤ d) (H : ((¬ (x5 &&& (nI 2)) = (nI 2) → Q x6 h) ∧ ((x5 &&& (nI 2)) = (nI 2) → ((vp_in x2 4 ∧ vp_in x4 6) ∧ (vp_in x2 4 ∧ ((inI x1 (hI h 63 3)) ∧ ((0 ≤ ((rSlot h x2 x4)).toInt ∧ 1 ≤ ((hA h 74 (x2).toNatClampNeg)).toInt ∧ ((hA h 74 (x2).toNatClampNeg)).toInt ≤ 6 ∧ ((rSlot h x2 x4)).toInt + ((hA h 74 (x2).toNatClampNeg)).toInt ≤ 17472) ∧ ((0 ≤ ((hI h 63 23)).toInt ∧ ((hI h 63 23)).toInt ≤ (hI h 63 8).toInt) ∧ Q (x6 + (rCosts h x1 (rSlot h x2 x4) ((hI h 63 23)).toNatClampNeg ((hA h 74 (x2).toNatClampNeg)).toNatClampNeg)) h)))))))) : LX12_priceOf_37 l E (d + 1) bc bs x1 x2 x3 x4 x5 x6 h Q := by
  refine z_iload (pc := 37) dX12_priceOf_37 rfl ?_
  refine z_iconst (pc := 39) (v := (nI 2)) dX12_priceOf_39 (by decide) ?_
  refine z_iand (pc := 40) dX12_priceOf_40 ?_
  refine z_iconst (pc := 41) (v := (nI 2)) dX12_priceOf_41 (by decide) ?_
  refine z_icmp_ne (pc := 42) (tgt := 72) dX12_priceOf_42 (by decide) (fun c1 => ?_) (fun c1 => ?_)
  · replace H := H.1 c1
    refine z_iload (pc := 72) dX12_priceOf_72 rfl ?_
    exact z_iret (pc := 74) dX12_priceOf_74 rfl rfl ⟨_, rfl, H⟩
  · replace H := H.2 c1
    refine z_iload (pc := 45) dX12_priceOf_45 rfl ?_
    refine z_aload_n (pc := 47) dX12_priceOf_47 rfl rfl ?_
    refine z_iload_n (pc := 48) dX12_priceOf_48 rfl rfl ?_
    refine z_aload_n (pc := 49) dX12_priceOf_49 rfl rfl ?_
    refine z_iload_n (pc := 50) dX12_priceOf_50 rfl rfl ?_
    refine z_iload (pc := 51) dX12_priceOf_51 rfl ?_
    have c2 := H.1
    replace H := H.2
    refine y_VI (pc := 53) (bc := bc) (bs := bs) (mc := 0) (ms := 0) (As := [.inl x2, .inl x4]) (rest := [.inl x1, .inr (some (0, 12, 63)), .inl x6]) dX12_priceOf_53 kX12_slotOf lX12_184 ⟨_, _, rfl⟩ rfl rfl (c_slotOf S.1 c2 ?_)
    refine z_aload_n (pc := 56) dX12_priceOf_56 rfl rfl ?_
    refine z_getk (pc := 57) dX12_priceOf_57 fX12_45 rfl (s_63_15 S.1) ?_
    refine z_iload_n (pc := 60) dX12_priceOf_60 rfl rfl ?_
    have c3 := H.1
    replace H := H.2
    refine z_iald (pc := 61) dX12_priceOf_61 c3 ?_
    refine z_aload_n (pc := 62) dX12_priceOf_62 rfl rfl ?_
    refine z_geti (pc := 63) dX12_priceOf_63 fX12_187 rfl ?_
    have c4 := H.1
    replace H := H.2
    have c5 := H.1
    replace H := H.2
    have c6 := H.1
    replace H := H.2
    refine y_VI (pc := 66) (bc := bc) (bs := bs) (mc := 0) (ms := 0) (As := [.inl x1, .inl (rSlot h x2 x4), .inl (hA h 74 (x2).toNatClampNeg), .inl (hI h 63 23)]) (rest := [.inl x6]) dX12_priceOf_66 kX12_costs lX12_178 ⟨_, _, rfl⟩ rfl rfl (c_costs S (by omega) c4 c5 c6 ?_)
    refine z_iadd (pc := 69) dX12_priceOf_69 ?_
    refine z_istore (pc := 70) (ls' := [some (.inr (some (0, 12, 63))), some (.inl x1), some (.inl x2), some (.inl x3), some (.inl x4), some (.inl x5), some (.inl (x6 + (rCosts h x1 (rSlot h x2 x4) ((hI h 63 23)).toNatClampNeg ((hA h 74 (x2).toNatClampNeg)).toNatClampNeg)))]) dX12_priceOf_70 rfl rfl ?_
    refine z_iload (pc := 72) dX12_priceOf_72 rfl ?_
    exact z_iret (pc := 74) dX12_priceOf_74 rfl rfl ⟨_, rfl, H⟩

set_option maxRecDepth 20000 in
theorem bX12_comes_0 {l : Launch} {E : eE} {d bc bs : Nat} {h : aH} {Q : Int32 → aH → Prop} {x1 : Int32} {x2 : Int32} {x3 : Int32} {x4 : Int32} (S : SH h) (H : ((¬ (inI x1 (hI h 63 3)) → Q (-1) h) ∧ ((inI x1 (hI h 63 3)) → ((¬ (inI x2 (hI h 63 14)) → Q (-1) h) ∧ ((inI x2 (hI h 63 14)) → ((¬ (0 ≤ (x3).toInt ∧ (x3).toInt < 52) → Q (-1) h) ∧ ((0 ≤ (x3).toInt ∧ (x3).toInt < 52) → ((¬ (0 ≤ (x4).toInt ∧ (x4).toInt ≤ (hI h 63 8).toInt) → Q (-1) h) ∧ ((0 ≤ (x4).toInt ∧ (x4).toInt ≤ (hI h 63 8).toInt) → (vp_in ((nI 2) * (((nI 52) * x2) + x3)) 416 ∧ ((¬ (hA h 80 (((nI 2) * (((nI 52) * x2) + x3))).toNatClampNeg) = (-1) → (CV l E d 0 0 mX12_takesWeek [.inr (some (0, 12, 63)), .inl x3, .inl x4] h (fun h7 => SH h7 ∧ (CV l E d 0 0 mX12_comeAll [.inr (some (0, 12, 63)), .inl (x2 + (nI 1))] h7 (fun h8 => SH h8 ∧ (vp_in (((nI 12) * x2) + x1) 48 ∧ Q (hA h8 83 ((((nI 12) * x2) + x1)).toNatClampNeg) h8)))))) ∧ ((hA h 80 (((nI 2) * (((nI 52) * x2) + x3))).toNatClampNeg) = (-1) → Q (-1) h)))))))))))) : CI l E (d + 1) bc bs mX12_comes [.inr (some (0, 12, 63)), .inl x1, .inl x2, .inl x3, .inl x4] h Q := by
  refine CI.of (by decide) rfl ?_
  show TI l E mX12_comes (d + 1) bc bs 0 [some (.inr (some (0, 12, 63))), some (.inl x1), some (.inl x2), some (.inl x3), some (.inl x4)] [] h Q
  refine z_aload_n (pc := 0) dX12_comes_0 rfl rfl ?_
  refine z_iload_n (pc := 1) dX12_comes_1 rfl rfl ?_
  refine y_VI (pc := 2) (bc := bc) (bs := bs) (mc := 0) (ms := 0) (As := [.inl x1]) (rest := []) dX12_comes_2 kX12_isPerson lX12_139 ⟨_, _, rfl⟩ rfl rfl (c_isPerson S ?_)
  refine z_if_eq (pc := 5) (tgt := 49) dX12_comes_5 (by decide) (fun c1 => ?_) (fun c1 => ?_)
  · replace H := H.1 (bI0.mp c1)
    refine z_iconst (pc := 49) (v := (-1)) dX12_comes_49 (by decide) ?_
    exact z_iret (pc := 50) dX12_comes_50 rfl rfl ⟨_, rfl, H⟩
  · replace H := H.2 (bI1.mp c1)
    refine z_aload_n (pc := 8) dX12_comes_8 rfl rfl ?_
    refine z_iload_n (pc := 9) dX12_comes_9 rfl rfl ?_
    refine y_VI (pc := 10) (bc := bc) (bs := bs) (mc := 0) (ms := 0) (As := [.inl x2]) (rest := []) dX12_comes_10 kX12_isSeries lX12_146 ⟨_, _, rfl⟩ rfl rfl (c_isSeries S ?_)
    refine z_if_eq (pc := 13) (tgt := 49) dX12_comes_13 (by decide) (fun c2 => ?_) (fun c2 => ?_)
    · replace H := H.1 (bI0.mp c2)
      refine z_iconst (pc := 49) (v := (-1)) dX12_comes_49 (by decide) ?_
      exact z_iret (pc := 50) dX12_comes_50 rfl rfl ⟨_, rfl, H⟩
    · replace H := H.2 (bI1.mp c2)
      refine z_iload_n (pc := 16) dX12_comes_16 rfl rfl ?_
      refine y_SI (pc := 17) (bc := bc) (bs := bs) (mc := 0) (ms := 0) (As := [.inl x3]) (rest := []) dX12_comes_17 kX12_isWeek lX12_149 rfl rfl (c_isWeek S ?_)
      refine z_if_eq (pc := 20) (tgt := 49) dX12_comes_20 (by decide) (fun c3 => ?_) (fun c3 => ?_)
      · replace H := H.1 (bI0.mp c3)
        refine z_iconst (pc := 49) (v := (-1)) dX12_comes_49 (by decide) ?_
        exact z_iret (pc := 50) dX12_comes_50 rfl rfl ⟨_, rfl, H⟩
      · replace H := H.2 (bI1.mp c3)
        refine z_aload_n (pc := 23) dX12_comes_23 rfl rfl ?_
        refine z_iload (pc := 24) dX12_comes_24 rfl ?_
        refine y_VI (pc := 26) (bc := bc) (bs := bs) (mc := 0) (ms := 0) (As := [.inl x4]) (rest := []) dX12_comes_26 kX12_isKnown lX12_152 ⟨_, _, rfl⟩ rfl rfl (c_isKnown S ?_)
        refine z_if_eq (pc := 29) (tgt := 49) dX12_comes_29 (by decide) (fun c4 => ?_) (fun c4 => ?_)
        · replace H := H.1 (bI0.mp c4)
          refine z_iconst (pc := 49) (v := (-1)) dX12_comes_49 (by decide) ?_
          exact z_iret (pc := 50) dX12_comes_50 rfl rfl ⟨_, rfl, H⟩
        · replace H := H.2 (bI1.mp c4)
          refine z_aload_n (pc := 32) dX12_comes_32 rfl rfl ?_
          refine z_getk (pc := 33) dX12_comes_33 fX12_63 rfl (s_63_21 S) ?_
          refine z_iconst (pc := 36) (v := (nI 2)) dX12_comes_36 (by decide) ?_
          refine z_bipush (pc := 37) (v := (nI 52)) dX12_comes_37 (by decide) ?_
          refine z_iload_n (pc := 39) dX12_comes_39 rfl rfl ?_
          refine z_imul (pc := 40) dX12_comes_40 ?_
          refine z_iload_n (pc := 41) dX12_comes_41 rfl rfl ?_
          refine z_iadd (pc := 42) dX12_comes_42 ?_
          refine z_imul (pc := 43) dX12_comes_43 ?_
          have c5 := H.1
          replace H := H.2
          refine z_iald (pc := 44) dX12_comes_44 c5 ?_
          refine z_iconst (pc := 45) (v := (-1)) dX12_comes_45 (by decide) ?_
          refine z_icmp_ne (pc := 46) (tgt := 51) dX12_comes_46 (by decide) (fun c6 => ?_) (fun c6 => ?_)
          · replace H := H.1 c6
            refine z_aload_n (pc := 51) dX12_comes_51 rfl rfl ?_
            refine z_iload_n (pc := 52) dX12_comes_52 rfl rfl ?_
            refine z_iload (pc := 53) dX12_comes_53 rfl ?_
            refine y_VV (pc := 55) (bc := bc) (bs := bs) (mc := 0) (ms := 0) (As := [.inl x3, .inl x4]) (rest := []) dX12_comes_55 kX12_takesWeek lX12_214 ⟨_, _, rfl⟩ rfl rfl (H.use (fun h7 H => ?_))
            have S7 := H.1
            replace H := H.2
            refine z_aload_n (pc := 58) dX12_comes_58 rfl rfl ?_
            refine z_iload_n (pc := 59) dX12_comes_59 rfl rfl ?_
            refine z_iconst (pc := 60) (v := (nI 1)) dX12_comes_60 (by decide) ?_
            refine z_iadd (pc := 61) dX12_comes_61 ?_
            refine y_VV (pc := 62) (bc := bc) (bs := bs) (mc := 0) (ms := 0) (As := [.inl (x2 + (nI 1))]) (rest := []) dX12_comes_62 kX12_comeAll lX12_218 ⟨_, _, rfl⟩ rfl rfl (H.use (fun h8 H => ?_))
            have S8 := H.1
            replace H := H.2
            refine z_aload_n (pc := 65) dX12_comes_65 rfl rfl ?_
            refine z_getk (pc := 66) dX12_comes_66 fX12_72 rfl (s_63_26 S8) ?_
            refine z_bipush (pc := 69) (v := (nI 12)) dX12_comes_69 (by decide) ?_
            refine z_iload_n (pc := 71) dX12_comes_71 rfl rfl ?_
            refine z_imul (pc := 72) dX12_comes_72 ?_
            refine z_iload_n (pc := 73) dX12_comes_73 rfl rfl ?_
            refine z_iadd (pc := 74) dX12_comes_74 ?_
            have c9 := H.1
            replace H := H.2
            refine z_iald (pc := 75) dX12_comes_75 c9 ?_
            exact z_iret (pc := 76) dX12_comes_76 rfl rfl ⟨_, rfl, H⟩
          · replace H := H.2 c6
            refine z_iconst (pc := 49) (v := (-1)) dX12_comes_49 (by decide) ?_
            exact z_iret (pc := 50) dX12_comes_50 rfl rfl ⟨_, rfl, H⟩

abbrev LX12_sum_23 (l : Launch) (E : eE) (d bc bs : Nat) (x1 : Int32) (x2 : Int32) (x3 : Int32) (x4 : Int32) (h : aH) (Q : Int32 → aH → Prop) : Prop := TI l E mX12_sum d bc bs 23 [some (.inr (some (0, 12, 63))), some (.inl x1), some (.inl x2), some (.inl x3), some (.inl x4), none, none] [] h Q

abbrev LX12_sum_43 (l : Launch) (E : eE) (d bc bs : Nat) (x1 : Int32) (x2 : Int32) (x3 : Int32) (x4 : Int32) (x5 : Int32) (x6 : Int32) (h : aH) (Q : Int32 → aH → Prop) : Prop := TI l E mX12_sum d bc bs 43 [some (.inr (some (0, 12, 63))), some (.inl x1), some (.inl x2), some (.inl x3), some (.inl x4), some (.inl x5), some (.inl x6)] [] h Q

abbrev LX12_sum_100 (l : Launch) (E : eE) (d bc bs : Nat) (x1 : Int32) (x2 : Int32) (x3 : Int32) (x4 : Int32) (x5 : Int32) (x6 : Int32) (h : aH) (Q : Int32 → aH → Prop) : Prop := TI l E mX12_sum d bc bs 100 [some (.inr (some (0, 12, 63))), some (.inl x1), some (.inl x2), some (.inl x3), some (.inl x4), some (.inl x5), some (.inl x6)] [] h Q

set_option maxRecDepth 20000 in
theorem bX12_sum_0 {l : Launch} {E : eE} {d bc bs : Nat} {h : aH} {Q : Int32 → aH → Prop} {x1 : Int32} {x2 : Int32} (S : SH h) (H : ((¬ (inI x1 (hI h 63 3)) → Q (-1) h) ∧ ((inI x1 (hI h 63 3)) → (((0 ≤ (x2).toInt ∧ (x2).toInt ≤ (hI h 63 8).toInt) → LX12_sum_23 l E (d + 1) bc bs x1 x2 (nI 0) (nI 0) h Q) ∧ (¬ (0 ≤ (x2).toInt ∧ (x2).toInt ≤ (hI h 63 8).toInt) → Q (-1) h))))) : CI l E (d + 1) bc bs mX12_sum [.inr (some (0, 12, 63)), .inl x1, .inl x2] h Q := by
  refine CI.of (by decide) rfl ?_
  show TI l E mX12_sum (d + 1) bc bs 0 [some (.inr (some (0, 12, 63))), some (.inl x1), some (.inl x2), none, none, none, none] [] h Q
  refine z_aload_n (pc := 0) dX12_sum_0 rfl rfl ?_
  refine z_iload_n (pc := 1) dX12_sum_1 rfl rfl ?_
  refine y_VI (pc := 2) (bc := bc) (bs := bs) (mc := 0) (ms := 0) (As := [.inl x1]) (rest := []) dX12_sum_2 kX12_isPerson lX12_139 ⟨_, _, rfl⟩ rfl rfl (c_isPerson S ?_)
  refine z_if_eq (pc := 5) (tgt := 16) dX12_sum_5 (by decide) (fun c1 => ?_) (fun c1 => ?_)
  · replace H := H.1 (bI0.mp c1)
    refine z_iconst (pc := 16) (v := (-1)) dX12_sum_16 (by decide) ?_
    exact z_iret (pc := 17) dX12_sum_17 rfl rfl ⟨_, rfl, H⟩
  · replace H := H.2 (bI1.mp c1)
    refine z_aload_n (pc := 8) dX12_sum_8 rfl rfl ?_
    refine z_iload_n (pc := 9) dX12_sum_9 rfl rfl ?_
    refine y_VI (pc := 10) (bc := bc) (bs := bs) (mc := 0) (ms := 0) (As := [.inl x2]) (rest := []) dX12_sum_10 kX12_isKnown lX12_152 ⟨_, _, rfl⟩ rfl rfl (c_isKnown S ?_)
    refine z_if_ne (pc := 13) (tgt := 18) dX12_sum_13 (by decide) (fun c2 => ?_) (fun c2 => ?_)
    · replace H := H.1 (bI1.mp c2)
      refine z_iconst (pc := 18) (v := (nI 0)) dX12_sum_18 (by decide) ?_
      refine z_istore_n (pc := 19) (ls' := [some (.inr (some (0, 12, 63))), some (.inl x1), some (.inl x2), some (.inl (nI 0)), none, none, none]) dX12_sum_19 rfl rfl rfl ?_
      refine z_iconst (pc := 20) (v := (nI 0)) dX12_sum_20 (by decide) ?_
      refine z_istore (pc := 21) (ls' := [some (.inr (some (0, 12, 63))), some (.inl x1), some (.inl x2), some (.inl (nI 0)), some (.inl (nI 0)), none, none]) dX12_sum_21 rfl rfl ?_
      exact H
    · replace H := H.2 (bI0.mp c2)
      refine z_iconst (pc := 16) (v := (-1)) dX12_sum_16 (by decide) ?_
      exact z_iret (pc := 17) dX12_sum_17 rfl rfl ⟨_, rfl, H⟩

set_option maxRecDepth 20000 in
theorem bX12_sum_23 {l : Launch} {E : eE} {d bc bs : Nat} {h : aH} {Q : Int32 → aH → Prop} {x1 : Int32} {x2 : Int32} {x3 : Int32} {x4 : Int32} (S : SH h) (H : (((nI 52) ≤ x4 → Q x3 h) ∧ (¬ (nI 52) ≤ x4 → (CV l E d 0 0 mX12_takesWeek [.inr (some (0, 12, 63)), .inl x4, .inl x2] h (fun h2 => SH h2 ∧ LX12_sum_43 l E (d + 1) bc bs x1 x2 x3 x4 (nI 0) (nI 0) h2 Q))))) : LX12_sum_23 l E (d + 1) bc bs x1 x2 x3 x4 h Q := by
  refine z_iload (pc := 23) dX12_sum_23 rfl ?_
  refine z_bipush (pc := 25) (v := (nI 52)) dX12_sum_25 (by decide) ?_
  refine z_icmp_ge (pc := 27) (tgt := 168) dX12_sum_27 (by decide) (fun c1 => ?_) (fun c1 => ?_)
  · replace H := H.1 c1
    refine z_iload_n (pc := 168) dX12_sum_168 rfl rfl ?_
    exact z_iret (pc := 169) dX12_sum_169 rfl rfl ⟨_, rfl, H⟩
  · replace H := H.2 c1
    refine z_aload_n (pc := 30) dX12_sum_30 rfl rfl ?_
    refine z_iload (pc := 31) dX12_sum_31 rfl ?_
    refine z_iload_n (pc := 33) dX12_sum_33 rfl rfl ?_
    refine y_VV (pc := 34) (bc := bc) (bs := bs) (mc := 0) (ms := 0) (As := [.inl x4, .inl x2]) (rest := []) dX12_sum_34 kX12_takesWeek lX12_214 ⟨_, _, rfl⟩ rfl rfl (H.use (fun h2 H => ?_))
    have S2 := H.1
    replace H := H.2
    refine z_iconst (pc := 37) (v := (nI 0)) dX12_sum_37 (by decide) ?_
    refine z_istore (pc := 38) (ls' := [some (.inr (some (0, 12, 63))), some (.inl x1), some (.inl x2), some (.inl x3), some (.inl x4), some (.inl (nI 0)), none]) dX12_sum_38 rfl rfl ?_
    refine z_iconst (pc := 40) (v := (nI 0)) dX12_sum_40 (by decide) ?_
    refine z_istore (pc := 41) (ls' := [some (.inr (some (0, 12, 63))), some (.inl x1), some (.inl x2), some (.inl x3), some (.inl x4), some (.inl (nI 0)), some (.inl (nI 0))]) dX12_sum_41 rfl rfl ?_
    exact H

set_option maxRecDepth 20000 in
theorem bX12_sum_43 {l : Launch} {E : eE} {d bc bs : Nat} {h : aH} {Q : Int32 → aH → Prop} {x1 : Int32} {x2 : Int32} {x3 : Int32} {x4 : Int32} {x5 : Int32} {x6 : Int32} (S : SH h) (H : (((hI h 63 14) ≤ x6 → ((¬ x5 = 0 → (CV l E d 0 0 mX12_comeAll [.inr (some (0, 12, 63)), .inl (hI h 63 14)] h (fun h3 => SH h3 ∧ LX12_sum_100 l E (d + 1) bc bs x1 x2 x3 x4 x5 (nI 0) h3 Q))) ∧ (x5 = 0 → LX12_sum_23 l E (d + 1) bc bs x1 x2 x3 (x4 + (nI 1)) h Q))) ∧ (¬ (hI h 63 14) ≤ x6 → ((¬ x5 = 0 → LX12_sum_43 l E (d + 1) bc bs x1 x2 x3 x4 (nI 1) (x6 + (nI 1)) h Q) ∧ (x5 = 0 → (vp_in x6 4 ∧ (((hA h 81 (x6).toNatClampNeg) = (-1) → LX12_sum_43 l E (d + 1) bc bs x1 x2 x3 x4 (nI 0) (x6 + (nI 1)) h Q) ∧ (¬ (hA h 81 (x6).toNatClampNeg) = (-1) → LX12_sum_43 l E (d + 1) bc bs x1 x2 x3 x4 (nI 1) (x6 + (nI 1)) h Q)))))))) : LX12_sum_43 l E (d + 1) bc bs x1 x2 x3 x4 x5 x6 h Q := by
  refine z_iload (pc := 43) dX12_sum_43 rfl ?_
  refine z_aload_n (pc := 45) dX12_sum_45 rfl rfl ?_
  refine z_geti (pc := 46) dX12_sum_46 fX12_126 rfl ?_
  refine z_icmp_ge (pc := 49) (tgt := 81) dX12_sum_49 (by decide) (fun c1 => ?_) (fun c1 => ?_)
  · replace H := H.1 c1
    refine z_iload (pc := 81) dX12_sum_81 rfl ?_
    refine z_if_ne (pc := 83) (tgt := 89) dX12_sum_83 (by decide) (fun c2 => ?_) (fun c2 => ?_)
    · replace H := H.1 c2
      refine z_aload_n (pc := 89) dX12_sum_89 rfl rfl ?_
      refine z_aload_n (pc := 90) dX12_sum_90 rfl rfl ?_
      refine z_geti (pc := 91) dX12_sum_91 fX12_126 rfl ?_
      refine y_VV (pc := 94) (bc := bc) (bs := bs) (mc := 0) (ms := 0) (As := [.inl (hI h 63 14)]) (rest := []) dX12_sum_94 kX12_comeAll lX12_218 ⟨_, _, rfl⟩ rfl rfl (H.use (fun h3 H => ?_))
      have S3 := H.1
      replace H := H.2
      refine z_iconst (pc := 97) (v := (nI 0)) dX12_sum_97 (by decide) ?_
      refine z_istore (pc := 98) (ls' := [some (.inr (some (0, 12, 63))), some (.inl x1), some (.inl x2), some (.inl x3), some (.inl x4), some (.inl x5), some (.inl (nI 0))]) dX12_sum_98 rfl rfl ?_
      exact H
    · replace H := H.2 c2
      refine z_goto (pc := 86) (tgt := 162) dX12_sum_86 (by decide) ?_
      refine z_iinc (pc := 162) (v := (x4 + (nI 1))) (ls' := [some (.inr (some (0, 12, 63))), some (.inl x1), some (.inl x2), some (.inl x3), some (.inl (x4 + (nI 1))), some (.inl x5), some (.inl x6)]) dX12_sum_162 rfl (by rw [show Int32.ofInt (1) = (nI 1) by decide]) rfl ?_
      refine z_goto (pc := 165) (tgt := 23) dX12_sum_165 (by decide) ?_
      exact z_drop (ls' := [some (.inr (some (0, 12, 63))), some (.inl x1), some (.inl x2), some (.inl x3), some (.inl (x4 + (nI 1))), none, none]) (by simp [dropL]) H
  · replace H := H.2 c1
    refine z_iload (pc := 52) dX12_sum_52 rfl ?_
    refine z_if_ne (pc := 54) (tgt := 68) dX12_sum_54 (by decide) (fun c4 => ?_) (fun c4 => ?_)
    · replace H := H.1 c4
      refine z_iconst (pc := 68) (v := (nI 1)) dX12_sum_68 (by decide) ?_
      refine z_goto (pc := 69) (tgt := 73) dX12_sum_69 (by decide) ?_
      refine z_istore (pc := 73) (ls' := [some (.inr (some (0, 12, 63))), some (.inl x1), some (.inl x2), some (.inl x3), some (.inl x4), some (.inl (nI 1)), some (.inl x6)]) dX12_sum_73 rfl rfl ?_
      refine z_iinc (pc := 75) (v := (x6 + (nI 1))) (ls' := [some (.inr (some (0, 12, 63))), some (.inl x1), some (.inl x2), some (.inl x3), some (.inl x4), some (.inl (nI 1)), some (.inl (x6 + (nI 1)))]) dX12_sum_75 rfl (by rw [show Int32.ofInt (1) = (nI 1) by decide]) rfl ?_
      refine z_goto (pc := 78) (tgt := 43) dX12_sum_78 (by decide) ?_
      exact H
    · replace H := H.2 c4
      refine z_aload_n (pc := 57) dX12_sum_57 rfl rfl ?_
      refine z_getk (pc := 58) dX12_sum_58 fX12_66 rfl (s_63_24 S) ?_
      refine z_iload (pc := 61) dX12_sum_61 rfl ?_
      have c5 := H.1
      replace H := H.2
      refine z_iald (pc := 63) dX12_sum_63 c5 ?_
      refine z_iconst (pc := 64) (v := (-1)) dX12_sum_64 (by decide) ?_
      refine z_icmp_eq (pc := 65) (tgt := 72) dX12_sum_65 (by decide) (fun c6 => ?_) (fun c6 => ?_)
      · replace H := H.1 c6
        refine z_iconst (pc := 72) (v := (nI 0)) dX12_sum_72 (by decide) ?_
        refine z_istore (pc := 73) (ls' := [some (.inr (some (0, 12, 63))), some (.inl x1), some (.inl x2), some (.inl x3), some (.inl x4), some (.inl (nI 0)), some (.inl x6)]) dX12_sum_73 rfl rfl ?_
        refine z_iinc (pc := 75) (v := (x6 + (nI 1))) (ls' := [some (.inr (some (0, 12, 63))), some (.inl x1), some (.inl x2), some (.inl x3), some (.inl x4), some (.inl (nI 0)), some (.inl (x6 + (nI 1)))]) dX12_sum_75 rfl (by rw [show Int32.ofInt (1) = (nI 1) by decide]) rfl ?_
        refine z_goto (pc := 78) (tgt := 43) dX12_sum_78 (by decide) ?_
        exact H
      · replace H := H.2 c6
        refine z_iconst (pc := 68) (v := (nI 1)) dX12_sum_68 (by decide) ?_
        refine z_goto (pc := 69) (tgt := 73) dX12_sum_69 (by decide) ?_
        refine z_istore (pc := 73) (ls' := [some (.inr (some (0, 12, 63))), some (.inl x1), some (.inl x2), some (.inl x3), some (.inl x4), some (.inl (nI 1)), some (.inl x6)]) dX12_sum_73 rfl rfl ?_
        refine z_iinc (pc := 75) (v := (x6 + (nI 1))) (ls' := [some (.inr (some (0, 12, 63))), some (.inl x1), some (.inl x2), some (.inl x3), some (.inl x4), some (.inl (nI 1)), some (.inl (x6 + (nI 1)))]) dX12_sum_75 rfl (by rw [show Int32.ofInt (1) = (nI 1) by decide]) rfl ?_
        refine z_goto (pc := 78) (tgt := 43) dX12_sum_78 (by decide) ?_
        exact H

set_option maxRecDepth 20000 in
theorem bX12_sum_100 {l : Launch} {E : eE} {d bc bs : Nat} {h : aH} {Q : Int32 → aH → Prop} {x1 : Int32} {x2 : Int32} {x3 : Int32} {x4 : Int32} {x5 : Int32} {x6 : Int32} (S : SH h) (H : (((hI h 63 14) ≤ x6 → LX12_sum_23 l E (d + 1) bc bs x1 x2 x3 (x4 + (nI 1)) h Q) ∧ (¬ (hI h 63 14) ≤ x6 → (vp_in x6 4 ∧ (((hA h 81 (x6).toNatClampNeg) = (-1) → LX12_sum_100 l E (d + 1) bc bs x1 x2 x3 x4 x5 (x6 + (nI 1)) h Q) ∧ (¬ (hA h 81 (x6).toNatClampNeg) = (-1) → (vp_in (((nI 12) * x6) + x1) 48 ∧ (CI l E d 0 0 mX12_priceOf [.inr (some (0, 12, 63)), .inl x1, .inl x6, .inl (hA h 81 (x6).toNatClampNeg), .inl (hA h 82 (x6).toNatClampNeg), .inl (hA h 83 ((((nI 12) * x6) + x1)).toNatClampNeg)] h (fun v5 h5 => SH h5 ∧ LX12_sum_100 l E (d + 1) bc bs x1 x2 (x3 + v5) x4 x5 (x6 + (nI 1)) h5 Q))))))))) : LX12_sum_100 l E (d + 1) bc bs x1 x2 x3 x4 x5 x6 h Q := by
  refine z_iload (pc := 100) dX12_sum_100 rfl ?_
  refine z_aload_n (pc := 102) dX12_sum_102 rfl rfl ?_
  refine z_geti (pc := 103) dX12_sum_103 fX12_126 rfl ?_
  refine z_icmp_ge (pc := 106) (tgt := 162) dX12_sum_106 (by decide) (fun c1 => ?_) (fun c1 => ?_)
  · replace H := H.1 c1
    refine z_iinc (pc := 162) (v := (x4 + (nI 1))) (ls' := [some (.inr (some (0, 12, 63))), some (.inl x1), some (.inl x2), some (.inl x3), some (.inl (x4 + (nI 1))), some (.inl x5), some (.inl x6)]) dX12_sum_162 rfl (by rw [show Int32.ofInt (1) = (nI 1) by decide]) rfl ?_
    refine z_goto (pc := 165) (tgt := 23) dX12_sum_165 (by decide) ?_
    exact z_drop (ls' := [some (.inr (some (0, 12, 63))), some (.inl x1), some (.inl x2), some (.inl x3), some (.inl (x4 + (nI 1))), none, none]) (by simp [dropL]) H
  · replace H := H.2 c1
    refine z_aload_n (pc := 109) dX12_sum_109 rfl rfl ?_
    refine z_getk (pc := 110) dX12_sum_110 fX12_66 rfl (s_63_24 S) ?_
    refine z_iload (pc := 113) dX12_sum_113 rfl ?_
    have c2 := H.1
    replace H := H.2
    refine z_iald (pc := 115) dX12_sum_115 c2 ?_
    refine z_iconst (pc := 116) (v := (-1)) dX12_sum_116 (by decide) ?_
    refine z_icmp_eq (pc := 117) (tgt := 156) dX12_sum_117 (by decide) (fun c3 => ?_) (fun c3 => ?_)
    · replace H := H.1 c3
      refine z_iinc (pc := 156) (v := (x6 + (nI 1))) (ls' := [some (.inr (some (0, 12, 63))), some (.inl x1), some (.inl x2), some (.inl x3), some (.inl x4), some (.inl x5), some (.inl (x6 + (nI 1)))]) dX12_sum_156 rfl (by rw [show Int32.ofInt (1) = (nI 1) by decide]) rfl ?_
      refine z_goto (pc := 159) (tgt := 100) dX12_sum_159 (by decide) ?_
      exact H
    · replace H := H.2 c3
      refine z_iload_n (pc := 120) dX12_sum_120 rfl rfl ?_
      refine z_aload_n (pc := 121) dX12_sum_121 rfl rfl ?_
      refine z_iload_n (pc := 122) dX12_sum_122 rfl rfl ?_
      refine z_iload (pc := 123) dX12_sum_123 rfl ?_
      refine z_aload_n (pc := 125) dX12_sum_125 rfl rfl ?_
      refine z_getk (pc := 126) dX12_sum_126 fX12_66 rfl (s_63_24 S) ?_
      refine z_iload (pc := 129) dX12_sum_129 rfl ?_
      refine z_iald (pc := 131) dX12_sum_131 c2 ?_
      refine z_aload_n (pc := 132) dX12_sum_132 rfl rfl ?_
      refine z_getk (pc := 133) dX12_sum_133 fX12_69 rfl (s_63_25 S) ?_
      refine z_iload (pc := 136) dX12_sum_136 rfl ?_
      refine z_iald (pc := 138) dX12_sum_138 c2 ?_
      refine z_aload_n (pc := 139) dX12_sum_139 rfl rfl ?_
      refine z_getk (pc := 140) dX12_sum_140 fX12_72 rfl (s_63_26 S) ?_
      refine z_bipush (pc := 143) (v := (nI 12)) dX12_sum_143 (by decide) ?_
      refine z_iload (pc := 145) dX12_sum_145 rfl ?_
      refine z_imul (pc := 147) dX12_sum_147 ?_
      refine z_iload_n (pc := 148) dX12_sum_148 rfl rfl ?_
      refine z_iadd (pc := 149) dX12_sum_149 ?_
      have c4 := H.1
      replace H := H.2
      refine z_iald (pc := 150) dX12_sum_150 c4 ?_
      refine y_VI (pc := 151) (bc := bc) (bs := bs) (mc := 0) (ms := 0) (As := [.inl x1, .inl x6, .inl (hA h 81 (x6).toNatClampNeg), .inl (hA h 82 (x6).toNatClampNeg), .inl (hA h 83 ((((nI 12) * x6) + x1)).toNatClampNeg)]) (rest := [.inl x3]) dX12_sum_151 kX12_priceOf lX12_230 ⟨_, _, rfl⟩ rfl rfl (H.use (fun v5 h5 H => ?_))
      have S5 := H.1
      replace H := H.2
      refine z_iadd (pc := 154) dX12_sum_154 ?_
      refine z_istore_n (pc := 155) (ls' := [some (.inr (some (0, 12, 63))), some (.inl x1), some (.inl x2), some (.inl (x3 + v5)), some (.inl x4), some (.inl x5), some (.inl x6)]) dX12_sum_155 rfl rfl rfl ?_
      refine z_iinc (pc := 156) (v := (x6 + (nI 1))) (ls' := [some (.inr (some (0, 12, 63))), some (.inl x1), some (.inl x2), some (.inl (x3 + v5)), some (.inl x4), some (.inl x5), some (.inl (x6 + (nI 1)))]) dX12_sum_156 rfl (by rw [show Int32.ofInt (1) = (nI 1) by decide]) rfl ?_
      refine z_goto (pc := 159) (tgt := 100) dX12_sum_159 (by decide) ?_
      exact H
