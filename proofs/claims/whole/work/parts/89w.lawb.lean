abbrev LL_law_18 (l : Launch) (E : eE) (d bc bs : Nat) (x3 : Int32) (h : aH) (Q : Int32 → aH → Prop) : Prop := TI l E mL_law d bc bs 18 [some (.inr (some (5, 0, 0))), some (.inr (some (0, 11, 0))), some (.inr (some (0, 12, 63))), some (.inl x3)] [] h Q

abbrev LL_law_1209 (l : Launch) (E : eE) (d bc bs : Nat) (x3 : Int32) (h : aH) (Q : Int32 → aH → Prop) : Prop := TI l E mL_law d bc bs 1209 [some (.inr (some (5, 0, 0))), some (.inr (some (0, 11, 0))), some (.inr (some (0, 12, 63))), some (.inl x3)] [] h Q

abbrev LL_law_148 (l : Launch) (E : eE) (d bc bs : Nat) (x3 : Int32) (h : aH) (Q : Int32 → aH → Prop) : Prop := TI l E mL_law d bc bs 148 [some (.inr (some (5, 0, 0))), some (.inr (some (0, 11, 0))), some (.inr (some (0, 12, 63))), some (.inl x3)] [] h Q

abbrev LL_law_171 (l : Launch) (E : eE) (d bc bs : Nat) (x3 : Int32) (h : aH) (Q : Int32 → aH → Prop) : Prop := TI l E mL_law d bc bs 171 [some (.inr (some (5, 0, 0))), some (.inr (some (0, 11, 0))), some (.inr (some (0, 12, 63))), some (.inl x3)] [] h Q

abbrev LL_law_204 (l : Launch) (E : eE) (d bc bs : Nat) (x3 : Int32) (h : aH) (Q : Int32 → aH → Prop) : Prop := TI l E mL_law d bc bs 204 [some (.inr (some (5, 0, 0))), some (.inr (some (0, 11, 0))), some (.inr (some (0, 12, 63))), some (.inl x3)] [] h Q

abbrev LL_law_237 (l : Launch) (E : eE) (d bc bs : Nat) (x3 : Int32) (h : aH) (Q : Int32 → aH → Prop) : Prop := TI l E mL_law d bc bs 237 [some (.inr (some (5, 0, 0))), some (.inr (some (0, 11, 0))), some (.inr (some (0, 12, 63))), some (.inl x3)] [] h Q

abbrev LL_law_280 (l : Launch) (E : eE) (d bc bs : Nat) (x3 : Int32) (h : aH) (Q : Int32 → aH → Prop) : Prop := TI l E mL_law d bc bs 280 [some (.inr (some (5, 0, 0))), some (.inr (some (0, 11, 0))), some (.inr (some (0, 12, 63))), some (.inl x3)] [] h Q

abbrev LL_law_323 (l : Launch) (E : eE) (d bc bs : Nat) (x3 : Int32) (h : aH) (Q : Int32 → aH → Prop) : Prop := TI l E mL_law d bc bs 323 [some (.inr (some (5, 0, 0))), some (.inr (some (0, 11, 0))), some (.inr (some (0, 12, 63))), some (.inl x3)] [] h Q

abbrev LL_law_356 (l : Launch) (E : eE) (d bc bs : Nat) (x3 : Int32) (h : aH) (Q : Int32 → aH → Prop) : Prop := TI l E mL_law d bc bs 356 [some (.inr (some (5, 0, 0))), some (.inr (some (0, 11, 0))), some (.inr (some (0, 12, 63))), some (.inl x3)] [] h Q

abbrev LL_law_425 (l : Launch) (E : eE) (d bc bs : Nat) (x3 : Int32) (h : aH) (Q : Int32 → aH → Prop) : Prop := TI l E mL_law d bc bs 425 [some (.inr (some (5, 0, 0))), some (.inr (some (0, 11, 0))), some (.inr (some (0, 12, 63))), some (.inl x3)] [] h Q

abbrev LL_law_468 (l : Launch) (E : eE) (d bc bs : Nat) (x3 : Int32) (h : aH) (Q : Int32 → aH → Prop) : Prop := TI l E mL_law d bc bs 468 [some (.inr (some (5, 0, 0))), some (.inr (some (0, 11, 0))), some (.inr (some (0, 12, 63))), some (.inl x3)] [] h Q

abbrev LL_law_511 (l : Launch) (E : eE) (d bc bs : Nat) (x3 : Int32) (h : aH) (Q : Int32 → aH → Prop) : Prop := TI l E mL_law d bc bs 511 [some (.inr (some (5, 0, 0))), some (.inr (some (0, 11, 0))), some (.inr (some (0, 12, 63))), some (.inl x3)] [] h Q

abbrev LL_law_544 (l : Launch) (E : eE) (d bc bs : Nat) (x3 : Int32) (h : aH) (Q : Int32 → aH → Prop) : Prop := TI l E mL_law d bc bs 544 [some (.inr (some (5, 0, 0))), some (.inr (some (0, 11, 0))), some (.inr (some (0, 12, 63))), some (.inl x3)] [] h Q

abbrev LL_law_587 (l : Launch) (E : eE) (d bc bs : Nat) (x3 : Int32) (h : aH) (Q : Int32 → aH → Prop) : Prop := TI l E mL_law d bc bs 587 [some (.inr (some (5, 0, 0))), some (.inr (some (0, 11, 0))), some (.inr (some (0, 12, 63))), some (.inl x3)] [] h Q

abbrev LL_law_640 (l : Launch) (E : eE) (d bc bs : Nat) (x3 : Int32) (h : aH) (Q : Int32 → aH → Prop) : Prop := TI l E mL_law d bc bs 640 [some (.inr (some (5, 0, 0))), some (.inr (some (0, 11, 0))), some (.inr (some (0, 12, 63))), some (.inl x3)] [] h Q

abbrev LL_law_703 (l : Launch) (E : eE) (d bc bs : Nat) (x3 : Int32) (h : aH) (Q : Int32 → aH → Prop) : Prop := TI l E mL_law d bc bs 703 [some (.inr (some (5, 0, 0))), some (.inr (some (0, 11, 0))), some (.inr (some (0, 12, 63))), some (.inl x3)] [] h Q

abbrev LL_law_756 (l : Launch) (E : eE) (d bc bs : Nat) (x3 : Int32) (h : aH) (Q : Int32 → aH → Prop) : Prop := TI l E mL_law d bc bs 756 [some (.inr (some (5, 0, 0))), some (.inr (some (0, 11, 0))), some (.inr (some (0, 12, 63))), some (.inl x3)] [] h Q

abbrev LL_law_809 (l : Launch) (E : eE) (d bc bs : Nat) (x3 : Int32) (h : aH) (Q : Int32 → aH → Prop) : Prop := TI l E mL_law d bc bs 809 [some (.inr (some (5, 0, 0))), some (.inr (some (0, 11, 0))), some (.inr (some (0, 12, 63))), some (.inl x3)] [] h Q

abbrev LL_law_852 (l : Launch) (E : eE) (d bc bs : Nat) (x3 : Int32) (h : aH) (Q : Int32 → aH → Prop) : Prop := TI l E mL_law d bc bs 852 [some (.inr (some (5, 0, 0))), some (.inr (some (0, 11, 0))), some (.inr (some (0, 12, 63))), some (.inl x3)] [] h Q

abbrev LL_law_915 (l : Launch) (E : eE) (d bc bs : Nat) (x3 : Int32) (h : aH) (Q : Int32 → aH → Prop) : Prop := TI l E mL_law d bc bs 915 [some (.inr (some (5, 0, 0))), some (.inr (some (0, 11, 0))), some (.inr (some (0, 12, 63))), some (.inl x3)] [] h Q

abbrev LL_law_968 (l : Launch) (E : eE) (d bc bs : Nat) (x3 : Int32) (h : aH) (Q : Int32 → aH → Prop) : Prop := TI l E mL_law d bc bs 968 [some (.inr (some (5, 0, 0))), some (.inr (some (0, 11, 0))), some (.inr (some (0, 12, 63))), some (.inl x3)] [] h Q

abbrev LL_law_991 (l : Launch) (E : eE) (d bc bs : Nat) (x3 : Int32) (h : aH) (Q : Int32 → aH → Prop) : Prop := TI l E mL_law d bc bs 991 [some (.inr (some (5, 0, 0))), some (.inr (some (0, 11, 0))), some (.inr (some (0, 12, 63))), some (.inl x3)] [] h Q

abbrev LL_law_1024 (l : Launch) (E : eE) (d bc bs : Nat) (x3 : Int32) (h : aH) (Q : Int32 → aH → Prop) : Prop := TI l E mL_law d bc bs 1024 [some (.inr (some (5, 0, 0))), some (.inr (some (0, 11, 0))), some (.inr (some (0, 12, 63))), some (.inl x3)] [] h Q

abbrev LL_law_1067 (l : Launch) (E : eE) (d bc bs : Nat) (x3 : Int32) (h : aH) (Q : Int32 → aH → Prop) : Prop := TI l E mL_law d bc bs 1067 [some (.inr (some (5, 0, 0))), some (.inr (some (0, 11, 0))), some (.inr (some (0, 12, 63))), some (.inl x3)] [] h Q

abbrev LL_law_1120 (l : Launch) (E : eE) (d bc bs : Nat) (x3 : Int32) (h : aH) (Q : Int32 → aH → Prop) : Prop := TI l E mL_law d bc bs 1120 [some (.inr (some (5, 0, 0))), some (.inr (some (0, 11, 0))), some (.inr (some (0, 12, 63))), some (.inl x3)] [] h Q

abbrev LL_law_1153 (l : Launch) (E : eE) (d bc bs : Nat) (x3 : Int32) (h : aH) (Q : Int32 → aH → Prop) : Prop := TI l E mL_law d bc bs 1153 [some (.inr (some (5, 0, 0))), some (.inr (some (0, 11, 0))), some (.inr (some (0, 12, 63))), some (.inl x3)] [] h Q

abbrev LL_law_1186 (l : Launch) (E : eE) (d bc bs : Nat) (x3 : Int32) (h : aH) (Q : Int32 → aH → Prop) : Prop := TI l E mL_law d bc bs 1186 [some (.inr (some (5, 0, 0))), some (.inr (some (0, 11, 0))), some (.inr (some (0, 12, 63))), some (.inl x3)] [] h Q

set_option maxRecDepth 20000 in
theorem bL_law_18 {l : Launch} {E : eE} {d bc bs : Nat} {h : aH} {Q : Int32 → aH → Prop} {x3 : Int32} (S : SH h) (H : ((((nI (exL E 0)) - (nI 6)) < x3 → Q (nI 1) h) ∧ (¬ ((nI (exL E 0)) - (nI 6)) < x3 → (vp_in x3 (exL E 0) ∧ ((((exF E 0 (x3).toNatClampNeg) &&& (nI 31)) = nI 0 → LL_law_148 l E (d + 1) bc bs x3 h Q) ∧ (((exF E 0 (x3).toNatClampNeg) &&& (nI 31)) = nI 1 → LL_law_171 l E (d + 1) bc bs x3 h Q) ∧ (((exF E 0 (x3).toNatClampNeg) &&& (nI 31)) = nI 2 → LL_law_204 l E (d + 1) bc bs x3 h Q) ∧ (((exF E 0 (x3).toNatClampNeg) &&& (nI 31)) = nI 3 → LL_law_237 l E (d + 1) bc bs x3 h Q) ∧ (((exF E 0 (x3).toNatClampNeg) &&& (nI 31)) = nI 4 → LL_law_280 l E (d + 1) bc bs x3 h Q) ∧ (((exF E 0 (x3).toNatClampNeg) &&& (nI 31)) = nI 5 → LL_law_323 l E (d + 1) bc bs x3 h Q) ∧ (((exF E 0 (x3).toNatClampNeg) &&& (nI 31)) = nI 6 → LL_law_356 l E (d + 1) bc bs x3 h Q) ∧ (((exF E 0 (x3).toNatClampNeg) &&& (nI 31)) = nI 7 → LL_law_425 l E (d + 1) bc bs x3 h Q) ∧ (((exF E 0 (x3).toNatClampNeg) &&& (nI 31)) = nI 8 → LL_law_468 l E (d + 1) bc bs x3 h Q) ∧ (((exF E 0 (x3).toNatClampNeg) &&& (nI 31)) = nI 9 → LL_law_511 l E (d + 1) bc bs x3 h Q) ∧ (((exF E 0 (x3).toNatClampNeg) &&& (nI 31)) = nI 10 → LL_law_544 l E (d + 1) bc bs x3 h Q) ∧ (((exF E 0 (x3).toNatClampNeg) &&& (nI 31)) = nI 11 → LL_law_587 l E (d + 1) bc bs x3 h Q) ∧ (((exF E 0 (x3).toNatClampNeg) &&& (nI 31)) = nI 12 → LL_law_640 l E (d + 1) bc bs x3 h Q) ∧ (((exF E 0 (x3).toNatClampNeg) &&& (nI 31)) = nI 13 → LL_law_703 l E (d + 1) bc bs x3 h Q) ∧ (((exF E 0 (x3).toNatClampNeg) &&& (nI 31)) = nI 14 → LL_law_756 l E (d + 1) bc bs x3 h Q) ∧ (((exF E 0 (x3).toNatClampNeg) &&& (nI 31)) = nI 15 → LL_law_809 l E (d + 1) bc bs x3 h Q) ∧ (((exF E 0 (x3).toNatClampNeg) &&& (nI 31)) = nI 16 → LL_law_852 l E (d + 1) bc bs x3 h Q) ∧ (((exF E 0 (x3).toNatClampNeg) &&& (nI 31)) = nI 17 → LL_law_915 l E (d + 1) bc bs x3 h Q) ∧ (((exF E 0 (x3).toNatClampNeg) &&& (nI 31)) = nI 18 → LL_law_968 l E (d + 1) bc bs x3 h Q) ∧ (((exF E 0 (x3).toNatClampNeg) &&& (nI 31)) = nI 19 → LL_law_991 l E (d + 1) bc bs x3 h Q) ∧ (((exF E 0 (x3).toNatClampNeg) &&& (nI 31)) = nI 20 → LL_law_1024 l E (d + 1) bc bs x3 h Q) ∧ (((exF E 0 (x3).toNatClampNeg) &&& (nI 31)) = nI 21 → LL_law_1067 l E (d + 1) bc bs x3 h Q) ∧ (((exF E 0 (x3).toNatClampNeg) &&& (nI 31)) = nI 22 → LL_law_1120 l E (d + 1) bc bs x3 h Q) ∧ (((exF E 0 (x3).toNatClampNeg) &&& (nI 31)) = nI 23 → LL_law_1153 l E (d + 1) bc bs x3 h Q) ∧ (((exF E 0 (x3).toNatClampNeg) &&& (nI 31)) = nI 24 → LL_law_1186 l E (d + 1) bc bs x3 h Q) ∧ ((((exF E 0 (x3).toNatClampNeg) &&& (nI 31))).toInt < 0 ∨ 24 < (((exF E 0 (x3).toNatClampNeg) &&& (nI 31))).toInt → LL_law_1209 l E (d + 1) bc bs x3 h Q)))))) : LL_law_18 l E (d + 1) bc bs x3 h Q := by
  refine z_iload_n (pc := 18) dL_law_18 rfl rfl ?_
  refine z_aload_n (pc := 19) dL_law_19 rfl rfl ?_
  refine z_xlen (pc := 20) dL_law_20 rfl ?_
  refine z_bipush (pc := 21) (v := (nI 6)) dL_law_21 (by decide) ?_
  refine z_isub (pc := 23) dL_law_23 ?_
  refine z_icmp_gt (pc := 24) (tgt := 1215) dL_law_24 (by decide) (fun c1 => ?_) (fun c1 => ?_)
  · replace H := H.1 c1
    refine z_iconst (pc := 1215) (v := (nI 1)) dL_law_1215 (by decide) ?_
    exact z_iret (pc := 1216) dL_law_1216 rfl rfl ⟨_, rfl, H⟩
  · replace H := H.2 c1
    refine z_aload_n (pc := 27) dL_law_27 rfl rfl ?_
    refine z_iload_n (pc := 28) dL_law_28 rfl rfl ?_
    have c2 := H.1
    replace H := H.2
    refine z_xald (pc := 29) dL_law_29 rfl c2 ?_
    refine z_bipush (pc := 30) (v := (nI 31)) dL_law_30 (by decide) ?_
    refine z_iand (pc := 32) dL_law_32 ?_
    refine z_table (pc := 33) (tgtD := 1209) [148, 171, 204, 237, 280, 323, 356, 425, 468, 511, 544, 587, 640, 703, 756, 809, 852, 915, 968, 991, 1024, 1067, 1120, 1153, 1186] dL_law_33 (by decide) (by decide) (by decide) ?_ (fun c3 => ?_)
    · refine And.intro (fun c3 => ?_) (And.intro (fun c3 => ?_) (And.intro (fun c3 => ?_) (And.intro (fun c3 => ?_) (And.intro (fun c3 => ?_) (And.intro (fun c3 => ?_) (And.intro (fun c3 => ?_) (And.intro (fun c3 => ?_) (And.intro (fun c3 => ?_) (And.intro (fun c3 => ?_) (And.intro (fun c3 => ?_) (And.intro (fun c3 => ?_) (And.intro (fun c3 => ?_) (And.intro (fun c3 => ?_) (And.intro (fun c3 => ?_) (And.intro (fun c3 => ?_) (And.intro (fun c3 => ?_) (And.intro (fun c3 => ?_) (And.intro (fun c3 => ?_) (And.intro (fun c3 => ?_) (And.intro (fun c3 => ?_) (And.intro (fun c3 => ?_) (And.intro (fun c3 => ?_) (And.intro (fun c3 => ?_) (And.intro (fun c3 => ?_) (trivial)))))))))))))))))))))))))
      · replace H := H.1 c3
        exact H
      · replace H := H.2.1 c3
        exact H
      · replace H := H.2.2.1 c3
        exact H
      · replace H := H.2.2.2.1 c3
        exact H
      · replace H := H.2.2.2.2.1 c3
        exact H
      · replace H := H.2.2.2.2.2.1 c3
        exact H
      · replace H := H.2.2.2.2.2.2.1 c3
        exact H
      · replace H := H.2.2.2.2.2.2.2.1 c3
        exact H
      · replace H := H.2.2.2.2.2.2.2.2.1 c3
        exact H
      · replace H := H.2.2.2.2.2.2.2.2.2.1 c3
        exact H
      · replace H := H.2.2.2.2.2.2.2.2.2.2.1 c3
        exact H
      · replace H := H.2.2.2.2.2.2.2.2.2.2.2.1 c3
        exact H
      · replace H := H.2.2.2.2.2.2.2.2.2.2.2.2.1 c3
        exact H
      · replace H := H.2.2.2.2.2.2.2.2.2.2.2.2.2.1 c3
        exact H
      · replace H := H.2.2.2.2.2.2.2.2.2.2.2.2.2.2.1 c3
        exact H
      · replace H := H.2.2.2.2.2.2.2.2.2.2.2.2.2.2.2.1 c3
        exact H
      · replace H := H.2.2.2.2.2.2.2.2.2.2.2.2.2.2.2.2.1 c3
        exact H
      · replace H := H.2.2.2.2.2.2.2.2.2.2.2.2.2.2.2.2.2.1 c3
        exact H
      · replace H := H.2.2.2.2.2.2.2.2.2.2.2.2.2.2.2.2.2.2.1 c3
        exact H
      · replace H := H.2.2.2.2.2.2.2.2.2.2.2.2.2.2.2.2.2.2.2.1 c3
        exact H
      · replace H := H.2.2.2.2.2.2.2.2.2.2.2.2.2.2.2.2.2.2.2.2.1 c3
        exact H
      · replace H := H.2.2.2.2.2.2.2.2.2.2.2.2.2.2.2.2.2.2.2.2.2.1 c3
        exact H
      · replace H := H.2.2.2.2.2.2.2.2.2.2.2.2.2.2.2.2.2.2.2.2.2.2.1 c3
        exact H
      · replace H := H.2.2.2.2.2.2.2.2.2.2.2.2.2.2.2.2.2.2.2.2.2.2.2.1 c3
        exact H
      · replace H := H.2.2.2.2.2.2.2.2.2.2.2.2.2.2.2.2.2.2.2.2.2.2.2.2.1 c3
        exact H
    · replace H := H.2.2.2.2.2.2.2.2.2.2.2.2.2.2.2.2.2.2.2.2.2.2.2.2.2 c3
      exact H

set_option maxRecDepth 20000 in
theorem bL_law_1209 {l : Launch} {E : eE} {d bc bs : Nat} {h : aH} {Q : Int32 → aH → Prop} {x3 : Int32} (S : SH h) (H : LL_law_18 l E (d + 1) bc bs (x3 + (nI 6)) h Q) : LL_law_1209 l E (d + 1) bc bs x3 h Q := by
  refine z_iinc (pc := 1209) (v := (x3 + (nI 6))) (ls' := [some (.inr (some (5, 0, 0))), some (.inr (some (0, 11, 0))), some (.inr (some (0, 12, 63))), some (.inl (x3 + (nI 6)))]) dL_law_1209 rfl (by rw [show Int32.ofInt (6) = (nI 6) by decide]) rfl ?_
  refine z_goto (pc := 1212) (tgt := 18) dL_law_1212 (by decide) ?_
  exact H

set_option maxRecDepth 20000 in
theorem bL_law_148 {l : Launch} {E : eE} {d bc bs : Nat} {h : aH} {Q : Int32 → aH → Prop} {x3 : Int32} (S : SH h) (H : (vp_in (x3 + (nI 1)) (exL E 0) ∧ (CI l E d 4 73 mX11_land [.inr (some (0, 11, 0)), .inl (exF E 0 ((x3 + (nI 1))).toNatClampNeg)] h (fun v2 h2 => SH h2 ∧ (CI l E d 0 0 mX12_land [.inr (some (0, 12, 63)), .inl (exF E 0 ((x3 + (nI 1))).toNatClampNeg)] h2 (fun v3 h3 => SH h3 ∧ ((v2 = v3 → LL_law_1209 l E (d + 1) bc bs x3 h3 Q) ∧ (¬ v2 = v3 → Q (nI 0) h3)))))))) : LL_law_148 l E (d + 1) (bc + 4) (bs + 73) x3 h Q := by
  refine z_aload_n (pc := 148) dL_law_148 rfl rfl ?_
  refine z_aload_n (pc := 149) dL_law_149 rfl rfl ?_
  refine z_iload_n (pc := 150) dL_law_150 rfl rfl ?_
  refine z_iconst (pc := 151) (v := (nI 1)) dL_law_151 (by decide) ?_
  refine z_iadd (pc := 152) dL_law_152 ?_
  have c1 := H.1
  replace H := H.2
  refine z_xald (pc := 153) dL_law_153 rfl c1 ?_
  refine y_VI (pc := 154) (bc := bc) (bs := bs) (mc := 4) (ms := 73) (As := [.inl (exF E 0 ((x3 + (nI 1))).toNatClampNeg)]) (rest := []) dL_law_154 kX11_land lL_13 ⟨_, _, rfl⟩ rfl rfl (H.use (fun v2 h2 H => ?_))
  have S2 := H.1
  replace H := H.2
  refine z_aload_n (pc := 157) dL_law_157 rfl rfl ?_
  refine z_aload_n (pc := 158) dL_law_158 rfl rfl ?_
  refine z_iload_n (pc := 159) dL_law_159 rfl rfl ?_
  refine z_iconst (pc := 160) (v := (nI 1)) dL_law_160 (by decide) ?_
  refine z_iadd (pc := 161) dL_law_161 ?_
  refine z_xald (pc := 162) dL_law_162 rfl c1 ?_
  refine y_VI (pc := 163) (bc := bc) (bs := bs) (mc := 0) (ms := 0) (As := [.inl (exF E 0 ((x3 + (nI 1))).toNatClampNeg)]) (rest := [.inl v2]) dL_law_163 kX12_land lL_17 ⟨_, _, rfl⟩ rfl rfl (H.use (fun v3 h3 H => ?_))
  have S3 := H.1
  replace H := H.2
  refine z_icmp_eq (pc := 166) (tgt := 1209) dL_law_166 (by decide) (fun c4 => ?_) (fun c4 => ?_)
  · replace H := H.1 c4
    exact H
  · replace H := H.2 c4
    refine z_iconst (pc := 169) (v := (nI 0)) dL_law_169 (by decide) ?_
    exact z_iret (pc := 170) dL_law_170 rfl rfl ⟨_, rfl, H⟩

set_option maxRecDepth 20000 in
theorem bL_law_171 {l : Launch} {E : eE} {d bc bs : Nat} {h : aH} {Q : Int32 → aH → Prop} {x3 : Int32} (S : SH h) (H : (vp_in (x3 + (nI 1)) (exL E 0) ∧ (vp_in (x3 + (nI 2)) (exL E 0) ∧ (CI l E d 4 73 mX11_person [.inr (some (0, 11, 0)), .inl (exF E 0 ((x3 + (nI 1))).toNatClampNeg), .inl (exF E 0 ((x3 + (nI 2))).toNatClampNeg)] h (fun v3 h3 => SH h3 ∧ (CI l E d 0 0 mX12_person [.inr (some (0, 12, 63)), .inl (exF E 0 ((x3 + (nI 1))).toNatClampNeg), .inl (exF E 0 ((x3 + (nI 2))).toNatClampNeg)] h3 (fun v4 h4 => SH h4 ∧ ((v3 = v4 → LL_law_1209 l E (d + 1) bc bs x3 h4 Q) ∧ (¬ v3 = v4 → Q (nI 0) h4))))))))) : LL_law_171 l E (d + 1) (bc + 4) (bs + 73) x3 h Q := by
  refine z_aload_n (pc := 171) dL_law_171 rfl rfl ?_
  refine z_aload_n (pc := 172) dL_law_172 rfl rfl ?_
  refine z_iload_n (pc := 173) dL_law_173 rfl rfl ?_
  refine z_iconst (pc := 174) (v := (nI 1)) dL_law_174 (by decide) ?_
  refine z_iadd (pc := 175) dL_law_175 ?_
  have c1 := H.1
  replace H := H.2
  refine z_xald (pc := 176) dL_law_176 rfl c1 ?_
  refine z_aload_n (pc := 177) dL_law_177 rfl rfl ?_
  refine z_iload_n (pc := 178) dL_law_178 rfl rfl ?_
  refine z_iconst (pc := 179) (v := (nI 2)) dL_law_179 (by decide) ?_
  refine z_iadd (pc := 180) dL_law_180 ?_
  have c2 := H.1
  replace H := H.2
  refine z_xald (pc := 181) dL_law_181 rfl c2 ?_
  refine y_VI (pc := 182) (bc := bc) (bs := bs) (mc := 4) (ms := 73) (As := [.inl (exF E 0 ((x3 + (nI 1))).toNatClampNeg), .inl (exF E 0 ((x3 + (nI 2))).toNatClampNeg)]) (rest := []) dL_law_182 kX11_person lL_18 ⟨_, _, rfl⟩ rfl rfl (H.use (fun v3 h3 H => ?_))
  have S3 := H.1
  replace H := H.2
  refine z_aload_n (pc := 185) dL_law_185 rfl rfl ?_
  refine z_aload_n (pc := 186) dL_law_186 rfl rfl ?_
  refine z_iload_n (pc := 187) dL_law_187 rfl rfl ?_
  refine z_iconst (pc := 188) (v := (nI 1)) dL_law_188 (by decide) ?_
  refine z_iadd (pc := 189) dL_law_189 ?_
  refine z_xald (pc := 190) dL_law_190 rfl c1 ?_
  refine z_aload_n (pc := 191) dL_law_191 rfl rfl ?_
  refine z_iload_n (pc := 192) dL_law_192 rfl rfl ?_
  refine z_iconst (pc := 193) (v := (nI 2)) dL_law_193 (by decide) ?_
  refine z_iadd (pc := 194) dL_law_194 ?_
  refine z_xald (pc := 195) dL_law_195 rfl c2 ?_
  refine y_VI (pc := 196) (bc := bc) (bs := bs) (mc := 0) (ms := 0) (As := [.inl (exF E 0 ((x3 + (nI 1))).toNatClampNeg), .inl (exF E 0 ((x3 + (nI 2))).toNatClampNeg)]) (rest := [.inl v3]) dL_law_196 kX12_person lL_22 ⟨_, _, rfl⟩ rfl rfl (H.use (fun v4 h4 H => ?_))
  have S4 := H.1
  replace H := H.2
  refine z_icmp_eq (pc := 199) (tgt := 1209) dL_law_199 (by decide) (fun c5 => ?_) (fun c5 => ?_)
  · replace H := H.1 c5
    exact H
  · replace H := H.2 c5
    refine z_iconst (pc := 202) (v := (nI 0)) dL_law_202 (by decide) ?_
    exact z_iret (pc := 203) dL_law_203 rfl rfl ⟨_, rfl, H⟩

set_option maxRecDepth 20000 in
theorem bL_law_204 {l : Launch} {E : eE} {d bc bs : Nat} {h : aH} {Q : Int32 → aH → Prop} {x3 : Int32} (S : SH h) (H : (vp_in (x3 + (nI 1)) (exL E 0) ∧ (vp_in (x3 + (nI 2)) (exL E 0) ∧ (CI l E d 4 73 mX11_row [.inr (some (0, 11, 0)), .inl (exF E 0 ((x3 + (nI 1))).toNatClampNeg), .inl (exF E 0 ((x3 + (nI 2))).toNatClampNeg)] h (fun v3 h3 => SH h3 ∧ (CI l E d 0 0 mX12_row [.inr (some (0, 12, 63)), .inl (exF E 0 ((x3 + (nI 1))).toNatClampNeg), .inl (exF E 0 ((x3 + (nI 2))).toNatClampNeg)] h3 (fun v4 h4 => SH h4 ∧ ((v3 = v4 → LL_law_1209 l E (d + 1) bc bs x3 h4 Q) ∧ (¬ v3 = v4 → Q (nI 0) h4))))))))) : LL_law_204 l E (d + 1) (bc + 4) (bs + 73) x3 h Q := by
  refine z_aload_n (pc := 204) dL_law_204 rfl rfl ?_
  refine z_aload_n (pc := 205) dL_law_205 rfl rfl ?_
  refine z_iload_n (pc := 206) dL_law_206 rfl rfl ?_
  refine z_iconst (pc := 207) (v := (nI 1)) dL_law_207 (by decide) ?_
  refine z_iadd (pc := 208) dL_law_208 ?_
  have c1 := H.1
  replace H := H.2
  refine z_xald (pc := 209) dL_law_209 rfl c1 ?_
  refine z_aload_n (pc := 210) dL_law_210 rfl rfl ?_
  refine z_iload_n (pc := 211) dL_law_211 rfl rfl ?_
  refine z_iconst (pc := 212) (v := (nI 2)) dL_law_212 (by decide) ?_
  refine z_iadd (pc := 213) dL_law_213 ?_
  have c2 := H.1
  replace H := H.2
  refine z_xald (pc := 214) dL_law_214 rfl c2 ?_
  refine y_VI (pc := 215) (bc := bc) (bs := bs) (mc := 4) (ms := 73) (As := [.inl (exF E 0 ((x3 + (nI 1))).toNatClampNeg), .inl (exF E 0 ((x3 + (nI 2))).toNatClampNeg)]) (rest := []) dL_law_215 kX11_row lL_23 ⟨_, _, rfl⟩ rfl rfl (H.use (fun v3 h3 H => ?_))
  have S3 := H.1
  replace H := H.2
  refine z_aload_n (pc := 218) dL_law_218 rfl rfl ?_
  refine z_aload_n (pc := 219) dL_law_219 rfl rfl ?_
  refine z_iload_n (pc := 220) dL_law_220 rfl rfl ?_
  refine z_iconst (pc := 221) (v := (nI 1)) dL_law_221 (by decide) ?_
  refine z_iadd (pc := 222) dL_law_222 ?_
  refine z_xald (pc := 223) dL_law_223 rfl c1 ?_
  refine z_aload_n (pc := 224) dL_law_224 rfl rfl ?_
  refine z_iload_n (pc := 225) dL_law_225 rfl rfl ?_
  refine z_iconst (pc := 226) (v := (nI 2)) dL_law_226 (by decide) ?_
  refine z_iadd (pc := 227) dL_law_227 ?_
  refine z_xald (pc := 228) dL_law_228 rfl c2 ?_
  refine y_VI (pc := 229) (bc := bc) (bs := bs) (mc := 0) (ms := 0) (As := [.inl (exF E 0 ((x3 + (nI 1))).toNatClampNeg), .inl (exF E 0 ((x3 + (nI 2))).toNatClampNeg)]) (rest := [.inl v3]) dL_law_229 kX12_row lL_27 ⟨_, _, rfl⟩ rfl rfl (H.use (fun v4 h4 H => ?_))
  have S4 := H.1
  replace H := H.2
  refine z_icmp_eq (pc := 232) (tgt := 1209) dL_law_232 (by decide) (fun c5 => ?_) (fun c5 => ?_)
  · replace H := H.1 c5
    exact H
  · replace H := H.2 c5
    refine z_iconst (pc := 235) (v := (nI 0)) dL_law_235 (by decide) ?_
    exact z_iret (pc := 236) dL_law_236 rfl rfl ⟨_, rfl, H⟩

set_option maxRecDepth 20000 in
theorem bL_law_237 {l : Launch} {E : eE} {d bc bs : Nat} {h : aH} {Q : Int32 → aH → Prop} {x3 : Int32} (S : SH h) (H : (vp_in (x3 + (nI 1)) (exL E 0) ∧ (vp_in (x3 + (nI 2)) (exL E 0) ∧ (vp_in (x3 + (nI 3)) (exL E 0) ∧ (CI l E d 4 73 mX11_cell [.inr (some (0, 11, 0)), .inl (exF E 0 ((x3 + (nI 1))).toNatClampNeg), .inl (exF E 0 ((x3 + (nI 2))).toNatClampNeg), .inl (exF E 0 ((x3 + (nI 3))).toNatClampNeg)] h (fun v4 h4 => SH h4 ∧ (CI l E d 0 0 mX12_cell [.inr (some (0, 12, 63)), .inl (exF E 0 ((x3 + (nI 1))).toNatClampNeg), .inl (exF E 0 ((x3 + (nI 2))).toNatClampNeg), .inl (exF E 0 ((x3 + (nI 3))).toNatClampNeg)] h4 (fun v5 h5 => SH h5 ∧ ((v4 = v5 → LL_law_1209 l E (d + 1) bc bs x3 h5 Q) ∧ (¬ v4 = v5 → Q (nI 0) h5)))))))))) : LL_law_237 l E (d + 1) (bc + 4) (bs + 73) x3 h Q := by
  refine z_aload_n (pc := 237) dL_law_237 rfl rfl ?_
  refine z_aload_n (pc := 238) dL_law_238 rfl rfl ?_
  refine z_iload_n (pc := 239) dL_law_239 rfl rfl ?_
  refine z_iconst (pc := 240) (v := (nI 1)) dL_law_240 (by decide) ?_
  refine z_iadd (pc := 241) dL_law_241 ?_
  have c1 := H.1
  replace H := H.2
  refine z_xald (pc := 242) dL_law_242 rfl c1 ?_
  refine z_aload_n (pc := 243) dL_law_243 rfl rfl ?_
  refine z_iload_n (pc := 244) dL_law_244 rfl rfl ?_
  refine z_iconst (pc := 245) (v := (nI 2)) dL_law_245 (by decide) ?_
  refine z_iadd (pc := 246) dL_law_246 ?_
  have c2 := H.1
  replace H := H.2
  refine z_xald (pc := 247) dL_law_247 rfl c2 ?_
  refine z_aload_n (pc := 248) dL_law_248 rfl rfl ?_
  refine z_iload_n (pc := 249) dL_law_249 rfl rfl ?_
  refine z_iconst (pc := 250) (v := (nI 3)) dL_law_250 (by decide) ?_
  refine z_iadd (pc := 251) dL_law_251 ?_
  have c3 := H.1
  replace H := H.2
  refine z_xald (pc := 252) dL_law_252 rfl c3 ?_
  refine y_VI (pc := 253) (bc := bc) (bs := bs) (mc := 4) (ms := 73) (As := [.inl (exF E 0 ((x3 + (nI 1))).toNatClampNeg), .inl (exF E 0 ((x3 + (nI 2))).toNatClampNeg), .inl (exF E 0 ((x3 + (nI 3))).toNatClampNeg)]) (rest := []) dL_law_253 kX11_cell lL_28 ⟨_, _, rfl⟩ rfl rfl (H.use (fun v4 h4 H => ?_))
  have S4 := H.1
  replace H := H.2
  refine z_aload_n (pc := 256) dL_law_256 rfl rfl ?_
  refine z_aload_n (pc := 257) dL_law_257 rfl rfl ?_
  refine z_iload_n (pc := 258) dL_law_258 rfl rfl ?_
  refine z_iconst (pc := 259) (v := (nI 1)) dL_law_259 (by decide) ?_
  refine z_iadd (pc := 260) dL_law_260 ?_
  refine z_xald (pc := 261) dL_law_261 rfl c1 ?_
  refine z_aload_n (pc := 262) dL_law_262 rfl rfl ?_
  refine z_iload_n (pc := 263) dL_law_263 rfl rfl ?_
  refine z_iconst (pc := 264) (v := (nI 2)) dL_law_264 (by decide) ?_
  refine z_iadd (pc := 265) dL_law_265 ?_
  refine z_xald (pc := 266) dL_law_266 rfl c2 ?_
  refine z_aload_n (pc := 267) dL_law_267 rfl rfl ?_
  refine z_iload_n (pc := 268) dL_law_268 rfl rfl ?_
  refine z_iconst (pc := 269) (v := (nI 3)) dL_law_269 (by decide) ?_
  refine z_iadd (pc := 270) dL_law_270 ?_
  refine z_xald (pc := 271) dL_law_271 rfl c3 ?_
  refine y_VI (pc := 272) (bc := bc) (bs := bs) (mc := 0) (ms := 0) (As := [.inl (exF E 0 ((x3 + (nI 1))).toNatClampNeg), .inl (exF E 0 ((x3 + (nI 2))).toNatClampNeg), .inl (exF E 0 ((x3 + (nI 3))).toNatClampNeg)]) (rest := [.inl v4]) dL_law_272 kX12_cell lL_32 ⟨_, _, rfl⟩ rfl rfl (H.use (fun v5 h5 H => ?_))
  have S5 := H.1
  replace H := H.2
  refine z_icmp_eq (pc := 275) (tgt := 1209) dL_law_275 (by decide) (fun c6 => ?_) (fun c6 => ?_)
  · replace H := H.1 c6
    exact H
  · replace H := H.2 c6
    refine z_iconst (pc := 278) (v := (nI 0)) dL_law_278 (by decide) ?_
    exact z_iret (pc := 279) dL_law_279 rfl rfl ⟨_, rfl, H⟩

set_option maxRecDepth 20000 in
theorem bL_law_280 {l : Launch} {E : eE} {d bc bs : Nat} {h : aH} {Q : Int32 → aH → Prop} {x3 : Int32} (S : SH h) (H : (vp_in (x3 + (nI 1)) (exL E 0) ∧ (vp_in (x3 + (nI 2)) (exL E 0) ∧ (vp_in (x3 + (nI 3)) (exL E 0) ∧ (CI l E d 4 73 mX11_change [.inr (some (0, 11, 0)), .inl (exF E 0 ((x3 + (nI 1))).toNatClampNeg), .inl (exF E 0 ((x3 + (nI 2))).toNatClampNeg), .inl (exF E 0 ((x3 + (nI 3))).toNatClampNeg)] h (fun v4 h4 => SH h4 ∧ (CI l E d 0 0 mX12_change [.inr (some (0, 12, 63)), .inl (exF E 0 ((x3 + (nI 1))).toNatClampNeg), .inl (exF E 0 ((x3 + (nI 2))).toNatClampNeg), .inl (exF E 0 ((x3 + (nI 3))).toNatClampNeg)] h4 (fun v5 h5 => SH h5 ∧ ((v4 = v5 → LL_law_1209 l E (d + 1) bc bs x3 h5 Q) ∧ (¬ v4 = v5 → Q (nI 0) h5)))))))))) : LL_law_280 l E (d + 1) (bc + 4) (bs + 73) x3 h Q := by
  refine z_aload_n (pc := 280) dL_law_280 rfl rfl ?_
  refine z_aload_n (pc := 281) dL_law_281 rfl rfl ?_
  refine z_iload_n (pc := 282) dL_law_282 rfl rfl ?_
  refine z_iconst (pc := 283) (v := (nI 1)) dL_law_283 (by decide) ?_
  refine z_iadd (pc := 284) dL_law_284 ?_
  have c1 := H.1
  replace H := H.2
  refine z_xald (pc := 285) dL_law_285 rfl c1 ?_
  refine z_aload_n (pc := 286) dL_law_286 rfl rfl ?_
  refine z_iload_n (pc := 287) dL_law_287 rfl rfl ?_
  refine z_iconst (pc := 288) (v := (nI 2)) dL_law_288 (by decide) ?_
  refine z_iadd (pc := 289) dL_law_289 ?_
  have c2 := H.1
  replace H := H.2
  refine z_xald (pc := 290) dL_law_290 rfl c2 ?_
  refine z_aload_n (pc := 291) dL_law_291 rfl rfl ?_
  refine z_iload_n (pc := 292) dL_law_292 rfl rfl ?_
  refine z_iconst (pc := 293) (v := (nI 3)) dL_law_293 (by decide) ?_
  refine z_iadd (pc := 294) dL_law_294 ?_
  have c3 := H.1
  replace H := H.2
  refine z_xald (pc := 295) dL_law_295 rfl c3 ?_
  refine y_VI (pc := 296) (bc := bc) (bs := bs) (mc := 4) (ms := 73) (As := [.inl (exF E 0 ((x3 + (nI 1))).toNatClampNeg), .inl (exF E 0 ((x3 + (nI 2))).toNatClampNeg), .inl (exF E 0 ((x3 + (nI 3))).toNatClampNeg)]) (rest := []) dL_law_296 kX11_change lL_33 ⟨_, _, rfl⟩ rfl rfl (H.use (fun v4 h4 H => ?_))
  have S4 := H.1
  replace H := H.2
  refine z_aload_n (pc := 299) dL_law_299 rfl rfl ?_
  refine z_aload_n (pc := 300) dL_law_300 rfl rfl ?_
  refine z_iload_n (pc := 301) dL_law_301 rfl rfl ?_
  refine z_iconst (pc := 302) (v := (nI 1)) dL_law_302 (by decide) ?_
  refine z_iadd (pc := 303) dL_law_303 ?_
  refine z_xald (pc := 304) dL_law_304 rfl c1 ?_
  refine z_aload_n (pc := 305) dL_law_305 rfl rfl ?_
  refine z_iload_n (pc := 306) dL_law_306 rfl rfl ?_
  refine z_iconst (pc := 307) (v := (nI 2)) dL_law_307 (by decide) ?_
  refine z_iadd (pc := 308) dL_law_308 ?_
  refine z_xald (pc := 309) dL_law_309 rfl c2 ?_
  refine z_aload_n (pc := 310) dL_law_310 rfl rfl ?_
  refine z_iload_n (pc := 311) dL_law_311 rfl rfl ?_
  refine z_iconst (pc := 312) (v := (nI 3)) dL_law_312 (by decide) ?_
  refine z_iadd (pc := 313) dL_law_313 ?_
  refine z_xald (pc := 314) dL_law_314 rfl c3 ?_
  refine y_VI (pc := 315) (bc := bc) (bs := bs) (mc := 0) (ms := 0) (As := [.inl (exF E 0 ((x3 + (nI 1))).toNatClampNeg), .inl (exF E 0 ((x3 + (nI 2))).toNatClampNeg), .inl (exF E 0 ((x3 + (nI 3))).toNatClampNeg)]) (rest := [.inl v4]) dL_law_315 kX12_change lL_37 ⟨_, _, rfl⟩ rfl rfl (H.use (fun v5 h5 H => ?_))
  have S5 := H.1
  replace H := H.2
  refine z_icmp_eq (pc := 318) (tgt := 1209) dL_law_318 (by decide) (fun c6 => ?_) (fun c6 => ?_)
  · replace H := H.1 c6
    exact H
  · replace H := H.2 c6
    refine z_iconst (pc := 321) (v := (nI 0)) dL_law_321 (by decide) ?_
    exact z_iret (pc := 322) dL_law_322 rfl rfl ⟨_, rfl, H⟩

set_option maxRecDepth 20000 in
theorem bL_law_323 {l : Launch} {E : eE} {d bc bs : Nat} {h : aH} {Q : Int32 → aH → Prop} {x3 : Int32} (S : SH h) (H : (vp_in (x3 + (nI 1)) (exL E 0) ∧ (vp_in (x3 + (nI 2)) (exL E 0) ∧ (CI l E d 4 73 mX11_feast [.inr (some (0, 11, 0)), .inl (exF E 0 ((x3 + (nI 1))).toNatClampNeg), .inl (exF E 0 ((x3 + (nI 2))).toNatClampNeg)] h (fun v3 h3 => SH h3 ∧ (CI l E d 0 0 mX12_feast [.inr (some (0, 12, 63)), .inl (exF E 0 ((x3 + (nI 1))).toNatClampNeg), .inl (exF E 0 ((x3 + (nI 2))).toNatClampNeg)] h3 (fun v4 h4 => SH h4 ∧ ((v3 = v4 → LL_law_1209 l E (d + 1) bc bs x3 h4 Q) ∧ (¬ v3 = v4 → Q (nI 0) h4))))))))) : LL_law_323 l E (d + 1) (bc + 4) (bs + 73) x3 h Q := by
  refine z_aload_n (pc := 323) dL_law_323 rfl rfl ?_
  refine z_aload_n (pc := 324) dL_law_324 rfl rfl ?_
  refine z_iload_n (pc := 325) dL_law_325 rfl rfl ?_
  refine z_iconst (pc := 326) (v := (nI 1)) dL_law_326 (by decide) ?_
  refine z_iadd (pc := 327) dL_law_327 ?_
  have c1 := H.1
  replace H := H.2
  refine z_xald (pc := 328) dL_law_328 rfl c1 ?_
  refine z_aload_n (pc := 329) dL_law_329 rfl rfl ?_
  refine z_iload_n (pc := 330) dL_law_330 rfl rfl ?_
  refine z_iconst (pc := 331) (v := (nI 2)) dL_law_331 (by decide) ?_
  refine z_iadd (pc := 332) dL_law_332 ?_
  have c2 := H.1
  replace H := H.2
  refine z_xald (pc := 333) dL_law_333 rfl c2 ?_
  refine y_VI (pc := 334) (bc := bc) (bs := bs) (mc := 4) (ms := 73) (As := [.inl (exF E 0 ((x3 + (nI 1))).toNatClampNeg), .inl (exF E 0 ((x3 + (nI 2))).toNatClampNeg)]) (rest := []) dL_law_334 kX11_feast lL_38 ⟨_, _, rfl⟩ rfl rfl (H.use (fun v3 h3 H => ?_))
  have S3 := H.1
  replace H := H.2
  refine z_aload_n (pc := 337) dL_law_337 rfl rfl ?_
  refine z_aload_n (pc := 338) dL_law_338 rfl rfl ?_
  refine z_iload_n (pc := 339) dL_law_339 rfl rfl ?_
  refine z_iconst (pc := 340) (v := (nI 1)) dL_law_340 (by decide) ?_
  refine z_iadd (pc := 341) dL_law_341 ?_
  refine z_xald (pc := 342) dL_law_342 rfl c1 ?_
  refine z_aload_n (pc := 343) dL_law_343 rfl rfl ?_
  refine z_iload_n (pc := 344) dL_law_344 rfl rfl ?_
  refine z_iconst (pc := 345) (v := (nI 2)) dL_law_345 (by decide) ?_
  refine z_iadd (pc := 346) dL_law_346 ?_
  refine z_xald (pc := 347) dL_law_347 rfl c2 ?_
  refine y_VI (pc := 348) (bc := bc) (bs := bs) (mc := 0) (ms := 0) (As := [.inl (exF E 0 ((x3 + (nI 1))).toNatClampNeg), .inl (exF E 0 ((x3 + (nI 2))).toNatClampNeg)]) (rest := [.inl v3]) dL_law_348 kX12_feast lL_41 ⟨_, _, rfl⟩ rfl rfl (H.use (fun v4 h4 H => ?_))
  have S4 := H.1
  replace H := H.2
  refine z_icmp_eq (pc := 351) (tgt := 1209) dL_law_351 (by decide) (fun c5 => ?_) (fun c5 => ?_)
  · replace H := H.1 c5
    exact H
  · replace H := H.2 c5
    refine z_iconst (pc := 354) (v := (nI 0)) dL_law_354 (by decide) ?_
    exact z_iret (pc := 355) dL_law_355 rfl rfl ⟨_, rfl, H⟩

set_option maxRecDepth 20000 in
theorem bL_law_356 {l : Launch} {E : eE} {d bc bs : Nat} {h : aH} {Q : Int32 → aH → Prop} {x3 : Int32} (S : SH h) (H : (vp_in (x3 + (nI 1)) (exL E 0) ∧ (vp_in (x3 + (nI 2)) (exL E 0) ∧ (vp_in (x3 + (nI 3)) (exL E 0) ∧ (vp_in (x3 + (nI 4)) (exL E 0) ∧ (((exF E 0 ((x3 + (nI 4))).toNatClampNeg) = 0 → (CI l E d 4 73 mX11_busy [.inr (some (0, 11, 0)), .inl (exF E 0 ((x3 + (nI 1))).toNatClampNeg), .inl (exF E 0 ((x3 + (nI 2))).toNatClampNeg), .inl (exF E 0 ((x3 + (nI 3))).toNatClampNeg), .inl (nI 0)] h (fun v6 h6 => SH h6 ∧ (((exF E 0 ((x3 + (nI 4))).toNatClampNeg) = 0 → (CI l E d 0 0 mX12_busy [.inr (some (0, 12, 63)), .inl (exF E 0 ((x3 + (nI 1))).toNatClampNeg), .inl (exF E 0 ((x3 + (nI 2))).toNatClampNeg), .inl (exF E 0 ((x3 + (nI 3))).toNatClampNeg), .inl (nI 0)] h6 (fun v8 h8 => SH h8 ∧ ((v6 = v8 → LL_law_1209 l E (d + 1) bc bs x3 h8 Q) ∧ (¬ v6 = v8 → Q (nI 0) h8))))) ∧ (¬ (exF E 0 ((x3 + (nI 4))).toNatClampNeg) = 0 → (CI l E d 0 0 mX12_busy [.inr (some (0, 12, 63)), .inl (exF E 0 ((x3 + (nI 1))).toNatClampNeg), .inl (exF E 0 ((x3 + (nI 2))).toNatClampNeg), .inl (exF E 0 ((x3 + (nI 3))).toNatClampNeg), .inl (nI 1)] h6 (fun v10 h10 => SH h10 ∧ ((v6 = v10 → LL_law_1209 l E (d + 1) bc bs x3 h10 Q) ∧ (¬ v6 = v10 → Q (nI 0) h10))))))))) ∧ (¬ (exF E 0 ((x3 + (nI 4))).toNatClampNeg) = 0 → (CI l E d 4 73 mX11_busy [.inr (some (0, 11, 0)), .inl (exF E 0 ((x3 + (nI 1))).toNatClampNeg), .inl (exF E 0 ((x3 + (nI 2))).toNatClampNeg), .inl (exF E 0 ((x3 + (nI 3))).toNatClampNeg), .inl (nI 1)] h (fun v12 h12 => SH h12 ∧ (((exF E 0 ((x3 + (nI 4))).toNatClampNeg) = 0 → (CI l E d 0 0 mX12_busy [.inr (some (0, 12, 63)), .inl (exF E 0 ((x3 + (nI 1))).toNatClampNeg), .inl (exF E 0 ((x3 + (nI 2))).toNatClampNeg), .inl (exF E 0 ((x3 + (nI 3))).toNatClampNeg), .inl (nI 0)] h12 (fun v14 h14 => SH h14 ∧ ((v12 = v14 → LL_law_1209 l E (d + 1) bc bs x3 h14 Q) ∧ (¬ v12 = v14 → Q (nI 0) h14))))) ∧ (¬ (exF E 0 ((x3 + (nI 4))).toNatClampNeg) = 0 → (CI l E d 0 0 mX12_busy [.inr (some (0, 12, 63)), .inl (exF E 0 ((x3 + (nI 1))).toNatClampNeg), .inl (exF E 0 ((x3 + (nI 2))).toNatClampNeg), .inl (exF E 0 ((x3 + (nI 3))).toNatClampNeg), .inl (nI 1)] h12 (fun v16 h16 => SH h16 ∧ ((v12 = v16 → LL_law_1209 l E (d + 1) bc bs x3 h16 Q) ∧ (¬ v12 = v16 → Q (nI 0) h16))))))))))))))) : LL_law_356 l E (d + 1) (bc + 4) (bs + 73) x3 h Q := by
  refine z_aload_n (pc := 356) dL_law_356 rfl rfl ?_
  refine z_aload_n (pc := 357) dL_law_357 rfl rfl ?_
  refine z_iload_n (pc := 358) dL_law_358 rfl rfl ?_
  refine z_iconst (pc := 359) (v := (nI 1)) dL_law_359 (by decide) ?_
  refine z_iadd (pc := 360) dL_law_360 ?_
  have c1 := H.1
  replace H := H.2
  refine z_xald (pc := 361) dL_law_361 rfl c1 ?_
  refine z_aload_n (pc := 362) dL_law_362 rfl rfl ?_
  refine z_iload_n (pc := 363) dL_law_363 rfl rfl ?_
  refine z_iconst (pc := 364) (v := (nI 2)) dL_law_364 (by decide) ?_
  refine z_iadd (pc := 365) dL_law_365 ?_
  have c2 := H.1
  replace H := H.2
  refine z_xald (pc := 366) dL_law_366 rfl c2 ?_
  refine z_aload_n (pc := 367) dL_law_367 rfl rfl ?_
  refine z_iload_n (pc := 368) dL_law_368 rfl rfl ?_
  refine z_iconst (pc := 369) (v := (nI 3)) dL_law_369 (by decide) ?_
  refine z_iadd (pc := 370) dL_law_370 ?_
  have c3 := H.1
  replace H := H.2
  refine z_xald (pc := 371) dL_law_371 rfl c3 ?_
  refine z_aload_n (pc := 372) dL_law_372 rfl rfl ?_
  refine z_iload_n (pc := 373) dL_law_373 rfl rfl ?_
  refine z_iconst (pc := 374) (v := (nI 4)) dL_law_374 (by decide) ?_
  refine z_iadd (pc := 375) dL_law_375 ?_
  have c4 := H.1
  replace H := H.2
  refine z_xald (pc := 376) dL_law_376 rfl c4 ?_
  refine z_if_eq (pc := 377) (tgt := 384) dL_law_377 (by decide) (fun c5 => ?_) (fun c5 => ?_)
  · replace H := H.1 c5
    refine z_iconst (pc := 384) (v := (nI 0)) dL_law_384 (by decide) ?_
    refine y_VI (pc := 385) (bc := bc) (bs := bs) (mc := 4) (ms := 73) (As := [.inl (exF E 0 ((x3 + (nI 1))).toNatClampNeg), .inl (exF E 0 ((x3 + (nI 2))).toNatClampNeg), .inl (exF E 0 ((x3 + (nI 3))).toNatClampNeg), .inl (nI 0)]) (rest := []) dL_law_385 kX11_busy lL_42 ⟨_, _, rfl⟩ rfl rfl (H.use (fun v6 h6 H => ?_))
    have S6 := H.1
    replace H := H.2
    refine z_aload_n (pc := 388) dL_law_388 rfl rfl ?_
    refine z_aload_n (pc := 389) dL_law_389 rfl rfl ?_
    refine z_iload_n (pc := 390) dL_law_390 rfl rfl ?_
    refine z_iconst (pc := 391) (v := (nI 1)) dL_law_391 (by decide) ?_
    refine z_iadd (pc := 392) dL_law_392 ?_
    refine z_xald (pc := 393) dL_law_393 rfl c1 ?_
    refine z_aload_n (pc := 394) dL_law_394 rfl rfl ?_
    refine z_iload_n (pc := 395) dL_law_395 rfl rfl ?_
    refine z_iconst (pc := 396) (v := (nI 2)) dL_law_396 (by decide) ?_
    refine z_iadd (pc := 397) dL_law_397 ?_
    refine z_xald (pc := 398) dL_law_398 rfl c2 ?_
    refine z_aload_n (pc := 399) dL_law_399 rfl rfl ?_
    refine z_iload_n (pc := 400) dL_law_400 rfl rfl ?_
    refine z_iconst (pc := 401) (v := (nI 3)) dL_law_401 (by decide) ?_
    refine z_iadd (pc := 402) dL_law_402 ?_
    refine z_xald (pc := 403) dL_law_403 rfl c3 ?_
    refine z_aload_n (pc := 404) dL_law_404 rfl rfl ?_
    refine z_iload_n (pc := 405) dL_law_405 rfl rfl ?_
    refine z_iconst (pc := 406) (v := (nI 4)) dL_law_406 (by decide) ?_
    refine z_iadd (pc := 407) dL_law_407 ?_
    refine z_xald (pc := 408) dL_law_408 rfl c4 ?_
    refine z_if_eq (pc := 409) (tgt := 416) dL_law_409 (by decide) (fun c7 => ?_) (fun c7 => ?_)
    · replace H := H.1 c7
      refine z_iconst (pc := 416) (v := (nI 0)) dL_law_416 (by decide) ?_
      refine y_VI (pc := 417) (bc := bc) (bs := bs) (mc := 0) (ms := 0) (As := [.inl (exF E 0 ((x3 + (nI 1))).toNatClampNeg), .inl (exF E 0 ((x3 + (nI 2))).toNatClampNeg), .inl (exF E 0 ((x3 + (nI 3))).toNatClampNeg), .inl (nI 0)]) (rest := [.inl v6]) dL_law_417 kX12_busy lL_46 ⟨_, _, rfl⟩ rfl rfl (H.use (fun v8 h8 H => ?_))
      have S8 := H.1
      replace H := H.2
      refine z_icmp_eq (pc := 420) (tgt := 1209) dL_law_420 (by decide) (fun c9 => ?_) (fun c9 => ?_)
      · replace H := H.1 c9
        exact H
      · replace H := H.2 c9
        refine z_iconst (pc := 423) (v := (nI 0)) dL_law_423 (by decide) ?_
        exact z_iret (pc := 424) dL_law_424 rfl rfl ⟨_, rfl, H⟩
    · replace H := H.2 c7
      refine z_iconst (pc := 412) (v := (nI 1)) dL_law_412 (by decide) ?_
      refine z_goto (pc := 413) (tgt := 417) dL_law_413 (by decide) ?_
      refine y_VI (pc := 417) (bc := bc) (bs := bs) (mc := 0) (ms := 0) (As := [.inl (exF E 0 ((x3 + (nI 1))).toNatClampNeg), .inl (exF E 0 ((x3 + (nI 2))).toNatClampNeg), .inl (exF E 0 ((x3 + (nI 3))).toNatClampNeg), .inl (nI 1)]) (rest := [.inl v6]) dL_law_417 kX12_busy lL_46 ⟨_, _, rfl⟩ rfl rfl (H.use (fun v10 h10 H => ?_))
      have S10 := H.1
      replace H := H.2
      refine z_icmp_eq (pc := 420) (tgt := 1209) dL_law_420 (by decide) (fun c11 => ?_) (fun c11 => ?_)
      · replace H := H.1 c11
        exact H
      · replace H := H.2 c11
        refine z_iconst (pc := 423) (v := (nI 0)) dL_law_423 (by decide) ?_
        exact z_iret (pc := 424) dL_law_424 rfl rfl ⟨_, rfl, H⟩
  · replace H := H.2 c5
    refine z_iconst (pc := 380) (v := (nI 1)) dL_law_380 (by decide) ?_
    refine z_goto (pc := 381) (tgt := 385) dL_law_381 (by decide) ?_
    refine y_VI (pc := 385) (bc := bc) (bs := bs) (mc := 4) (ms := 73) (As := [.inl (exF E 0 ((x3 + (nI 1))).toNatClampNeg), .inl (exF E 0 ((x3 + (nI 2))).toNatClampNeg), .inl (exF E 0 ((x3 + (nI 3))).toNatClampNeg), .inl (nI 1)]) (rest := []) dL_law_385 kX11_busy lL_42 ⟨_, _, rfl⟩ rfl rfl (H.use (fun v12 h12 H => ?_))
    have S12 := H.1
    replace H := H.2
    refine z_aload_n (pc := 388) dL_law_388 rfl rfl ?_
    refine z_aload_n (pc := 389) dL_law_389 rfl rfl ?_
    refine z_iload_n (pc := 390) dL_law_390 rfl rfl ?_
    refine z_iconst (pc := 391) (v := (nI 1)) dL_law_391 (by decide) ?_
    refine z_iadd (pc := 392) dL_law_392 ?_
    refine z_xald (pc := 393) dL_law_393 rfl c1 ?_
    refine z_aload_n (pc := 394) dL_law_394 rfl rfl ?_
    refine z_iload_n (pc := 395) dL_law_395 rfl rfl ?_
    refine z_iconst (pc := 396) (v := (nI 2)) dL_law_396 (by decide) ?_
    refine z_iadd (pc := 397) dL_law_397 ?_
    refine z_xald (pc := 398) dL_law_398 rfl c2 ?_
    refine z_aload_n (pc := 399) dL_law_399 rfl rfl ?_
    refine z_iload_n (pc := 400) dL_law_400 rfl rfl ?_
    refine z_iconst (pc := 401) (v := (nI 3)) dL_law_401 (by decide) ?_
    refine z_iadd (pc := 402) dL_law_402 ?_
    refine z_xald (pc := 403) dL_law_403 rfl c3 ?_
    refine z_aload_n (pc := 404) dL_law_404 rfl rfl ?_
    refine z_iload_n (pc := 405) dL_law_405 rfl rfl ?_
    refine z_iconst (pc := 406) (v := (nI 4)) dL_law_406 (by decide) ?_
    refine z_iadd (pc := 407) dL_law_407 ?_
    refine z_xald (pc := 408) dL_law_408 rfl c4 ?_
    refine z_if_eq (pc := 409) (tgt := 416) dL_law_409 (by decide) (fun c13 => ?_) (fun c13 => ?_)
    · replace H := H.1 c13
      refine z_iconst (pc := 416) (v := (nI 0)) dL_law_416 (by decide) ?_
      refine y_VI (pc := 417) (bc := bc) (bs := bs) (mc := 0) (ms := 0) (As := [.inl (exF E 0 ((x3 + (nI 1))).toNatClampNeg), .inl (exF E 0 ((x3 + (nI 2))).toNatClampNeg), .inl (exF E 0 ((x3 + (nI 3))).toNatClampNeg), .inl (nI 0)]) (rest := [.inl v12]) dL_law_417 kX12_busy lL_46 ⟨_, _, rfl⟩ rfl rfl (H.use (fun v14 h14 H => ?_))
      have S14 := H.1
      replace H := H.2
      refine z_icmp_eq (pc := 420) (tgt := 1209) dL_law_420 (by decide) (fun c15 => ?_) (fun c15 => ?_)
      · replace H := H.1 c15
        exact H
      · replace H := H.2 c15
        refine z_iconst (pc := 423) (v := (nI 0)) dL_law_423 (by decide) ?_
        exact z_iret (pc := 424) dL_law_424 rfl rfl ⟨_, rfl, H⟩
    · replace H := H.2 c13
      refine z_iconst (pc := 412) (v := (nI 1)) dL_law_412 (by decide) ?_
      refine z_goto (pc := 413) (tgt := 417) dL_law_413 (by decide) ?_
      refine y_VI (pc := 417) (bc := bc) (bs := bs) (mc := 0) (ms := 0) (As := [.inl (exF E 0 ((x3 + (nI 1))).toNatClampNeg), .inl (exF E 0 ((x3 + (nI 2))).toNatClampNeg), .inl (exF E 0 ((x3 + (nI 3))).toNatClampNeg), .inl (nI 1)]) (rest := [.inl v12]) dL_law_417 kX12_busy lL_46 ⟨_, _, rfl⟩ rfl rfl (H.use (fun v16 h16 H => ?_))
      have S16 := H.1
      replace H := H.2
      refine z_icmp_eq (pc := 420) (tgt := 1209) dL_law_420 (by decide) (fun c17 => ?_) (fun c17 => ?_)
      · replace H := H.1 c17
        exact H
      · replace H := H.2 c17
        refine z_iconst (pc := 423) (v := (nI 0)) dL_law_423 (by decide) ?_
        exact z_iret (pc := 424) dL_law_424 rfl rfl ⟨_, rfl, H⟩

set_option maxRecDepth 20000 in
theorem bL_law_425 {l : Launch} {E : eE} {d bc bs : Nat} {h : aH} {Q : Int32 → aH → Prop} {x3 : Int32} (S : SH h) (H : (vp_in (x3 + (nI 1)) (exL E 0) ∧ (vp_in (x3 + (nI 2)) (exL E 0) ∧ (vp_in (x3 + (nI 3)) (exL E 0) ∧ (CI l E d 4 73 mX11_cant [.inr (some (0, 11, 0)), .inl (exF E 0 ((x3 + (nI 1))).toNatClampNeg), .inl (exF E 0 ((x3 + (nI 2))).toNatClampNeg), .inl (exF E 0 ((x3 + (nI 3))).toNatClampNeg)] h (fun v4 h4 => SH h4 ∧ (CI l E d 0 0 mX12_cant [.inr (some (0, 12, 63)), .inl (exF E 0 ((x3 + (nI 1))).toNatClampNeg), .inl (exF E 0 ((x3 + (nI 2))).toNatClampNeg), .inl (exF E 0 ((x3 + (nI 3))).toNatClampNeg)] h4 (fun v5 h5 => SH h5 ∧ ((v4 = v5 → LL_law_1209 l E (d + 1) bc bs x3 h5 Q) ∧ (¬ v4 = v5 → Q (nI 0) h5)))))))))) : LL_law_425 l E (d + 1) (bc + 4) (bs + 73) x3 h Q := by
  refine z_aload_n (pc := 425) dL_law_425 rfl rfl ?_
  refine z_aload_n (pc := 426) dL_law_426 rfl rfl ?_
  refine z_iload_n (pc := 427) dL_law_427 rfl rfl ?_
  refine z_iconst (pc := 428) (v := (nI 1)) dL_law_428 (by decide) ?_
  refine z_iadd (pc := 429) dL_law_429 ?_
  have c1 := H.1
  replace H := H.2
  refine z_xald (pc := 430) dL_law_430 rfl c1 ?_
  refine z_aload_n (pc := 431) dL_law_431 rfl rfl ?_
  refine z_iload_n (pc := 432) dL_law_432 rfl rfl ?_
  refine z_iconst (pc := 433) (v := (nI 2)) dL_law_433 (by decide) ?_
  refine z_iadd (pc := 434) dL_law_434 ?_
  have c2 := H.1
  replace H := H.2
  refine z_xald (pc := 435) dL_law_435 rfl c2 ?_
  refine z_aload_n (pc := 436) dL_law_436 rfl rfl ?_
  refine z_iload_n (pc := 437) dL_law_437 rfl rfl ?_
  refine z_iconst (pc := 438) (v := (nI 3)) dL_law_438 (by decide) ?_
  refine z_iadd (pc := 439) dL_law_439 ?_
  have c3 := H.1
  replace H := H.2
  refine z_xald (pc := 440) dL_law_440 rfl c3 ?_
  refine y_VI (pc := 441) (bc := bc) (bs := bs) (mc := 4) (ms := 73) (As := [.inl (exF E 0 ((x3 + (nI 1))).toNatClampNeg), .inl (exF E 0 ((x3 + (nI 2))).toNatClampNeg), .inl (exF E 0 ((x3 + (nI 3))).toNatClampNeg)]) (rest := []) dL_law_441 kX11_cant lL_47 ⟨_, _, rfl⟩ rfl rfl (H.use (fun v4 h4 H => ?_))
  have S4 := H.1
  replace H := H.2
  refine z_aload_n (pc := 444) dL_law_444 rfl rfl ?_
  refine z_aload_n (pc := 445) dL_law_445 rfl rfl ?_
  refine z_iload_n (pc := 446) dL_law_446 rfl rfl ?_
  refine z_iconst (pc := 447) (v := (nI 1)) dL_law_447 (by decide) ?_
  refine z_iadd (pc := 448) dL_law_448 ?_
  refine z_xald (pc := 449) dL_law_449 rfl c1 ?_
  refine z_aload_n (pc := 450) dL_law_450 rfl rfl ?_
  refine z_iload_n (pc := 451) dL_law_451 rfl rfl ?_
  refine z_iconst (pc := 452) (v := (nI 2)) dL_law_452 (by decide) ?_
  refine z_iadd (pc := 453) dL_law_453 ?_
  refine z_xald (pc := 454) dL_law_454 rfl c2 ?_
  refine z_aload_n (pc := 455) dL_law_455 rfl rfl ?_
  refine z_iload_n (pc := 456) dL_law_456 rfl rfl ?_
  refine z_iconst (pc := 457) (v := (nI 3)) dL_law_457 (by decide) ?_
  refine z_iadd (pc := 458) dL_law_458 ?_
  refine z_xald (pc := 459) dL_law_459 rfl c3 ?_
  refine y_VI (pc := 460) (bc := bc) (bs := bs) (mc := 0) (ms := 0) (As := [.inl (exF E 0 ((x3 + (nI 1))).toNatClampNeg), .inl (exF E 0 ((x3 + (nI 2))).toNatClampNeg), .inl (exF E 0 ((x3 + (nI 3))).toNatClampNeg)]) (rest := [.inl v4]) dL_law_460 kX12_cant lL_50 ⟨_, _, rfl⟩ rfl rfl (H.use (fun v5 h5 H => ?_))
  have S5 := H.1
  replace H := H.2
  refine z_icmp_eq (pc := 463) (tgt := 1209) dL_law_463 (by decide) (fun c6 => ?_) (fun c6 => ?_)
  · replace H := H.1 c6
    exact H
  · replace H := H.2 c6
    refine z_iconst (pc := 466) (v := (nI 0)) dL_law_466 (by decide) ?_
    exact z_iret (pc := 467) dL_law_467 rfl rfl ⟨_, rfl, H⟩

set_option maxRecDepth 20000 in
theorem bL_law_468 {l : Launch} {E : eE} {d bc bs : Nat} {h : aH} {Q : Int32 → aH → Prop} {x3 : Int32} (S : SH h) (H : (vp_in (x3 + (nI 1)) (exL E 0) ∧ (vp_in (x3 + (nI 2)) (exL E 0) ∧ (vp_in (x3 + (nI 3)) (exL E 0) ∧ (CI l E d 4 73 mX11_series [.inr (some (0, 11, 0)), .inl (exF E 0 ((x3 + (nI 1))).toNatClampNeg), .inl (exF E 0 ((x3 + (nI 2))).toNatClampNeg), .inl (exF E 0 ((x3 + (nI 3))).toNatClampNeg)] h (fun v4 h4 => SH h4 ∧ (CI l E d 0 0 mX12_series [.inr (some (0, 12, 63)), .inl (exF E 0 ((x3 + (nI 1))).toNatClampNeg), .inl (exF E 0 ((x3 + (nI 2))).toNatClampNeg), .inl (exF E 0 ((x3 + (nI 3))).toNatClampNeg)] h4 (fun v5 h5 => SH h5 ∧ ((v4 = v5 → LL_law_1209 l E (d + 1) bc bs x3 h5 Q) ∧ (¬ v4 = v5 → Q (nI 0) h5)))))))))) : LL_law_468 l E (d + 1) (bc + 4) (bs + 73) x3 h Q := by
  refine z_aload_n (pc := 468) dL_law_468 rfl rfl ?_
  refine z_aload_n (pc := 469) dL_law_469 rfl rfl ?_
  refine z_iload_n (pc := 470) dL_law_470 rfl rfl ?_
  refine z_iconst (pc := 471) (v := (nI 1)) dL_law_471 (by decide) ?_
  refine z_iadd (pc := 472) dL_law_472 ?_
  have c1 := H.1
  replace H := H.2
  refine z_xald (pc := 473) dL_law_473 rfl c1 ?_
  refine z_aload_n (pc := 474) dL_law_474 rfl rfl ?_
  refine z_iload_n (pc := 475) dL_law_475 rfl rfl ?_
  refine z_iconst (pc := 476) (v := (nI 2)) dL_law_476 (by decide) ?_
  refine z_iadd (pc := 477) dL_law_477 ?_
  have c2 := H.1
  replace H := H.2
  refine z_xald (pc := 478) dL_law_478 rfl c2 ?_
  refine z_aload_n (pc := 479) dL_law_479 rfl rfl ?_
  refine z_iload_n (pc := 480) dL_law_480 rfl rfl ?_
  refine z_iconst (pc := 481) (v := (nI 3)) dL_law_481 (by decide) ?_
  refine z_iadd (pc := 482) dL_law_482 ?_
  have c3 := H.1
  replace H := H.2
  refine z_xald (pc := 483) dL_law_483 rfl c3 ?_
  refine y_VI (pc := 484) (bc := bc) (bs := bs) (mc := 4) (ms := 73) (As := [.inl (exF E 0 ((x3 + (nI 1))).toNatClampNeg), .inl (exF E 0 ((x3 + (nI 2))).toNatClampNeg), .inl (exF E 0 ((x3 + (nI 3))).toNatClampNeg)]) (rest := []) dL_law_484 kX11_series lL_51 ⟨_, _, rfl⟩ rfl rfl (H.use (fun v4 h4 H => ?_))
  have S4 := H.1
  replace H := H.2
  refine z_aload_n (pc := 487) dL_law_487 rfl rfl ?_
  refine z_aload_n (pc := 488) dL_law_488 rfl rfl ?_
  refine z_iload_n (pc := 489) dL_law_489 rfl rfl ?_
  refine z_iconst (pc := 490) (v := (nI 1)) dL_law_490 (by decide) ?_
  refine z_iadd (pc := 491) dL_law_491 ?_
  refine z_xald (pc := 492) dL_law_492 rfl c1 ?_
  refine z_aload_n (pc := 493) dL_law_493 rfl rfl ?_
  refine z_iload_n (pc := 494) dL_law_494 rfl rfl ?_
  refine z_iconst (pc := 495) (v := (nI 2)) dL_law_495 (by decide) ?_
  refine z_iadd (pc := 496) dL_law_496 ?_
  refine z_xald (pc := 497) dL_law_497 rfl c2 ?_
  refine z_aload_n (pc := 498) dL_law_498 rfl rfl ?_
  refine z_iload_n (pc := 499) dL_law_499 rfl rfl ?_
  refine z_iconst (pc := 500) (v := (nI 3)) dL_law_500 (by decide) ?_
  refine z_iadd (pc := 501) dL_law_501 ?_
  refine z_xald (pc := 502) dL_law_502 rfl c3 ?_
  refine y_VI (pc := 503) (bc := bc) (bs := bs) (mc := 0) (ms := 0) (As := [.inl (exF E 0 ((x3 + (nI 1))).toNatClampNeg), .inl (exF E 0 ((x3 + (nI 2))).toNatClampNeg), .inl (exF E 0 ((x3 + (nI 3))).toNatClampNeg)]) (rest := [.inl v4]) dL_law_503 kX12_series lL_54 ⟨_, _, rfl⟩ rfl rfl (H.use (fun v5 h5 H => ?_))
  have S5 := H.1
  replace H := H.2
  refine z_icmp_eq (pc := 506) (tgt := 1209) dL_law_506 (by decide) (fun c6 => ?_) (fun c6 => ?_)
  · replace H := H.1 c6
    exact H
  · replace H := H.2 c6
    refine z_iconst (pc := 509) (v := (nI 0)) dL_law_509 (by decide) ?_
    exact z_iret (pc := 510) dL_law_510 rfl rfl ⟨_, rfl, H⟩

set_option maxRecDepth 20000 in
theorem bL_law_511 {l : Launch} {E : eE} {d bc bs : Nat} {h : aH} {Q : Int32 → aH → Prop} {x3 : Int32} (S : SH h) (H : (vp_in (x3 + (nI 1)) (exL E 0) ∧ (vp_in (x3 + (nI 2)) (exL E 0) ∧ (CI l E d 4 73 mX11_option [.inr (some (0, 11, 0)), .inl (exF E 0 ((x3 + (nI 1))).toNatClampNeg), .inl (exF E 0 ((x3 + (nI 2))).toNatClampNeg)] h (fun v3 h3 => SH h3 ∧ (CI l E d 0 0 mX12_option [.inr (some (0, 12, 63)), .inl (exF E 0 ((x3 + (nI 1))).toNatClampNeg), .inl (exF E 0 ((x3 + (nI 2))).toNatClampNeg)] h3 (fun v4 h4 => SH h4 ∧ ((v3 = v4 → LL_law_1209 l E (d + 1) bc bs x3 h4 Q) ∧ (¬ v3 = v4 → Q (nI 0) h4))))))))) : LL_law_511 l E (d + 1) (bc + 4) (bs + 73) x3 h Q := by
  refine z_aload_n (pc := 511) dL_law_511 rfl rfl ?_
  refine z_aload_n (pc := 512) dL_law_512 rfl rfl ?_
  refine z_iload_n (pc := 513) dL_law_513 rfl rfl ?_
  refine z_iconst (pc := 514) (v := (nI 1)) dL_law_514 (by decide) ?_
  refine z_iadd (pc := 515) dL_law_515 ?_
  have c1 := H.1
  replace H := H.2
  refine z_xald (pc := 516) dL_law_516 rfl c1 ?_
  refine z_aload_n (pc := 517) dL_law_517 rfl rfl ?_
  refine z_iload_n (pc := 518) dL_law_518 rfl rfl ?_
  refine z_iconst (pc := 519) (v := (nI 2)) dL_law_519 (by decide) ?_
  refine z_iadd (pc := 520) dL_law_520 ?_
  have c2 := H.1
  replace H := H.2
  refine z_xald (pc := 521) dL_law_521 rfl c2 ?_
  refine y_VI (pc := 522) (bc := bc) (bs := bs) (mc := 4) (ms := 73) (As := [.inl (exF E 0 ((x3 + (nI 1))).toNatClampNeg), .inl (exF E 0 ((x3 + (nI 2))).toNatClampNeg)]) (rest := []) dL_law_522 kX11_option lL_55 ⟨_, _, rfl⟩ rfl rfl (H.use (fun v3 h3 H => ?_))
  have S3 := H.1
  replace H := H.2
  refine z_aload_n (pc := 525) dL_law_525 rfl rfl ?_
  refine z_aload_n (pc := 526) dL_law_526 rfl rfl ?_
  refine z_iload_n (pc := 527) dL_law_527 rfl rfl ?_
  refine z_iconst (pc := 528) (v := (nI 1)) dL_law_528 (by decide) ?_
  refine z_iadd (pc := 529) dL_law_529 ?_
  refine z_xald (pc := 530) dL_law_530 rfl c1 ?_
  refine z_aload_n (pc := 531) dL_law_531 rfl rfl ?_
  refine z_iload_n (pc := 532) dL_law_532 rfl rfl ?_
  refine z_iconst (pc := 533) (v := (nI 2)) dL_law_533 (by decide) ?_
  refine z_iadd (pc := 534) dL_law_534 ?_
  refine z_xald (pc := 535) dL_law_535 rfl c2 ?_
  refine y_VI (pc := 536) (bc := bc) (bs := bs) (mc := 0) (ms := 0) (As := [.inl (exF E 0 ((x3 + (nI 1))).toNatClampNeg), .inl (exF E 0 ((x3 + (nI 2))).toNatClampNeg)]) (rest := [.inl v3]) dL_law_536 kX12_option lL_58 ⟨_, _, rfl⟩ rfl rfl (H.use (fun v4 h4 H => ?_))
  have S4 := H.1
  replace H := H.2
  refine z_icmp_eq (pc := 539) (tgt := 1209) dL_law_539 (by decide) (fun c5 => ?_) (fun c5 => ?_)
  · replace H := H.1 c5
    exact H
  · replace H := H.2 c5
    refine z_iconst (pc := 542) (v := (nI 0)) dL_law_542 (by decide) ?_
    exact z_iret (pc := 543) dL_law_543 rfl rfl ⟨_, rfl, H⟩

set_option maxRecDepth 20000 in
theorem bL_law_544 {l : Launch} {E : eE} {d bc bs : Nat} {h : aH} {Q : Int32 → aH → Prop} {x3 : Int32} (S : SH h) (H : (vp_in (x3 + (nI 1)) (exL E 0) ∧ (vp_in (x3 + (nI 2)) (exL E 0) ∧ (vp_in (x3 + (nI 3)) (exL E 0) ∧ (CI l E d 4 73 mX11_role [.inr (some (0, 11, 0)), .inl (exF E 0 ((x3 + (nI 1))).toNatClampNeg), .inl (exF E 0 ((x3 + (nI 2))).toNatClampNeg), .inl (exF E 0 ((x3 + (nI 3))).toNatClampNeg)] h (fun v4 h4 => SH h4 ∧ (CI l E d 0 0 mX12_role [.inr (some (0, 12, 63)), .inl (exF E 0 ((x3 + (nI 1))).toNatClampNeg), .inl (exF E 0 ((x3 + (nI 2))).toNatClampNeg), .inl (exF E 0 ((x3 + (nI 3))).toNatClampNeg)] h4 (fun v5 h5 => SH h5 ∧ ((v4 = v5 → LL_law_1209 l E (d + 1) bc bs x3 h5 Q) ∧ (¬ v4 = v5 → Q (nI 0) h5)))))))))) : LL_law_544 l E (d + 1) (bc + 4) (bs + 73) x3 h Q := by
  refine z_aload_n (pc := 544) dL_law_544 rfl rfl ?_
  refine z_aload_n (pc := 545) dL_law_545 rfl rfl ?_
  refine z_iload_n (pc := 546) dL_law_546 rfl rfl ?_
  refine z_iconst (pc := 547) (v := (nI 1)) dL_law_547 (by decide) ?_
  refine z_iadd (pc := 548) dL_law_548 ?_
  have c1 := H.1
  replace H := H.2
  refine z_xald (pc := 549) dL_law_549 rfl c1 ?_
  refine z_aload_n (pc := 550) dL_law_550 rfl rfl ?_
  refine z_iload_n (pc := 551) dL_law_551 rfl rfl ?_
  refine z_iconst (pc := 552) (v := (nI 2)) dL_law_552 (by decide) ?_
  refine z_iadd (pc := 553) dL_law_553 ?_
  have c2 := H.1
  replace H := H.2
  refine z_xald (pc := 554) dL_law_554 rfl c2 ?_
  refine z_aload_n (pc := 555) dL_law_555 rfl rfl ?_
  refine z_iload_n (pc := 556) dL_law_556 rfl rfl ?_
  refine z_iconst (pc := 557) (v := (nI 3)) dL_law_557 (by decide) ?_
  refine z_iadd (pc := 558) dL_law_558 ?_
  have c3 := H.1
  replace H := H.2
  refine z_xald (pc := 559) dL_law_559 rfl c3 ?_
  refine y_VI (pc := 560) (bc := bc) (bs := bs) (mc := 4) (ms := 73) (As := [.inl (exF E 0 ((x3 + (nI 1))).toNatClampNeg), .inl (exF E 0 ((x3 + (nI 2))).toNatClampNeg), .inl (exF E 0 ((x3 + (nI 3))).toNatClampNeg)]) (rest := []) dL_law_560 kX11_role lL_59 ⟨_, _, rfl⟩ rfl rfl (H.use (fun v4 h4 H => ?_))
  have S4 := H.1
  replace H := H.2
  refine z_aload_n (pc := 563) dL_law_563 rfl rfl ?_
  refine z_aload_n (pc := 564) dL_law_564 rfl rfl ?_
  refine z_iload_n (pc := 565) dL_law_565 rfl rfl ?_
  refine z_iconst (pc := 566) (v := (nI 1)) dL_law_566 (by decide) ?_
  refine z_iadd (pc := 567) dL_law_567 ?_
  refine z_xald (pc := 568) dL_law_568 rfl c1 ?_
  refine z_aload_n (pc := 569) dL_law_569 rfl rfl ?_
  refine z_iload_n (pc := 570) dL_law_570 rfl rfl ?_
  refine z_iconst (pc := 571) (v := (nI 2)) dL_law_571 (by decide) ?_
  refine z_iadd (pc := 572) dL_law_572 ?_
  refine z_xald (pc := 573) dL_law_573 rfl c2 ?_
  refine z_aload_n (pc := 574) dL_law_574 rfl rfl ?_
  refine z_iload_n (pc := 575) dL_law_575 rfl rfl ?_
  refine z_iconst (pc := 576) (v := (nI 3)) dL_law_576 (by decide) ?_
  refine z_iadd (pc := 577) dL_law_577 ?_
  refine z_xald (pc := 578) dL_law_578 rfl c3 ?_
  refine y_VI (pc := 579) (bc := bc) (bs := bs) (mc := 0) (ms := 0) (As := [.inl (exF E 0 ((x3 + (nI 1))).toNatClampNeg), .inl (exF E 0 ((x3 + (nI 2))).toNatClampNeg), .inl (exF E 0 ((x3 + (nI 3))).toNatClampNeg)]) (rest := [.inl v4]) dL_law_579 kX12_role lL_62 ⟨_, _, rfl⟩ rfl rfl (H.use (fun v5 h5 H => ?_))
  have S5 := H.1
  replace H := H.2
  refine z_icmp_eq (pc := 582) (tgt := 1209) dL_law_582 (by decide) (fun c6 => ?_) (fun c6 => ?_)
  · replace H := H.1 c6
    exact H
  · replace H := H.2 c6
    refine z_iconst (pc := 585) (v := (nI 0)) dL_law_585 (by decide) ?_
    exact z_iret (pc := 586) dL_law_586 rfl rfl ⟨_, rfl, H⟩

set_option maxRecDepth 20000 in
theorem bL_law_587 {l : Launch} {E : eE} {d bc bs : Nat} {h : aH} {Q : Int32 → aH → Prop} {x3 : Int32} (S : SH h) (H : (vp_in (x3 + (nI 1)) (exL E 0) ∧ (vp_in (x3 + (nI 2)) (exL E 0) ∧ (vp_in (x3 + (nI 3)) (exL E 0) ∧ (vp_in (x3 + (nI 4)) (exL E 0) ∧ (CI l E d 4 73 mX11_local [.inr (some (0, 11, 0)), .inl (exF E 0 ((x3 + (nI 1))).toNatClampNeg), .inl (exF E 0 ((x3 + (nI 2))).toNatClampNeg), .inl (exF E 0 ((x3 + (nI 3))).toNatClampNeg), .inl (exF E 0 ((x3 + (nI 4))).toNatClampNeg)] h (fun v5 h5 => SH h5 ∧ (CI l E d 0 0 mX12_local [.inr (some (0, 12, 63)), .inl (exF E 0 ((x3 + (nI 1))).toNatClampNeg), .inl (exF E 0 ((x3 + (nI 2))).toNatClampNeg), .inl (exF E 0 ((x3 + (nI 3))).toNatClampNeg), .inl (exF E 0 ((x3 + (nI 4))).toNatClampNeg)] h5 (fun v6 h6 => SH h6 ∧ ((v5 = v6 → LL_law_1209 l E (d + 1) bc bs x3 h6 Q) ∧ (¬ v5 = v6 → Q (nI 0) h6))))))))))) : LL_law_587 l E (d + 1) (bc + 4) (bs + 73) x3 h Q := by
  refine z_aload_n (pc := 587) dL_law_587 rfl rfl ?_
  refine z_aload_n (pc := 588) dL_law_588 rfl rfl ?_
  refine z_iload_n (pc := 589) dL_law_589 rfl rfl ?_
  refine z_iconst (pc := 590) (v := (nI 1)) dL_law_590 (by decide) ?_
  refine z_iadd (pc := 591) dL_law_591 ?_
  have c1 := H.1
  replace H := H.2
  refine z_xald (pc := 592) dL_law_592 rfl c1 ?_
  refine z_aload_n (pc := 593) dL_law_593 rfl rfl ?_
  refine z_iload_n (pc := 594) dL_law_594 rfl rfl ?_
  refine z_iconst (pc := 595) (v := (nI 2)) dL_law_595 (by decide) ?_
  refine z_iadd (pc := 596) dL_law_596 ?_
  have c2 := H.1
  replace H := H.2
  refine z_xald (pc := 597) dL_law_597 rfl c2 ?_
  refine z_aload_n (pc := 598) dL_law_598 rfl rfl ?_
  refine z_iload_n (pc := 599) dL_law_599 rfl rfl ?_
  refine z_iconst (pc := 600) (v := (nI 3)) dL_law_600 (by decide) ?_
  refine z_iadd (pc := 601) dL_law_601 ?_
  have c3 := H.1
  replace H := H.2
  refine z_xald (pc := 602) dL_law_602 rfl c3 ?_
  refine z_aload_n (pc := 603) dL_law_603 rfl rfl ?_
  refine z_iload_n (pc := 604) dL_law_604 rfl rfl ?_
  refine z_iconst (pc := 605) (v := (nI 4)) dL_law_605 (by decide) ?_
  refine z_iadd (pc := 606) dL_law_606 ?_
  have c4 := H.1
  replace H := H.2
  refine z_xald (pc := 607) dL_law_607 rfl c4 ?_
  refine y_VI (pc := 608) (bc := bc) (bs := bs) (mc := 4) (ms := 73) (As := [.inl (exF E 0 ((x3 + (nI 1))).toNatClampNeg), .inl (exF E 0 ((x3 + (nI 2))).toNatClampNeg), .inl (exF E 0 ((x3 + (nI 3))).toNatClampNeg), .inl (exF E 0 ((x3 + (nI 4))).toNatClampNeg)]) (rest := []) dL_law_608 kX11_local lL_63 ⟨_, _, rfl⟩ rfl rfl (H.use (fun v5 h5 H => ?_))
  have S5 := H.1
  replace H := H.2
  refine z_aload_n (pc := 611) dL_law_611 rfl rfl ?_
  refine z_aload_n (pc := 612) dL_law_612 rfl rfl ?_
  refine z_iload_n (pc := 613) dL_law_613 rfl rfl ?_
  refine z_iconst (pc := 614) (v := (nI 1)) dL_law_614 (by decide) ?_
  refine z_iadd (pc := 615) dL_law_615 ?_
  refine z_xald (pc := 616) dL_law_616 rfl c1 ?_
  refine z_aload_n (pc := 617) dL_law_617 rfl rfl ?_
  refine z_iload_n (pc := 618) dL_law_618 rfl rfl ?_
  refine z_iconst (pc := 619) (v := (nI 2)) dL_law_619 (by decide) ?_
  refine z_iadd (pc := 620) dL_law_620 ?_
  refine z_xald (pc := 621) dL_law_621 rfl c2 ?_
  refine z_aload_n (pc := 622) dL_law_622 rfl rfl ?_
  refine z_iload_n (pc := 623) dL_law_623 rfl rfl ?_
  refine z_iconst (pc := 624) (v := (nI 3)) dL_law_624 (by decide) ?_
  refine z_iadd (pc := 625) dL_law_625 ?_
  refine z_xald (pc := 626) dL_law_626 rfl c3 ?_
  refine z_aload_n (pc := 627) dL_law_627 rfl rfl ?_
  refine z_iload_n (pc := 628) dL_law_628 rfl rfl ?_
  refine z_iconst (pc := 629) (v := (nI 4)) dL_law_629 (by decide) ?_
  refine z_iadd (pc := 630) dL_law_630 ?_
  refine z_xald (pc := 631) dL_law_631 rfl c4 ?_
  refine y_VI (pc := 632) (bc := bc) (bs := bs) (mc := 0) (ms := 0) (As := [.inl (exF E 0 ((x3 + (nI 1))).toNatClampNeg), .inl (exF E 0 ((x3 + (nI 2))).toNatClampNeg), .inl (exF E 0 ((x3 + (nI 3))).toNatClampNeg), .inl (exF E 0 ((x3 + (nI 4))).toNatClampNeg)]) (rest := [.inl v5]) dL_law_632 kX12_local lL_67 ⟨_, _, rfl⟩ rfl rfl (H.use (fun v6 h6 H => ?_))
  have S6 := H.1
  replace H := H.2
  refine z_icmp_eq (pc := 635) (tgt := 1209) dL_law_635 (by decide) (fun c7 => ?_) (fun c7 => ?_)
  · replace H := H.1 c7
    exact H
  · replace H := H.2 c7
    refine z_iconst (pc := 638) (v := (nI 0)) dL_law_638 (by decide) ?_
    exact z_iret (pc := 639) dL_law_639 rfl rfl ⟨_, rfl, H⟩

set_option maxRecDepth 20000 in
theorem bL_law_640 {l : Launch} {E : eE} {d bc bs : Nat} {h : aH} {Q : Int32 → aH → Prop} {x3 : Int32} (S : SH h) (H : (vp_in (x3 + (nI 1)) (exL E 0) ∧ (vp_in (x3 + (nI 2)) (exL E 0) ∧ (vp_in (x3 + (nI 3)) (exL E 0) ∧ (vp_in (x3 + (nI 4)) (exL E 0) ∧ (vp_in (x3 + (nI 5)) (exL E 0) ∧ (CI l E d 4 73 mX11_when [.inr (some (0, 11, 0)), .inl (exF E 0 ((x3 + (nI 1))).toNatClampNeg), .inl (exF E 0 ((x3 + (nI 2))).toNatClampNeg), .inl (exF E 0 ((x3 + (nI 3))).toNatClampNeg), .inl (exF E 0 ((x3 + (nI 4))).toNatClampNeg), .inl (exF E 0 ((x3 + (nI 5))).toNatClampNeg)] h (fun v6 h6 => SH h6 ∧ (CI l E d 0 0 mX12_when [.inr (some (0, 12, 63)), .inl (exF E 0 ((x3 + (nI 1))).toNatClampNeg), .inl (exF E 0 ((x3 + (nI 2))).toNatClampNeg), .inl (exF E 0 ((x3 + (nI 3))).toNatClampNeg), .inl (exF E 0 ((x3 + (nI 4))).toNatClampNeg), .inl (exF E 0 ((x3 + (nI 5))).toNatClampNeg)] h6 (fun v7 h7 => SH h7 ∧ ((v6 = v7 → LL_law_1209 l E (d + 1) bc bs x3 h7 Q) ∧ (¬ v6 = v7 → Q (nI 0) h7)))))))))))) : LL_law_640 l E (d + 1) (bc + 4) (bs + 73) x3 h Q := by
  refine z_aload_n (pc := 640) dL_law_640 rfl rfl ?_
  refine z_aload_n (pc := 641) dL_law_641 rfl rfl ?_
  refine z_iload_n (pc := 642) dL_law_642 rfl rfl ?_
  refine z_iconst (pc := 643) (v := (nI 1)) dL_law_643 (by decide) ?_
  refine z_iadd (pc := 644) dL_law_644 ?_
  have c1 := H.1
  replace H := H.2
  refine z_xald (pc := 645) dL_law_645 rfl c1 ?_
  refine z_aload_n (pc := 646) dL_law_646 rfl rfl ?_
  refine z_iload_n (pc := 647) dL_law_647 rfl rfl ?_
  refine z_iconst (pc := 648) (v := (nI 2)) dL_law_648 (by decide) ?_
  refine z_iadd (pc := 649) dL_law_649 ?_
  have c2 := H.1
  replace H := H.2
  refine z_xald (pc := 650) dL_law_650 rfl c2 ?_
  refine z_aload_n (pc := 651) dL_law_651 rfl rfl ?_
  refine z_iload_n (pc := 652) dL_law_652 rfl rfl ?_
  refine z_iconst (pc := 653) (v := (nI 3)) dL_law_653 (by decide) ?_
  refine z_iadd (pc := 654) dL_law_654 ?_
  have c3 := H.1
  replace H := H.2
  refine z_xald (pc := 655) dL_law_655 rfl c3 ?_
  refine z_aload_n (pc := 656) dL_law_656 rfl rfl ?_
  refine z_iload_n (pc := 657) dL_law_657 rfl rfl ?_
  refine z_iconst (pc := 658) (v := (nI 4)) dL_law_658 (by decide) ?_
  refine z_iadd (pc := 659) dL_law_659 ?_
  have c4 := H.1
  replace H := H.2
  refine z_xald (pc := 660) dL_law_660 rfl c4 ?_
  refine z_aload_n (pc := 661) dL_law_661 rfl rfl ?_
  refine z_iload_n (pc := 662) dL_law_662 rfl rfl ?_
  refine z_iconst (pc := 663) (v := (nI 5)) dL_law_663 (by decide) ?_
  refine z_iadd (pc := 664) dL_law_664 ?_
  have c5 := H.1
  replace H := H.2
  refine z_xald (pc := 665) dL_law_665 rfl c5 ?_
  refine y_VI (pc := 666) (bc := bc) (bs := bs) (mc := 4) (ms := 73) (As := [.inl (exF E 0 ((x3 + (nI 1))).toNatClampNeg), .inl (exF E 0 ((x3 + (nI 2))).toNatClampNeg), .inl (exF E 0 ((x3 + (nI 3))).toNatClampNeg), .inl (exF E 0 ((x3 + (nI 4))).toNatClampNeg), .inl (exF E 0 ((x3 + (nI 5))).toNatClampNeg)]) (rest := []) dL_law_666 kX11_when lL_68 ⟨_, _, rfl⟩ rfl rfl (H.use (fun v6 h6 H => ?_))
  have S6 := H.1
  replace H := H.2
  refine z_aload_n (pc := 669) dL_law_669 rfl rfl ?_
  refine z_aload_n (pc := 670) dL_law_670 rfl rfl ?_
  refine z_iload_n (pc := 671) dL_law_671 rfl rfl ?_
  refine z_iconst (pc := 672) (v := (nI 1)) dL_law_672 (by decide) ?_
  refine z_iadd (pc := 673) dL_law_673 ?_
  refine z_xald (pc := 674) dL_law_674 rfl c1 ?_
  refine z_aload_n (pc := 675) dL_law_675 rfl rfl ?_
  refine z_iload_n (pc := 676) dL_law_676 rfl rfl ?_
  refine z_iconst (pc := 677) (v := (nI 2)) dL_law_677 (by decide) ?_
  refine z_iadd (pc := 678) dL_law_678 ?_
  refine z_xald (pc := 679) dL_law_679 rfl c2 ?_
  refine z_aload_n (pc := 680) dL_law_680 rfl rfl ?_
  refine z_iload_n (pc := 681) dL_law_681 rfl rfl ?_
  refine z_iconst (pc := 682) (v := (nI 3)) dL_law_682 (by decide) ?_
  refine z_iadd (pc := 683) dL_law_683 ?_
  refine z_xald (pc := 684) dL_law_684 rfl c3 ?_
  refine z_aload_n (pc := 685) dL_law_685 rfl rfl ?_
  refine z_iload_n (pc := 686) dL_law_686 rfl rfl ?_
  refine z_iconst (pc := 687) (v := (nI 4)) dL_law_687 (by decide) ?_
  refine z_iadd (pc := 688) dL_law_688 ?_
  refine z_xald (pc := 689) dL_law_689 rfl c4 ?_
  refine z_aload_n (pc := 690) dL_law_690 rfl rfl ?_
  refine z_iload_n (pc := 691) dL_law_691 rfl rfl ?_
  refine z_iconst (pc := 692) (v := (nI 5)) dL_law_692 (by decide) ?_
  refine z_iadd (pc := 693) dL_law_693 ?_
  refine z_xald (pc := 694) dL_law_694 rfl c5 ?_
  refine y_VI (pc := 695) (bc := bc) (bs := bs) (mc := 0) (ms := 0) (As := [.inl (exF E 0 ((x3 + (nI 1))).toNatClampNeg), .inl (exF E 0 ((x3 + (nI 2))).toNatClampNeg), .inl (exF E 0 ((x3 + (nI 3))).toNatClampNeg), .inl (exF E 0 ((x3 + (nI 4))).toNatClampNeg), .inl (exF E 0 ((x3 + (nI 5))).toNatClampNeg)]) (rest := [.inl v6]) dL_law_695 kX12_when lL_72 ⟨_, _, rfl⟩ rfl rfl (H.use (fun v7 h7 H => ?_))
  have S7 := H.1
  replace H := H.2
  refine z_icmp_eq (pc := 698) (tgt := 1209) dL_law_698 (by decide) (fun c8 => ?_) (fun c8 => ?_)
  · replace H := H.1 c8
    exact H
  · replace H := H.2 c8
    refine z_iconst (pc := 701) (v := (nI 0)) dL_law_701 (by decide) ?_
    exact z_iret (pc := 702) dL_law_702 rfl rfl ⟨_, rfl, H⟩

set_option maxRecDepth 20000 in
theorem bL_law_703 {l : Launch} {E : eE} {d bc bs : Nat} {h : aH} {Q : Int32 → aH → Prop} {x3 : Int32} (S : SH h) (H : (vp_in (x3 + (nI 1)) (exL E 0) ∧ (vp_in (x3 + (nI 2)) (exL E 0) ∧ (vp_in (x3 + (nI 3)) (exL E 0) ∧ (vp_in (x3 + (nI 4)) (exL E 0) ∧ (CI l E d 4 73 mX11_can [.inr (some (0, 11, 0)), .inl (exF E 0 ((x3 + (nI 1))).toNatClampNeg), .inl (exF E 0 ((x3 + (nI 2))).toNatClampNeg), .inl (exF E 0 ((x3 + (nI 3))).toNatClampNeg), .inl (exF E 0 ((x3 + (nI 4))).toNatClampNeg)] h (fun v5 h5 => SH h5 ∧ (CI l E d 0 0 mX12_can [.inr (some (0, 12, 63)), .inl (exF E 0 ((x3 + (nI 1))).toNatClampNeg), .inl (exF E 0 ((x3 + (nI 2))).toNatClampNeg), .inl (exF E 0 ((x3 + (nI 3))).toNatClampNeg), .inl (exF E 0 ((x3 + (nI 4))).toNatClampNeg)] h5 (fun v6 h6 => SH h6 ∧ ((v5 = v6 → LL_law_1209 l E (d + 1) bc bs x3 h6 Q) ∧ (¬ v5 = v6 → Q (nI 0) h6))))))))))) : LL_law_703 l E (d + 1) (bc + 4) (bs + 73) x3 h Q := by
  refine z_aload_n (pc := 703) dL_law_703 rfl rfl ?_
  refine z_aload_n (pc := 704) dL_law_704 rfl rfl ?_
  refine z_iload_n (pc := 705) dL_law_705 rfl rfl ?_
  refine z_iconst (pc := 706) (v := (nI 1)) dL_law_706 (by decide) ?_
  refine z_iadd (pc := 707) dL_law_707 ?_
  have c1 := H.1
  replace H := H.2
  refine z_xald (pc := 708) dL_law_708 rfl c1 ?_
  refine z_aload_n (pc := 709) dL_law_709 rfl rfl ?_
  refine z_iload_n (pc := 710) dL_law_710 rfl rfl ?_
  refine z_iconst (pc := 711) (v := (nI 2)) dL_law_711 (by decide) ?_
  refine z_iadd (pc := 712) dL_law_712 ?_
  have c2 := H.1
  replace H := H.2
  refine z_xald (pc := 713) dL_law_713 rfl c2 ?_
  refine z_aload_n (pc := 714) dL_law_714 rfl rfl ?_
  refine z_iload_n (pc := 715) dL_law_715 rfl rfl ?_
  refine z_iconst (pc := 716) (v := (nI 3)) dL_law_716 (by decide) ?_
  refine z_iadd (pc := 717) dL_law_717 ?_
  have c3 := H.1
  replace H := H.2
  refine z_xald (pc := 718) dL_law_718 rfl c3 ?_
  refine z_aload_n (pc := 719) dL_law_719 rfl rfl ?_
  refine z_iload_n (pc := 720) dL_law_720 rfl rfl ?_
  refine z_iconst (pc := 721) (v := (nI 4)) dL_law_721 (by decide) ?_
  refine z_iadd (pc := 722) dL_law_722 ?_
  have c4 := H.1
  replace H := H.2
  refine z_xald (pc := 723) dL_law_723 rfl c4 ?_
  refine y_VI (pc := 724) (bc := bc) (bs := bs) (mc := 4) (ms := 73) (As := [.inl (exF E 0 ((x3 + (nI 1))).toNatClampNeg), .inl (exF E 0 ((x3 + (nI 2))).toNatClampNeg), .inl (exF E 0 ((x3 + (nI 3))).toNatClampNeg), .inl (exF E 0 ((x3 + (nI 4))).toNatClampNeg)]) (rest := []) dL_law_724 kX11_can lL_73 ⟨_, _, rfl⟩ rfl rfl (H.use (fun v5 h5 H => ?_))
  have S5 := H.1
  replace H := H.2
  refine z_aload_n (pc := 727) dL_law_727 rfl rfl ?_
  refine z_aload_n (pc := 728) dL_law_728 rfl rfl ?_
  refine z_iload_n (pc := 729) dL_law_729 rfl rfl ?_
  refine z_iconst (pc := 730) (v := (nI 1)) dL_law_730 (by decide) ?_
  refine z_iadd (pc := 731) dL_law_731 ?_
  refine z_xald (pc := 732) dL_law_732 rfl c1 ?_
  refine z_aload_n (pc := 733) dL_law_733 rfl rfl ?_
  refine z_iload_n (pc := 734) dL_law_734 rfl rfl ?_
  refine z_iconst (pc := 735) (v := (nI 2)) dL_law_735 (by decide) ?_
  refine z_iadd (pc := 736) dL_law_736 ?_
  refine z_xald (pc := 737) dL_law_737 rfl c2 ?_
  refine z_aload_n (pc := 738) dL_law_738 rfl rfl ?_
  refine z_iload_n (pc := 739) dL_law_739 rfl rfl ?_
  refine z_iconst (pc := 740) (v := (nI 3)) dL_law_740 (by decide) ?_
  refine z_iadd (pc := 741) dL_law_741 ?_
  refine z_xald (pc := 742) dL_law_742 rfl c3 ?_
  refine z_aload_n (pc := 743) dL_law_743 rfl rfl ?_
  refine z_iload_n (pc := 744) dL_law_744 rfl rfl ?_
  refine z_iconst (pc := 745) (v := (nI 4)) dL_law_745 (by decide) ?_
  refine z_iadd (pc := 746) dL_law_746 ?_
  refine z_xald (pc := 747) dL_law_747 rfl c4 ?_
  refine y_VI (pc := 748) (bc := bc) (bs := bs) (mc := 0) (ms := 0) (As := [.inl (exF E 0 ((x3 + (nI 1))).toNatClampNeg), .inl (exF E 0 ((x3 + (nI 2))).toNatClampNeg), .inl (exF E 0 ((x3 + (nI 3))).toNatClampNeg), .inl (exF E 0 ((x3 + (nI 4))).toNatClampNeg)]) (rest := [.inl v5]) dL_law_748 kX12_can lL_76 ⟨_, _, rfl⟩ rfl rfl (H.use (fun v6 h6 H => ?_))
  have S6 := H.1
  replace H := H.2
  refine z_icmp_eq (pc := 751) (tgt := 1209) dL_law_751 (by decide) (fun c7 => ?_) (fun c7 => ?_)
  · replace H := H.1 c7
    exact H
  · replace H := H.2 c7
    refine z_iconst (pc := 754) (v := (nI 0)) dL_law_754 (by decide) ?_
    exact z_iret (pc := 755) dL_law_755 rfl rfl ⟨_, rfl, H⟩

set_option maxRecDepth 20000 in
theorem bL_law_756 {l : Launch} {E : eE} {d bc bs : Nat} {h : aH} {Q : Int32 → aH → Prop} {x3 : Int32} (S : SH h) (H : (vp_in (x3 + (nI 1)) (exL E 0) ∧ (vp_in (x3 + (nI 2)) (exL E 0) ∧ (vp_in (x3 + (nI 3)) (exL E 0) ∧ (vp_in (x3 + (nI 4)) (exL E 0) ∧ (CI l E d 4 73 mX11_cost [.inr (some (0, 11, 0)), .inl (exF E 0 ((x3 + (nI 1))).toNatClampNeg), .inl (exF E 0 ((x3 + (nI 2))).toNatClampNeg), .inl (exF E 0 ((x3 + (nI 3))).toNatClampNeg), .inl (exF E 0 ((x3 + (nI 4))).toNatClampNeg)] h (fun v5 h5 => SH h5 ∧ (CI l E d 0 0 mX12_cost [.inr (some (0, 12, 63)), .inl (exF E 0 ((x3 + (nI 1))).toNatClampNeg), .inl (exF E 0 ((x3 + (nI 2))).toNatClampNeg), .inl (exF E 0 ((x3 + (nI 3))).toNatClampNeg), .inl (exF E 0 ((x3 + (nI 4))).toNatClampNeg)] h5 (fun v6 h6 => SH h6 ∧ ((v5 = v6 → LL_law_1209 l E (d + 1) bc bs x3 h6 Q) ∧ (¬ v5 = v6 → Q (nI 0) h6))))))))))) : LL_law_756 l E (d + 1) (bc + 4) (bs + 73) x3 h Q := by
  refine z_aload_n (pc := 756) dL_law_756 rfl rfl ?_
  refine z_aload_n (pc := 757) dL_law_757 rfl rfl ?_
  refine z_iload_n (pc := 758) dL_law_758 rfl rfl ?_
  refine z_iconst (pc := 759) (v := (nI 1)) dL_law_759 (by decide) ?_
  refine z_iadd (pc := 760) dL_law_760 ?_
  have c1 := H.1
  replace H := H.2
  refine z_xald (pc := 761) dL_law_761 rfl c1 ?_
  refine z_aload_n (pc := 762) dL_law_762 rfl rfl ?_
  refine z_iload_n (pc := 763) dL_law_763 rfl rfl ?_
  refine z_iconst (pc := 764) (v := (nI 2)) dL_law_764 (by decide) ?_
  refine z_iadd (pc := 765) dL_law_765 ?_
  have c2 := H.1
  replace H := H.2
  refine z_xald (pc := 766) dL_law_766 rfl c2 ?_
  refine z_aload_n (pc := 767) dL_law_767 rfl rfl ?_
  refine z_iload_n (pc := 768) dL_law_768 rfl rfl ?_
  refine z_iconst (pc := 769) (v := (nI 3)) dL_law_769 (by decide) ?_
  refine z_iadd (pc := 770) dL_law_770 ?_
  have c3 := H.1
  replace H := H.2
  refine z_xald (pc := 771) dL_law_771 rfl c3 ?_
  refine z_aload_n (pc := 772) dL_law_772 rfl rfl ?_
  refine z_iload_n (pc := 773) dL_law_773 rfl rfl ?_
  refine z_iconst (pc := 774) (v := (nI 4)) dL_law_774 (by decide) ?_
  refine z_iadd (pc := 775) dL_law_775 ?_
  have c4 := H.1
  replace H := H.2
  refine z_xald (pc := 776) dL_law_776 rfl c4 ?_
  refine y_VI (pc := 777) (bc := bc) (bs := bs) (mc := 4) (ms := 73) (As := [.inl (exF E 0 ((x3 + (nI 1))).toNatClampNeg), .inl (exF E 0 ((x3 + (nI 2))).toNatClampNeg), .inl (exF E 0 ((x3 + (nI 3))).toNatClampNeg), .inl (exF E 0 ((x3 + (nI 4))).toNatClampNeg)]) (rest := []) dL_law_777 kX11_cost lL_77 ⟨_, _, rfl⟩ rfl rfl (H.use (fun v5 h5 H => ?_))
  have S5 := H.1
  replace H := H.2
  refine z_aload_n (pc := 780) dL_law_780 rfl rfl ?_
  refine z_aload_n (pc := 781) dL_law_781 rfl rfl ?_
  refine z_iload_n (pc := 782) dL_law_782 rfl rfl ?_
  refine z_iconst (pc := 783) (v := (nI 1)) dL_law_783 (by decide) ?_
  refine z_iadd (pc := 784) dL_law_784 ?_
  refine z_xald (pc := 785) dL_law_785 rfl c1 ?_
  refine z_aload_n (pc := 786) dL_law_786 rfl rfl ?_
  refine z_iload_n (pc := 787) dL_law_787 rfl rfl ?_
  refine z_iconst (pc := 788) (v := (nI 2)) dL_law_788 (by decide) ?_
  refine z_iadd (pc := 789) dL_law_789 ?_
  refine z_xald (pc := 790) dL_law_790 rfl c2 ?_
  refine z_aload_n (pc := 791) dL_law_791 rfl rfl ?_
  refine z_iload_n (pc := 792) dL_law_792 rfl rfl ?_
  refine z_iconst (pc := 793) (v := (nI 3)) dL_law_793 (by decide) ?_
  refine z_iadd (pc := 794) dL_law_794 ?_
  refine z_xald (pc := 795) dL_law_795 rfl c3 ?_
  refine z_aload_n (pc := 796) dL_law_796 rfl rfl ?_
  refine z_iload_n (pc := 797) dL_law_797 rfl rfl ?_
  refine z_iconst (pc := 798) (v := (nI 4)) dL_law_798 (by decide) ?_
  refine z_iadd (pc := 799) dL_law_799 ?_
  refine z_xald (pc := 800) dL_law_800 rfl c4 ?_
  refine y_VI (pc := 801) (bc := bc) (bs := bs) (mc := 0) (ms := 0) (As := [.inl (exF E 0 ((x3 + (nI 1))).toNatClampNeg), .inl (exF E 0 ((x3 + (nI 2))).toNatClampNeg), .inl (exF E 0 ((x3 + (nI 3))).toNatClampNeg), .inl (exF E 0 ((x3 + (nI 4))).toNatClampNeg)]) (rest := [.inl v5]) dL_law_801 kX12_cost lL_80 ⟨_, _, rfl⟩ rfl rfl (H.use (fun v6 h6 H => ?_))
  have S6 := H.1
  replace H := H.2
  refine z_icmp_eq (pc := 804) (tgt := 1209) dL_law_804 (by decide) (fun c7 => ?_) (fun c7 => ?_)
  · replace H := H.1 c7
    exact H
  · replace H := H.2 c7
    refine z_iconst (pc := 807) (v := (nI 0)) dL_law_807 (by decide) ?_
    exact z_iret (pc := 808) dL_law_808 rfl rfl ⟨_, rfl, H⟩

set_option maxRecDepth 20000 in
theorem bL_law_809 {l : Launch} {E : eE} {d bc bs : Nat} {h : aH} {Q : Int32 → aH → Prop} {x3 : Int32} (S : SH h) (H : (vp_in (x3 + (nI 1)) (exL E 0) ∧ (vp_in (x3 + (nI 2)) (exL E 0) ∧ (vp_in (x3 + (nI 3)) (exL E 0) ∧ (CI l E d 4 73 mX11_span [.inr (some (0, 11, 0)), .inl (exF E 0 ((x3 + (nI 1))).toNatClampNeg), .inl (exF E 0 ((x3 + (nI 2))).toNatClampNeg), .inl (exF E 0 ((x3 + (nI 3))).toNatClampNeg)] h (fun v4 h4 => SH h4 ∧ (CI l E d 0 0 mX12_span [.inr (some (0, 12, 63)), .inl (exF E 0 ((x3 + (nI 1))).toNatClampNeg), .inl (exF E 0 ((x3 + (nI 2))).toNatClampNeg), .inl (exF E 0 ((x3 + (nI 3))).toNatClampNeg)] h4 (fun v5 h5 => SH h5 ∧ ((v4 = v5 → LL_law_1209 l E (d + 1) bc bs x3 h5 Q) ∧ (¬ v4 = v5 → Q (nI 0) h5)))))))))) : LL_law_809 l E (d + 1) (bc + 4) (bs + 73) x3 h Q := by
  refine z_aload_n (pc := 809) dL_law_809 rfl rfl ?_
  refine z_aload_n (pc := 810) dL_law_810 rfl rfl ?_
  refine z_iload_n (pc := 811) dL_law_811 rfl rfl ?_
  refine z_iconst (pc := 812) (v := (nI 1)) dL_law_812 (by decide) ?_
  refine z_iadd (pc := 813) dL_law_813 ?_
  have c1 := H.1
  replace H := H.2
  refine z_xald (pc := 814) dL_law_814 rfl c1 ?_
  refine z_aload_n (pc := 815) dL_law_815 rfl rfl ?_
  refine z_iload_n (pc := 816) dL_law_816 rfl rfl ?_
  refine z_iconst (pc := 817) (v := (nI 2)) dL_law_817 (by decide) ?_
  refine z_iadd (pc := 818) dL_law_818 ?_
  have c2 := H.1
  replace H := H.2
  refine z_xald (pc := 819) dL_law_819 rfl c2 ?_
  refine z_aload_n (pc := 820) dL_law_820 rfl rfl ?_
  refine z_iload_n (pc := 821) dL_law_821 rfl rfl ?_
  refine z_iconst (pc := 822) (v := (nI 3)) dL_law_822 (by decide) ?_
  refine z_iadd (pc := 823) dL_law_823 ?_
  have c3 := H.1
  replace H := H.2
  refine z_xald (pc := 824) dL_law_824 rfl c3 ?_
  refine y_VI (pc := 825) (bc := bc) (bs := bs) (mc := 4) (ms := 73) (As := [.inl (exF E 0 ((x3 + (nI 1))).toNatClampNeg), .inl (exF E 0 ((x3 + (nI 2))).toNatClampNeg), .inl (exF E 0 ((x3 + (nI 3))).toNatClampNeg)]) (rest := []) dL_law_825 kX11_span lL_81 ⟨_, _, rfl⟩ rfl rfl (H.use (fun v4 h4 H => ?_))
  have S4 := H.1
  replace H := H.2
  refine z_aload_n (pc := 828) dL_law_828 rfl rfl ?_
  refine z_aload_n (pc := 829) dL_law_829 rfl rfl ?_
  refine z_iload_n (pc := 830) dL_law_830 rfl rfl ?_
  refine z_iconst (pc := 831) (v := (nI 1)) dL_law_831 (by decide) ?_
  refine z_iadd (pc := 832) dL_law_832 ?_
  refine z_xald (pc := 833) dL_law_833 rfl c1 ?_
  refine z_aload_n (pc := 834) dL_law_834 rfl rfl ?_
  refine z_iload_n (pc := 835) dL_law_835 rfl rfl ?_
  refine z_iconst (pc := 836) (v := (nI 2)) dL_law_836 (by decide) ?_
  refine z_iadd (pc := 837) dL_law_837 ?_
  refine z_xald (pc := 838) dL_law_838 rfl c2 ?_
  refine z_aload_n (pc := 839) dL_law_839 rfl rfl ?_
  refine z_iload_n (pc := 840) dL_law_840 rfl rfl ?_
  refine z_iconst (pc := 841) (v := (nI 3)) dL_law_841 (by decide) ?_
  refine z_iadd (pc := 842) dL_law_842 ?_
  refine z_xald (pc := 843) dL_law_843 rfl c3 ?_
  refine y_VI (pc := 844) (bc := bc) (bs := bs) (mc := 0) (ms := 0) (As := [.inl (exF E 0 ((x3 + (nI 1))).toNatClampNeg), .inl (exF E 0 ((x3 + (nI 2))).toNatClampNeg), .inl (exF E 0 ((x3 + (nI 3))).toNatClampNeg)]) (rest := [.inl v4]) dL_law_844 kX12_span lL_84 ⟨_, _, rfl⟩ rfl rfl (H.use (fun v5 h5 H => ?_))
  have S5 := H.1
  replace H := H.2
  refine z_icmp_eq (pc := 847) (tgt := 1209) dL_law_847 (by decide) (fun c6 => ?_) (fun c6 => ?_)
  · replace H := H.1 c6
    exact H
  · replace H := H.2 c6
    refine z_iconst (pc := 850) (v := (nI 0)) dL_law_850 (by decide) ?_
    exact z_iret (pc := 851) dL_law_851 rfl rfl ⟨_, rfl, H⟩

set_option maxRecDepth 20000 in
theorem bL_law_852 {l : Launch} {E : eE} {d bc bs : Nat} {h : aH} {Q : Int32 → aH → Prop} {x3 : Int32} (S : SH h) (H : (vp_in (x3 + (nI 1)) (exL E 0) ∧ (vp_in (x3 + (nI 2)) (exL E 0) ∧ (vp_in (x3 + (nI 3)) (exL E 0) ∧ (vp_in (x3 + (nI 4)) (exL E 0) ∧ (vp_in (x3 + (nI 5)) (exL E 0) ∧ (CI l E d 4 73 mX11_fits [.inr (some (0, 11, 0)), .inl (exF E 0 ((x3 + (nI 1))).toNatClampNeg), .inl (exF E 0 ((x3 + (nI 2))).toNatClampNeg), .inl (exF E 0 ((x3 + (nI 3))).toNatClampNeg), .inl (exF E 0 ((x3 + (nI 4))).toNatClampNeg), .inl (exF E 0 ((x3 + (nI 5))).toNatClampNeg)] h (fun v6 h6 => SH h6 ∧ (CI l E d 0 0 mX12_fits [.inr (some (0, 12, 63)), .inl (exF E 0 ((x3 + (nI 1))).toNatClampNeg), .inl (exF E 0 ((x3 + (nI 2))).toNatClampNeg), .inl (exF E 0 ((x3 + (nI 3))).toNatClampNeg), .inl (exF E 0 ((x3 + (nI 4))).toNatClampNeg), .inl (exF E 0 ((x3 + (nI 5))).toNatClampNeg)] h6 (fun v7 h7 => SH h7 ∧ ((v6 = v7 → LL_law_1209 l E (d + 1) bc bs x3 h7 Q) ∧ (¬ v6 = v7 → Q (nI 0) h7)))))))))))) : LL_law_852 l E (d + 1) (bc + 4) (bs + 73) x3 h Q := by
  refine z_aload_n (pc := 852) dL_law_852 rfl rfl ?_
  refine z_aload_n (pc := 853) dL_law_853 rfl rfl ?_
  refine z_iload_n (pc := 854) dL_law_854 rfl rfl ?_
  refine z_iconst (pc := 855) (v := (nI 1)) dL_law_855 (by decide) ?_
  refine z_iadd (pc := 856) dL_law_856 ?_
  have c1 := H.1
  replace H := H.2
  refine z_xald (pc := 857) dL_law_857 rfl c1 ?_
  refine z_aload_n (pc := 858) dL_law_858 rfl rfl ?_
  refine z_iload_n (pc := 859) dL_law_859 rfl rfl ?_
  refine z_iconst (pc := 860) (v := (nI 2)) dL_law_860 (by decide) ?_
  refine z_iadd (pc := 861) dL_law_861 ?_
  have c2 := H.1
  replace H := H.2
  refine z_xald (pc := 862) dL_law_862 rfl c2 ?_
  refine z_aload_n (pc := 863) dL_law_863 rfl rfl ?_
  refine z_iload_n (pc := 864) dL_law_864 rfl rfl ?_
  refine z_iconst (pc := 865) (v := (nI 3)) dL_law_865 (by decide) ?_
  refine z_iadd (pc := 866) dL_law_866 ?_
  have c3 := H.1
  replace H := H.2
  refine z_xald (pc := 867) dL_law_867 rfl c3 ?_
  refine z_aload_n (pc := 868) dL_law_868 rfl rfl ?_
  refine z_iload_n (pc := 869) dL_law_869 rfl rfl ?_
  refine z_iconst (pc := 870) (v := (nI 4)) dL_law_870 (by decide) ?_
  refine z_iadd (pc := 871) dL_law_871 ?_
  have c4 := H.1
  replace H := H.2
  refine z_xald (pc := 872) dL_law_872 rfl c4 ?_
  refine z_aload_n (pc := 873) dL_law_873 rfl rfl ?_
  refine z_iload_n (pc := 874) dL_law_874 rfl rfl ?_
  refine z_iconst (pc := 875) (v := (nI 5)) dL_law_875 (by decide) ?_
  refine z_iadd (pc := 876) dL_law_876 ?_
  have c5 := H.1
  replace H := H.2
  refine z_xald (pc := 877) dL_law_877 rfl c5 ?_
  refine y_VI (pc := 878) (bc := bc) (bs := bs) (mc := 4) (ms := 73) (As := [.inl (exF E 0 ((x3 + (nI 1))).toNatClampNeg), .inl (exF E 0 ((x3 + (nI 2))).toNatClampNeg), .inl (exF E 0 ((x3 + (nI 3))).toNatClampNeg), .inl (exF E 0 ((x3 + (nI 4))).toNatClampNeg), .inl (exF E 0 ((x3 + (nI 5))).toNatClampNeg)]) (rest := []) dL_law_878 kX11_fits lL_85 ⟨_, _, rfl⟩ rfl rfl (H.use (fun v6 h6 H => ?_))
  have S6 := H.1
  replace H := H.2
  refine z_aload_n (pc := 881) dL_law_881 rfl rfl ?_
  refine z_aload_n (pc := 882) dL_law_882 rfl rfl ?_
  refine z_iload_n (pc := 883) dL_law_883 rfl rfl ?_
  refine z_iconst (pc := 884) (v := (nI 1)) dL_law_884 (by decide) ?_
  refine z_iadd (pc := 885) dL_law_885 ?_
  refine z_xald (pc := 886) dL_law_886 rfl c1 ?_
  refine z_aload_n (pc := 887) dL_law_887 rfl rfl ?_
  refine z_iload_n (pc := 888) dL_law_888 rfl rfl ?_
  refine z_iconst (pc := 889) (v := (nI 2)) dL_law_889 (by decide) ?_
  refine z_iadd (pc := 890) dL_law_890 ?_
  refine z_xald (pc := 891) dL_law_891 rfl c2 ?_
  refine z_aload_n (pc := 892) dL_law_892 rfl rfl ?_
  refine z_iload_n (pc := 893) dL_law_893 rfl rfl ?_
  refine z_iconst (pc := 894) (v := (nI 3)) dL_law_894 (by decide) ?_
  refine z_iadd (pc := 895) dL_law_895 ?_
  refine z_xald (pc := 896) dL_law_896 rfl c3 ?_
  refine z_aload_n (pc := 897) dL_law_897 rfl rfl ?_
  refine z_iload_n (pc := 898) dL_law_898 rfl rfl ?_
  refine z_iconst (pc := 899) (v := (nI 4)) dL_law_899 (by decide) ?_
  refine z_iadd (pc := 900) dL_law_900 ?_
  refine z_xald (pc := 901) dL_law_901 rfl c4 ?_
  refine z_aload_n (pc := 902) dL_law_902 rfl rfl ?_
  refine z_iload_n (pc := 903) dL_law_903 rfl rfl ?_
  refine z_iconst (pc := 904) (v := (nI 5)) dL_law_904 (by decide) ?_
  refine z_iadd (pc := 905) dL_law_905 ?_
  refine z_xald (pc := 906) dL_law_906 rfl c5 ?_
  refine y_VI (pc := 907) (bc := bc) (bs := bs) (mc := 0) (ms := 0) (As := [.inl (exF E 0 ((x3 + (nI 1))).toNatClampNeg), .inl (exF E 0 ((x3 + (nI 2))).toNatClampNeg), .inl (exF E 0 ((x3 + (nI 3))).toNatClampNeg), .inl (exF E 0 ((x3 + (nI 4))).toNatClampNeg), .inl (exF E 0 ((x3 + (nI 5))).toNatClampNeg)]) (rest := [.inl v6]) dL_law_907 kX12_fits lL_88 ⟨_, _, rfl⟩ rfl rfl (H.use (fun v7 h7 H => ?_))
  have S7 := H.1
  replace H := H.2
  refine z_icmp_eq (pc := 910) (tgt := 1209) dL_law_910 (by decide) (fun c8 => ?_) (fun c8 => ?_)
  · replace H := H.1 c8
    exact H
  · replace H := H.2 c8
    refine z_iconst (pc := 913) (v := (nI 0)) dL_law_913 (by decide) ?_
    exact z_iret (pc := 914) dL_law_914 rfl rfl ⟨_, rfl, H⟩

set_option maxRecDepth 20000 in
theorem bL_law_915 {l : Launch} {E : eE} {d bc bs : Nat} {h : aH} {Q : Int32 → aH → Prop} {x3 : Int32} (S : SH h) (H : (vp_in (x3 + (nI 1)) (exL E 0) ∧ (vp_in (x3 + (nI 2)) (exL E 0) ∧ (vp_in (x3 + (nI 3)) (exL E 0) ∧ (vp_in (x3 + (nI 4)) (exL E 0) ∧ (CI l E d 4 73 mX11_plan [.inr (some (0, 11, 0)), .inl (exF E 0 ((x3 + (nI 1))).toNatClampNeg), .inl (exF E 0 ((x3 + (nI 2))).toNatClampNeg), .inl (exF E 0 ((x3 + (nI 3))).toNatClampNeg), .inl (exF E 0 ((x3 + (nI 4))).toNatClampNeg)] h (fun v5 h5 => SH h5 ∧ (CI l E d 0 0 mX12_plan [.inr (some (0, 12, 63)), .inl (exF E 0 ((x3 + (nI 1))).toNatClampNeg), .inl (exF E 0 ((x3 + (nI 2))).toNatClampNeg), .inl (exF E 0 ((x3 + (nI 3))).toNatClampNeg), .inl (exF E 0 ((x3 + (nI 4))).toNatClampNeg)] h5 (fun v6 h6 => SH h6 ∧ ((v5 = v6 → LL_law_1209 l E (d + 1) bc bs x3 h6 Q) ∧ (¬ v5 = v6 → Q (nI 0) h6))))))))))) : LL_law_915 l E (d + 1) (bc + 4) (bs + 73) x3 h Q := by
  refine z_aload_n (pc := 915) dL_law_915 rfl rfl ?_
  refine z_aload_n (pc := 916) dL_law_916 rfl rfl ?_
  refine z_iload_n (pc := 917) dL_law_917 rfl rfl ?_
  refine z_iconst (pc := 918) (v := (nI 1)) dL_law_918 (by decide) ?_
  refine z_iadd (pc := 919) dL_law_919 ?_
  have c1 := H.1
  replace H := H.2
  refine z_xald (pc := 920) dL_law_920 rfl c1 ?_
  refine z_aload_n (pc := 921) dL_law_921 rfl rfl ?_
  refine z_iload_n (pc := 922) dL_law_922 rfl rfl ?_
  refine z_iconst (pc := 923) (v := (nI 2)) dL_law_923 (by decide) ?_
  refine z_iadd (pc := 924) dL_law_924 ?_
  have c2 := H.1
  replace H := H.2
  refine z_xald (pc := 925) dL_law_925 rfl c2 ?_
  refine z_aload_n (pc := 926) dL_law_926 rfl rfl ?_
  refine z_iload_n (pc := 927) dL_law_927 rfl rfl ?_
  refine z_iconst (pc := 928) (v := (nI 3)) dL_law_928 (by decide) ?_
  refine z_iadd (pc := 929) dL_law_929 ?_
  have c3 := H.1
  replace H := H.2
  refine z_xald (pc := 930) dL_law_930 rfl c3 ?_
  refine z_aload_n (pc := 931) dL_law_931 rfl rfl ?_
  refine z_iload_n (pc := 932) dL_law_932 rfl rfl ?_
  refine z_iconst (pc := 933) (v := (nI 4)) dL_law_933 (by decide) ?_
  refine z_iadd (pc := 934) dL_law_934 ?_
  have c4 := H.1
  replace H := H.2
  refine z_xald (pc := 935) dL_law_935 rfl c4 ?_
  refine y_VI (pc := 936) (bc := bc) (bs := bs) (mc := 4) (ms := 73) (As := [.inl (exF E 0 ((x3 + (nI 1))).toNatClampNeg), .inl (exF E 0 ((x3 + (nI 2))).toNatClampNeg), .inl (exF E 0 ((x3 + (nI 3))).toNatClampNeg), .inl (exF E 0 ((x3 + (nI 4))).toNatClampNeg)]) (rest := []) dL_law_936 kX11_plan lL_89 ⟨_, _, rfl⟩ rfl rfl (H.use (fun v5 h5 H => ?_))
  have S5 := H.1
  replace H := H.2
  refine z_aload_n (pc := 939) dL_law_939 rfl rfl ?_
  refine z_aload_n (pc := 940) dL_law_940 rfl rfl ?_
  refine z_iload_n (pc := 941) dL_law_941 rfl rfl ?_
  refine z_iconst (pc := 942) (v := (nI 1)) dL_law_942 (by decide) ?_
  refine z_iadd (pc := 943) dL_law_943 ?_
  refine z_xald (pc := 944) dL_law_944 rfl c1 ?_
  refine z_aload_n (pc := 945) dL_law_945 rfl rfl ?_
  refine z_iload_n (pc := 946) dL_law_946 rfl rfl ?_
  refine z_iconst (pc := 947) (v := (nI 2)) dL_law_947 (by decide) ?_
  refine z_iadd (pc := 948) dL_law_948 ?_
  refine z_xald (pc := 949) dL_law_949 rfl c2 ?_
  refine z_aload_n (pc := 950) dL_law_950 rfl rfl ?_
  refine z_iload_n (pc := 951) dL_law_951 rfl rfl ?_
  refine z_iconst (pc := 952) (v := (nI 3)) dL_law_952 (by decide) ?_
  refine z_iadd (pc := 953) dL_law_953 ?_
  refine z_xald (pc := 954) dL_law_954 rfl c3 ?_
  refine z_aload_n (pc := 955) dL_law_955 rfl rfl ?_
  refine z_iload_n (pc := 956) dL_law_956 rfl rfl ?_
  refine z_iconst (pc := 957) (v := (nI 4)) dL_law_957 (by decide) ?_
  refine z_iadd (pc := 958) dL_law_958 ?_
  refine z_xald (pc := 959) dL_law_959 rfl c4 ?_
  refine y_VI (pc := 960) (bc := bc) (bs := bs) (mc := 0) (ms := 0) (As := [.inl (exF E 0 ((x3 + (nI 1))).toNatClampNeg), .inl (exF E 0 ((x3 + (nI 2))).toNatClampNeg), .inl (exF E 0 ((x3 + (nI 3))).toNatClampNeg), .inl (exF E 0 ((x3 + (nI 4))).toNatClampNeg)]) (rest := [.inl v5]) dL_law_960 kX12_plan lL_92 ⟨_, _, rfl⟩ rfl rfl (H.use (fun v6 h6 H => ?_))
  have S6 := H.1
  replace H := H.2
  refine z_icmp_eq (pc := 963) (tgt := 1209) dL_law_963 (by decide) (fun c7 => ?_) (fun c7 => ?_)
  · replace H := H.1 c7
    exact H
  · replace H := H.2 c7
    refine z_iconst (pc := 966) (v := (nI 0)) dL_law_966 (by decide) ?_
    exact z_iret (pc := 967) dL_law_967 rfl rfl ⟨_, rfl, H⟩

set_option maxRecDepth 20000 in
theorem bL_law_968 {l : Launch} {E : eE} {d bc bs : Nat} {h : aH} {Q : Int32 → aH → Prop} {x3 : Int32} (S : SH h) (H : (vp_in (x3 + (nI 1)) (exL E 0) ∧ (CI l E d 4 73 mX11_stuck [.inr (some (0, 11, 0)), .inl (exF E 0 ((x3 + (nI 1))).toNatClampNeg)] h (fun v2 h2 => SH h2 ∧ (CI l E d 0 0 mX12_stuck [.inr (some (0, 12, 63)), .inl (exF E 0 ((x3 + (nI 1))).toNatClampNeg)] h2 (fun v3 h3 => SH h3 ∧ ((v2 = v3 → LL_law_1209 l E (d + 1) bc bs x3 h3 Q) ∧ (¬ v2 = v3 → Q (nI 0) h3)))))))) : LL_law_968 l E (d + 1) (bc + 4) (bs + 73) x3 h Q := by
  refine z_aload_n (pc := 968) dL_law_968 rfl rfl ?_
  refine z_aload_n (pc := 969) dL_law_969 rfl rfl ?_
  refine z_iload_n (pc := 970) dL_law_970 rfl rfl ?_
  refine z_iconst (pc := 971) (v := (nI 1)) dL_law_971 (by decide) ?_
  refine z_iadd (pc := 972) dL_law_972 ?_
  have c1 := H.1
  replace H := H.2
  refine z_xald (pc := 973) dL_law_973 rfl c1 ?_
  refine y_VI (pc := 974) (bc := bc) (bs := bs) (mc := 4) (ms := 73) (As := [.inl (exF E 0 ((x3 + (nI 1))).toNatClampNeg)]) (rest := []) dL_law_974 kX11_stuck lL_93 ⟨_, _, rfl⟩ rfl rfl (H.use (fun v2 h2 H => ?_))
  have S2 := H.1
  replace H := H.2
  refine z_aload_n (pc := 977) dL_law_977 rfl rfl ?_
  refine z_aload_n (pc := 978) dL_law_978 rfl rfl ?_
  refine z_iload_n (pc := 979) dL_law_979 rfl rfl ?_
  refine z_iconst (pc := 980) (v := (nI 1)) dL_law_980 (by decide) ?_
  refine z_iadd (pc := 981) dL_law_981 ?_
  refine z_xald (pc := 982) dL_law_982 rfl c1 ?_
  refine y_VI (pc := 983) (bc := bc) (bs := bs) (mc := 0) (ms := 0) (As := [.inl (exF E 0 ((x3 + (nI 1))).toNatClampNeg)]) (rest := [.inl v2]) dL_law_983 kX12_stuck lL_96 ⟨_, _, rfl⟩ rfl rfl (H.use (fun v3 h3 H => ?_))
  have S3 := H.1
  replace H := H.2
  refine z_icmp_eq (pc := 986) (tgt := 1209) dL_law_986 (by decide) (fun c4 => ?_) (fun c4 => ?_)
  · replace H := H.1 c4
    exact H
  · replace H := H.2 c4
    refine z_iconst (pc := 989) (v := (nI 0)) dL_law_989 (by decide) ?_
    exact z_iret (pc := 990) dL_law_990 rfl rfl ⟨_, rfl, H⟩

set_option maxRecDepth 20000 in
theorem bL_law_991 {l : Launch} {E : eE} {d bc bs : Nat} {h : aH} {Q : Int32 → aH → Prop} {x3 : Int32} (S : SH h) (H : (vp_in (x3 + (nI 1)) (exL E 0) ∧ (vp_in (x3 + (nI 2)) (exL E 0) ∧ (CI l E d 4 73 mX11_move [.inr (some (0, 11, 0)), .inl (exF E 0 ((x3 + (nI 1))).toNatClampNeg), .inl (exF E 0 ((x3 + (nI 2))).toNatClampNeg)] h (fun v3 h3 => SH h3 ∧ (CI l E d 0 0 mX12_move [.inr (some (0, 12, 63)), .inl (exF E 0 ((x3 + (nI 1))).toNatClampNeg), .inl (exF E 0 ((x3 + (nI 2))).toNatClampNeg)] h3 (fun v4 h4 => SH h4 ∧ ((v3 = v4 → LL_law_1209 l E (d + 1) bc bs x3 h4 Q) ∧ (¬ v3 = v4 → Q (nI 0) h4))))))))) : LL_law_991 l E (d + 1) (bc + 4) (bs + 73) x3 h Q := by
  refine z_aload_n (pc := 991) dL_law_991 rfl rfl ?_
  refine z_aload_n (pc := 992) dL_law_992 rfl rfl ?_
  refine z_iload_n (pc := 993) dL_law_993 rfl rfl ?_
  refine z_iconst (pc := 994) (v := (nI 1)) dL_law_994 (by decide) ?_
  refine z_iadd (pc := 995) dL_law_995 ?_
  have c1 := H.1
  replace H := H.2
  refine z_xald (pc := 996) dL_law_996 rfl c1 ?_
  refine z_aload_n (pc := 997) dL_law_997 rfl rfl ?_
  refine z_iload_n (pc := 998) dL_law_998 rfl rfl ?_
  refine z_iconst (pc := 999) (v := (nI 2)) dL_law_999 (by decide) ?_
  refine z_iadd (pc := 1000) dL_law_1000 ?_
  have c2 := H.1
  replace H := H.2
  refine z_xald (pc := 1001) dL_law_1001 rfl c2 ?_
  refine y_VI (pc := 1002) (bc := bc) (bs := bs) (mc := 4) (ms := 73) (As := [.inl (exF E 0 ((x3 + (nI 1))).toNatClampNeg), .inl (exF E 0 ((x3 + (nI 2))).toNatClampNeg)]) (rest := []) dL_law_1002 kX11_move lL_97 ⟨_, _, rfl⟩ rfl rfl (H.use (fun v3 h3 H => ?_))
  have S3 := H.1
  replace H := H.2
  refine z_aload_n (pc := 1005) dL_law_1005 rfl rfl ?_
  refine z_aload_n (pc := 1006) dL_law_1006 rfl rfl ?_
  refine z_iload_n (pc := 1007) dL_law_1007 rfl rfl ?_
  refine z_iconst (pc := 1008) (v := (nI 1)) dL_law_1008 (by decide) ?_
  refine z_iadd (pc := 1009) dL_law_1009 ?_
  refine z_xald (pc := 1010) dL_law_1010 rfl c1 ?_
  refine z_aload_n (pc := 1011) dL_law_1011 rfl rfl ?_
  refine z_iload_n (pc := 1012) dL_law_1012 rfl rfl ?_
  refine z_iconst (pc := 1013) (v := (nI 2)) dL_law_1013 (by decide) ?_
  refine z_iadd (pc := 1014) dL_law_1014 ?_
  refine z_xald (pc := 1015) dL_law_1015 rfl c2 ?_
  refine y_VI (pc := 1016) (bc := bc) (bs := bs) (mc := 0) (ms := 0) (As := [.inl (exF E 0 ((x3 + (nI 1))).toNatClampNeg), .inl (exF E 0 ((x3 + (nI 2))).toNatClampNeg)]) (rest := [.inl v3]) dL_law_1016 kX12_move lL_100 ⟨_, _, rfl⟩ rfl rfl (H.use (fun v4 h4 H => ?_))
  have S4 := H.1
  replace H := H.2
  refine z_icmp_eq (pc := 1019) (tgt := 1209) dL_law_1019 (by decide) (fun c5 => ?_) (fun c5 => ?_)
  · replace H := H.1 c5
    exact H
  · replace H := H.2 c5
    refine z_iconst (pc := 1022) (v := (nI 0)) dL_law_1022 (by decide) ?_
    exact z_iret (pc := 1023) dL_law_1023 rfl rfl ⟨_, rfl, H⟩

set_option maxRecDepth 20000 in
theorem bL_law_1024 {l : Launch} {E : eE} {d bc bs : Nat} {h : aH} {Q : Int32 → aH → Prop} {x3 : Int32} (S : SH h) (H : (vp_in (x3 + (nI 1)) (exL E 0) ∧ (vp_in (x3 + (nI 2)) (exL E 0) ∧ (vp_in (x3 + (nI 3)) (exL E 0) ∧ (CI l E d 4 73 mX11_planned [.inr (some (0, 11, 0)), .inl (exF E 0 ((x3 + (nI 1))).toNatClampNeg), .inl (exF E 0 ((x3 + (nI 2))).toNatClampNeg), .inl (exF E 0 ((x3 + (nI 3))).toNatClampNeg)] h (fun v4 h4 => SH h4 ∧ (CI l E d 0 0 mX12_planned [.inr (some (0, 12, 63)), .inl (exF E 0 ((x3 + (nI 1))).toNatClampNeg), .inl (exF E 0 ((x3 + (nI 2))).toNatClampNeg), .inl (exF E 0 ((x3 + (nI 3))).toNatClampNeg)] h4 (fun v5 h5 => SH h5 ∧ ((v4 = v5 → LL_law_1209 l E (d + 1) bc bs x3 h5 Q) ∧ (¬ v4 = v5 → Q (nI 0) h5)))))))))) : LL_law_1024 l E (d + 1) (bc + 4) (bs + 73) x3 h Q := by
  refine z_aload_n (pc := 1024) dL_law_1024 rfl rfl ?_
  refine z_aload_n (pc := 1025) dL_law_1025 rfl rfl ?_
  refine z_iload_n (pc := 1026) dL_law_1026 rfl rfl ?_
  refine z_iconst (pc := 1027) (v := (nI 1)) dL_law_1027 (by decide) ?_
  refine z_iadd (pc := 1028) dL_law_1028 ?_
  have c1 := H.1
  replace H := H.2
  refine z_xald (pc := 1029) dL_law_1029 rfl c1 ?_
  refine z_aload_n (pc := 1030) dL_law_1030 rfl rfl ?_
  refine z_iload_n (pc := 1031) dL_law_1031 rfl rfl ?_
  refine z_iconst (pc := 1032) (v := (nI 2)) dL_law_1032 (by decide) ?_
  refine z_iadd (pc := 1033) dL_law_1033 ?_
  have c2 := H.1
  replace H := H.2
  refine z_xald (pc := 1034) dL_law_1034 rfl c2 ?_
  refine z_aload_n (pc := 1035) dL_law_1035 rfl rfl ?_
  refine z_iload_n (pc := 1036) dL_law_1036 rfl rfl ?_
  refine z_iconst (pc := 1037) (v := (nI 3)) dL_law_1037 (by decide) ?_
  refine z_iadd (pc := 1038) dL_law_1038 ?_
  have c3 := H.1
  replace H := H.2
  refine z_xald (pc := 1039) dL_law_1039 rfl c3 ?_
  refine y_VI (pc := 1040) (bc := bc) (bs := bs) (mc := 4) (ms := 73) (As := [.inl (exF E 0 ((x3 + (nI 1))).toNatClampNeg), .inl (exF E 0 ((x3 + (nI 2))).toNatClampNeg), .inl (exF E 0 ((x3 + (nI 3))).toNatClampNeg)]) (rest := []) dL_law_1040 kX11_planned lL_101 ⟨_, _, rfl⟩ rfl rfl (H.use (fun v4 h4 H => ?_))
  have S4 := H.1
  replace H := H.2
  refine z_aload_n (pc := 1043) dL_law_1043 rfl rfl ?_
  refine z_aload_n (pc := 1044) dL_law_1044 rfl rfl ?_
  refine z_iload_n (pc := 1045) dL_law_1045 rfl rfl ?_
  refine z_iconst (pc := 1046) (v := (nI 1)) dL_law_1046 (by decide) ?_
  refine z_iadd (pc := 1047) dL_law_1047 ?_
  refine z_xald (pc := 1048) dL_law_1048 rfl c1 ?_
  refine z_aload_n (pc := 1049) dL_law_1049 rfl rfl ?_
  refine z_iload_n (pc := 1050) dL_law_1050 rfl rfl ?_
  refine z_iconst (pc := 1051) (v := (nI 2)) dL_law_1051 (by decide) ?_
  refine z_iadd (pc := 1052) dL_law_1052 ?_
  refine z_xald (pc := 1053) dL_law_1053 rfl c2 ?_
  refine z_aload_n (pc := 1054) dL_law_1054 rfl rfl ?_
  refine z_iload_n (pc := 1055) dL_law_1055 rfl rfl ?_
  refine z_iconst (pc := 1056) (v := (nI 3)) dL_law_1056 (by decide) ?_
  refine z_iadd (pc := 1057) dL_law_1057 ?_
  refine z_xald (pc := 1058) dL_law_1058 rfl c3 ?_
  refine y_VI (pc := 1059) (bc := bc) (bs := bs) (mc := 0) (ms := 0) (As := [.inl (exF E 0 ((x3 + (nI 1))).toNatClampNeg), .inl (exF E 0 ((x3 + (nI 2))).toNatClampNeg), .inl (exF E 0 ((x3 + (nI 3))).toNatClampNeg)]) (rest := [.inl v4]) dL_law_1059 kX12_planned lL_104 ⟨_, _, rfl⟩ rfl rfl (H.use (fun v5 h5 H => ?_))
  have S5 := H.1
  replace H := H.2
  refine z_icmp_eq (pc := 1062) (tgt := 1209) dL_law_1062 (by decide) (fun c6 => ?_) (fun c6 => ?_)
  · replace H := H.1 c6
    exact H
  · replace H := H.2 c6
    refine z_iconst (pc := 1065) (v := (nI 0)) dL_law_1065 (by decide) ?_
    exact z_iret (pc := 1066) dL_law_1066 rfl rfl ⟨_, rfl, H⟩

set_option maxRecDepth 20000 in
theorem bL_law_1067 {l : Launch} {E : eE} {d bc bs : Nat} {h : aH} {Q : Int32 → aH → Prop} {x3 : Int32} (S : SH h) (H : (vp_in (x3 + (nI 1)) (exL E 0) ∧ (vp_in (x3 + (nI 2)) (exL E 0) ∧ (vp_in (x3 + (nI 3)) (exL E 0) ∧ (vp_in (x3 + (nI 4)) (exL E 0) ∧ (CI l E d 4 73 mX11_comes [.inr (some (0, 11, 0)), .inl (exF E 0 ((x3 + (nI 1))).toNatClampNeg), .inl (exF E 0 ((x3 + (nI 2))).toNatClampNeg), .inl (exF E 0 ((x3 + (nI 3))).toNatClampNeg), .inl (exF E 0 ((x3 + (nI 4))).toNatClampNeg)] h (fun v5 h5 => SH h5 ∧ (CI l E d 0 0 mX12_comes [.inr (some (0, 12, 63)), .inl (exF E 0 ((x3 + (nI 1))).toNatClampNeg), .inl (exF E 0 ((x3 + (nI 2))).toNatClampNeg), .inl (exF E 0 ((x3 + (nI 3))).toNatClampNeg), .inl (exF E 0 ((x3 + (nI 4))).toNatClampNeg)] h5 (fun v6 h6 => SH h6 ∧ ((v5 = v6 → LL_law_1209 l E (d + 1) bc bs x3 h6 Q) ∧ (¬ v5 = v6 → Q (nI 0) h6))))))))))) : LL_law_1067 l E (d + 1) (bc + 4) (bs + 73) x3 h Q := by
  refine z_aload_n (pc := 1067) dL_law_1067 rfl rfl ?_
  refine z_aload_n (pc := 1068) dL_law_1068 rfl rfl ?_
  refine z_iload_n (pc := 1069) dL_law_1069 rfl rfl ?_
  refine z_iconst (pc := 1070) (v := (nI 1)) dL_law_1070 (by decide) ?_
  refine z_iadd (pc := 1071) dL_law_1071 ?_
  have c1 := H.1
  replace H := H.2
  refine z_xald (pc := 1072) dL_law_1072 rfl c1 ?_
  refine z_aload_n (pc := 1073) dL_law_1073 rfl rfl ?_
  refine z_iload_n (pc := 1074) dL_law_1074 rfl rfl ?_
  refine z_iconst (pc := 1075) (v := (nI 2)) dL_law_1075 (by decide) ?_
  refine z_iadd (pc := 1076) dL_law_1076 ?_
  have c2 := H.1
  replace H := H.2
  refine z_xald (pc := 1077) dL_law_1077 rfl c2 ?_
  refine z_aload_n (pc := 1078) dL_law_1078 rfl rfl ?_
  refine z_iload_n (pc := 1079) dL_law_1079 rfl rfl ?_
  refine z_iconst (pc := 1080) (v := (nI 3)) dL_law_1080 (by decide) ?_
  refine z_iadd (pc := 1081) dL_law_1081 ?_
  have c3 := H.1
  replace H := H.2
  refine z_xald (pc := 1082) dL_law_1082 rfl c3 ?_
  refine z_aload_n (pc := 1083) dL_law_1083 rfl rfl ?_
  refine z_iload_n (pc := 1084) dL_law_1084 rfl rfl ?_
  refine z_iconst (pc := 1085) (v := (nI 4)) dL_law_1085 (by decide) ?_
  refine z_iadd (pc := 1086) dL_law_1086 ?_
  have c4 := H.1
  replace H := H.2
  refine z_xald (pc := 1087) dL_law_1087 rfl c4 ?_
  refine y_VI (pc := 1088) (bc := bc) (bs := bs) (mc := 4) (ms := 73) (As := [.inl (exF E 0 ((x3 + (nI 1))).toNatClampNeg), .inl (exF E 0 ((x3 + (nI 2))).toNatClampNeg), .inl (exF E 0 ((x3 + (nI 3))).toNatClampNeg), .inl (exF E 0 ((x3 + (nI 4))).toNatClampNeg)]) (rest := []) dL_law_1088 kX11_comes lL_105 ⟨_, _, rfl⟩ rfl rfl (H.use (fun v5 h5 H => ?_))
  have S5 := H.1
  replace H := H.2
  refine z_aload_n (pc := 1091) dL_law_1091 rfl rfl ?_
  refine z_aload_n (pc := 1092) dL_law_1092 rfl rfl ?_
  refine z_iload_n (pc := 1093) dL_law_1093 rfl rfl ?_
  refine z_iconst (pc := 1094) (v := (nI 1)) dL_law_1094 (by decide) ?_
  refine z_iadd (pc := 1095) dL_law_1095 ?_
  refine z_xald (pc := 1096) dL_law_1096 rfl c1 ?_
  refine z_aload_n (pc := 1097) dL_law_1097 rfl rfl ?_
  refine z_iload_n (pc := 1098) dL_law_1098 rfl rfl ?_
  refine z_iconst (pc := 1099) (v := (nI 2)) dL_law_1099 (by decide) ?_
  refine z_iadd (pc := 1100) dL_law_1100 ?_
  refine z_xald (pc := 1101) dL_law_1101 rfl c2 ?_
  refine z_aload_n (pc := 1102) dL_law_1102 rfl rfl ?_
  refine z_iload_n (pc := 1103) dL_law_1103 rfl rfl ?_
  refine z_iconst (pc := 1104) (v := (nI 3)) dL_law_1104 (by decide) ?_
  refine z_iadd (pc := 1105) dL_law_1105 ?_
  refine z_xald (pc := 1106) dL_law_1106 rfl c3 ?_
  refine z_aload_n (pc := 1107) dL_law_1107 rfl rfl ?_
  refine z_iload_n (pc := 1108) dL_law_1108 rfl rfl ?_
  refine z_iconst (pc := 1109) (v := (nI 4)) dL_law_1109 (by decide) ?_
  refine z_iadd (pc := 1110) dL_law_1110 ?_
  refine z_xald (pc := 1111) dL_law_1111 rfl c4 ?_
  refine y_VI (pc := 1112) (bc := bc) (bs := bs) (mc := 0) (ms := 0) (As := [.inl (exF E 0 ((x3 + (nI 1))).toNatClampNeg), .inl (exF E 0 ((x3 + (nI 2))).toNatClampNeg), .inl (exF E 0 ((x3 + (nI 3))).toNatClampNeg), .inl (exF E 0 ((x3 + (nI 4))).toNatClampNeg)]) (rest := [.inl v5]) dL_law_1112 kX12_comes lL_108 ⟨_, _, rfl⟩ rfl rfl (H.use (fun v6 h6 H => ?_))
  have S6 := H.1
  replace H := H.2
  refine z_icmp_eq (pc := 1115) (tgt := 1209) dL_law_1115 (by decide) (fun c7 => ?_) (fun c7 => ?_)
  · replace H := H.1 c7
    exact H
  · replace H := H.2 c7
    refine z_iconst (pc := 1118) (v := (nI 0)) dL_law_1118 (by decide) ?_
    exact z_iret (pc := 1119) dL_law_1119 rfl rfl ⟨_, rfl, H⟩

set_option maxRecDepth 20000 in
theorem bL_law_1120 {l : Launch} {E : eE} {d bc bs : Nat} {h : aH} {Q : Int32 → aH → Prop} {x3 : Int32} (S : SH h) (H : (vp_in (x3 + (nI 1)) (exL E 0) ∧ (vp_in (x3 + (nI 2)) (exL E 0) ∧ (CI l E d 4 73 mX11_sum [.inr (some (0, 11, 0)), .inl (exF E 0 ((x3 + (nI 1))).toNatClampNeg), .inl (exF E 0 ((x3 + (nI 2))).toNatClampNeg)] h (fun v3 h3 => SH h3 ∧ (CI l E d 0 0 mX12_sum [.inr (some (0, 12, 63)), .inl (exF E 0 ((x3 + (nI 1))).toNatClampNeg), .inl (exF E 0 ((x3 + (nI 2))).toNatClampNeg)] h3 (fun v4 h4 => SH h4 ∧ ((v3 = v4 → LL_law_1209 l E (d + 1) bc bs x3 h4 Q) ∧ (¬ v3 = v4 → Q (nI 0) h4))))))))) : LL_law_1120 l E (d + 1) (bc + 4) (bs + 73) x3 h Q := by
  refine z_aload_n (pc := 1120) dL_law_1120 rfl rfl ?_
  refine z_aload_n (pc := 1121) dL_law_1121 rfl rfl ?_
  refine z_iload_n (pc := 1122) dL_law_1122 rfl rfl ?_
  refine z_iconst (pc := 1123) (v := (nI 1)) dL_law_1123 (by decide) ?_
  refine z_iadd (pc := 1124) dL_law_1124 ?_
  have c1 := H.1
  replace H := H.2
  refine z_xald (pc := 1125) dL_law_1125 rfl c1 ?_
  refine z_aload_n (pc := 1126) dL_law_1126 rfl rfl ?_
  refine z_iload_n (pc := 1127) dL_law_1127 rfl rfl ?_
  refine z_iconst (pc := 1128) (v := (nI 2)) dL_law_1128 (by decide) ?_
  refine z_iadd (pc := 1129) dL_law_1129 ?_
  have c2 := H.1
  replace H := H.2
  refine z_xald (pc := 1130) dL_law_1130 rfl c2 ?_
  refine y_VI (pc := 1131) (bc := bc) (bs := bs) (mc := 4) (ms := 73) (As := [.inl (exF E 0 ((x3 + (nI 1))).toNatClampNeg), .inl (exF E 0 ((x3 + (nI 2))).toNatClampNeg)]) (rest := []) dL_law_1131 kX11_sum lL_109 ⟨_, _, rfl⟩ rfl rfl (H.use (fun v3 h3 H => ?_))
  have S3 := H.1
  replace H := H.2
  refine z_aload_n (pc := 1134) dL_law_1134 rfl rfl ?_
  refine z_aload_n (pc := 1135) dL_law_1135 rfl rfl ?_
  refine z_iload_n (pc := 1136) dL_law_1136 rfl rfl ?_
  refine z_iconst (pc := 1137) (v := (nI 1)) dL_law_1137 (by decide) ?_
  refine z_iadd (pc := 1138) dL_law_1138 ?_
  refine z_xald (pc := 1139) dL_law_1139 rfl c1 ?_
  refine z_aload_n (pc := 1140) dL_law_1140 rfl rfl ?_
  refine z_iload_n (pc := 1141) dL_law_1141 rfl rfl ?_
  refine z_iconst (pc := 1142) (v := (nI 2)) dL_law_1142 (by decide) ?_
  refine z_iadd (pc := 1143) dL_law_1143 ?_
  refine z_xald (pc := 1144) dL_law_1144 rfl c2 ?_
  refine y_VI (pc := 1145) (bc := bc) (bs := bs) (mc := 0) (ms := 0) (As := [.inl (exF E 0 ((x3 + (nI 1))).toNatClampNeg), .inl (exF E 0 ((x3 + (nI 2))).toNatClampNeg)]) (rest := [.inl v3]) dL_law_1145 kX12_sum lL_112 ⟨_, _, rfl⟩ rfl rfl (H.use (fun v4 h4 H => ?_))
  have S4 := H.1
  replace H := H.2
  refine z_icmp_eq (pc := 1148) (tgt := 1209) dL_law_1148 (by decide) (fun c5 => ?_) (fun c5 => ?_)
  · replace H := H.1 c5
    exact H
  · replace H := H.2 c5
    refine z_iconst (pc := 1151) (v := (nI 0)) dL_law_1151 (by decide) ?_
    exact z_iret (pc := 1152) dL_law_1152 rfl rfl ⟨_, rfl, H⟩

set_option maxRecDepth 20000 in
theorem bL_law_1153 {l : Launch} {E : eE} {d bc bs : Nat} {h : aH} {Q : Int32 → aH → Prop} {x3 : Int32} (S : SH h) (H : (vp_in (x3 + (nI 1)) (exL E 0) ∧ (vp_in (x3 + (nI 2)) (exL E 0) ∧ (CI l E d 4 73 mX11_shifted [.inr (some (0, 11, 0)), .inl (exF E 0 ((x3 + (nI 1))).toNatClampNeg), .inl (exF E 0 ((x3 + (nI 2))).toNatClampNeg)] h (fun v3 h3 => SH h3 ∧ (CI l E d 0 0 mX12_shifted [.inr (some (0, 12, 63)), .inl (exF E 0 ((x3 + (nI 1))).toNatClampNeg), .inl (exF E 0 ((x3 + (nI 2))).toNatClampNeg)] h3 (fun v4 h4 => SH h4 ∧ ((v3 = v4 → LL_law_1209 l E (d + 1) bc bs x3 h4 Q) ∧ (¬ v3 = v4 → Q (nI 0) h4))))))))) : LL_law_1153 l E (d + 1) (bc + 4) (bs + 73) x3 h Q := by
  refine z_aload_n (pc := 1153) dL_law_1153 rfl rfl ?_
  refine z_aload_n (pc := 1154) dL_law_1154 rfl rfl ?_
  refine z_iload_n (pc := 1155) dL_law_1155 rfl rfl ?_
  refine z_iconst (pc := 1156) (v := (nI 1)) dL_law_1156 (by decide) ?_
  refine z_iadd (pc := 1157) dL_law_1157 ?_
  have c1 := H.1
  replace H := H.2
  refine z_xald (pc := 1158) dL_law_1158 rfl c1 ?_
  refine z_aload_n (pc := 1159) dL_law_1159 rfl rfl ?_
  refine z_iload_n (pc := 1160) dL_law_1160 rfl rfl ?_
  refine z_iconst (pc := 1161) (v := (nI 2)) dL_law_1161 (by decide) ?_
  refine z_iadd (pc := 1162) dL_law_1162 ?_
  have c2 := H.1
  replace H := H.2
  refine z_xald (pc := 1163) dL_law_1163 rfl c2 ?_
  refine y_VI (pc := 1164) (bc := bc) (bs := bs) (mc := 4) (ms := 73) (As := [.inl (exF E 0 ((x3 + (nI 1))).toNatClampNeg), .inl (exF E 0 ((x3 + (nI 2))).toNatClampNeg)]) (rest := []) dL_law_1164 kX11_shifted lL_113 ⟨_, _, rfl⟩ rfl rfl (H.use (fun v3 h3 H => ?_))
  have S3 := H.1
  replace H := H.2
  refine z_aload_n (pc := 1167) dL_law_1167 rfl rfl ?_
  refine z_aload_n (pc := 1168) dL_law_1168 rfl rfl ?_
  refine z_iload_n (pc := 1169) dL_law_1169 rfl rfl ?_
  refine z_iconst (pc := 1170) (v := (nI 1)) dL_law_1170 (by decide) ?_
  refine z_iadd (pc := 1171) dL_law_1171 ?_
  refine z_xald (pc := 1172) dL_law_1172 rfl c1 ?_
  refine z_aload_n (pc := 1173) dL_law_1173 rfl rfl ?_
  refine z_iload_n (pc := 1174) dL_law_1174 rfl rfl ?_
  refine z_iconst (pc := 1175) (v := (nI 2)) dL_law_1175 (by decide) ?_
  refine z_iadd (pc := 1176) dL_law_1176 ?_
  refine z_xald (pc := 1177) dL_law_1177 rfl c2 ?_
  refine y_VI (pc := 1178) (bc := bc) (bs := bs) (mc := 0) (ms := 0) (As := [.inl (exF E 0 ((x3 + (nI 1))).toNatClampNeg), .inl (exF E 0 ((x3 + (nI 2))).toNatClampNeg)]) (rest := [.inl v3]) dL_law_1178 kX12_shifted lL_116 ⟨_, _, rfl⟩ rfl rfl (H.use (fun v4 h4 H => ?_))
  have S4 := H.1
  replace H := H.2
  refine z_icmp_eq (pc := 1181) (tgt := 1209) dL_law_1181 (by decide) (fun c5 => ?_) (fun c5 => ?_)
  · replace H := H.1 c5
    exact H
  · replace H := H.2 c5
    refine z_iconst (pc := 1184) (v := (nI 0)) dL_law_1184 (by decide) ?_
    exact z_iret (pc := 1185) dL_law_1185 rfl rfl ⟨_, rfl, H⟩

set_option maxRecDepth 20000 in
theorem bL_law_1186 {l : Launch} {E : eE} {d bc bs : Nat} {h : aH} {Q : Int32 → aH → Prop} {x3 : Int32} (S : SH h) (H : (vp_in (x3 + (nI 1)) (exL E 0) ∧ (CI l E d 4 73 mX11_count [.inr (some (0, 11, 0)), .inl (exF E 0 ((x3 + (nI 1))).toNatClampNeg)] h (fun v2 h2 => SH h2 ∧ (CI l E d 0 0 mX12_count [.inr (some (0, 12, 63)), .inl (exF E 0 ((x3 + (nI 1))).toNatClampNeg)] h2 (fun v3 h3 => SH h3 ∧ ((v2 = v3 → LL_law_1209 l E (d + 1) bc bs x3 h3 Q) ∧ (¬ v2 = v3 → Q (nI 0) h3)))))))) : LL_law_1186 l E (d + 1) (bc + 4) (bs + 73) x3 h Q := by
  refine z_aload_n (pc := 1186) dL_law_1186 rfl rfl ?_
  refine z_aload_n (pc := 1187) dL_law_1187 rfl rfl ?_
  refine z_iload_n (pc := 1188) dL_law_1188 rfl rfl ?_
  refine z_iconst (pc := 1189) (v := (nI 1)) dL_law_1189 (by decide) ?_
  refine z_iadd (pc := 1190) dL_law_1190 ?_
  have c1 := H.1
  replace H := H.2
  refine z_xald (pc := 1191) dL_law_1191 rfl c1 ?_
  refine y_VI (pc := 1192) (bc := bc) (bs := bs) (mc := 4) (ms := 73) (As := [.inl (exF E 0 ((x3 + (nI 1))).toNatClampNeg)]) (rest := []) dL_law_1192 kX11_count lL_117 ⟨_, _, rfl⟩ rfl rfl (H.use (fun v2 h2 H => ?_))
  have S2 := H.1
  replace H := H.2
  refine z_aload_n (pc := 1195) dL_law_1195 rfl rfl ?_
  refine z_aload_n (pc := 1196) dL_law_1196 rfl rfl ?_
  refine z_iload_n (pc := 1197) dL_law_1197 rfl rfl ?_
  refine z_iconst (pc := 1198) (v := (nI 1)) dL_law_1198 (by decide) ?_
  refine z_iadd (pc := 1199) dL_law_1199 ?_
  refine z_xald (pc := 1200) dL_law_1200 rfl c1 ?_
  refine y_VI (pc := 1201) (bc := bc) (bs := bs) (mc := 0) (ms := 0) (As := [.inl (exF E 0 ((x3 + (nI 1))).toNatClampNeg)]) (rest := [.inl v2]) dL_law_1201 kX12_count lL_120 ⟨_, _, rfl⟩ rfl rfl (H.use (fun v3 h3 H => ?_))
  have S3 := H.1
  replace H := H.2
  refine z_icmp_eq (pc := 1204) (tgt := 1209) dL_law_1204 (by decide) (fun c4 => ?_) (fun c4 => ?_)
  · replace H := H.1 c4
    exact H
  · replace H := H.2 c4
    refine z_iconst (pc := 1207) (v := (nI 0)) dL_law_1207 (by decide) ?_
    exact z_iret (pc := 1208) dL_law_1208 rfl rfl ⟨_, rfl, H⟩

