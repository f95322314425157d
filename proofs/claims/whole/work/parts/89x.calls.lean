/-! ===== one call on both sides: the same answer, and all is well behind it ===== -/
abbrev bothC (l : Launch) (E : eE) (d : Nat) (Y Z : aM) (args : List aV) (h : aH) : Prop := CI l E d 4 73 Y (.inr (some (0, 11, 0)) :: args) h (fun v h1 => SH h1 ∧ CI l E d 0 0 Z (.inr (some (0, 12, 63)) :: args) h1 (fun v' h2 => SH h2 ∧ v = v' ∧ LV h2))
theorem mo_fact (h : aH) (x1 x2 x3 x4 x5 : Int32) : MO h (rFact h x1 x2 x3 x4 x5) := (((((mo_A h _ _ (by decide)).tr (mo_A _ _ _ (by decide))).tr (mo_A _ _ _ (by decide))).tr (mo_A _ _ _ (by decide))).tr (mo_A _ _ _ (by decide))).tr (mo_I _ _ _)
theorem RE.fact {h h1 : aH} (e : RE h h1) (x1 x2 x3 x4 x5 : Int32) : RE (rFact h x1 x2 x3 x4 x5) (rFact h1 x1 x2 x3 x4 x5) := by
  unfold rFact
  rw [e.1]
  exact (((((e.stA _ _ _).stA _ _ _).stA _ _ _).stA _ _ _).stA _ _ _).stI _ _
section
variable {l : Launch} {E : eE} {d : Nat} {h : aH}
theorem e_land {x : Int32} (V : LV h) (hd : 20 ≤ d) : bothC l E d mX11_land mX12_land [.inl x] h := by
  refine k_land (bc := 3) (bs := 70) V.sk (by omega) V.2.2 (fun ok => ?_) (fun no => ⟨V.1.1, c_land V.1 (by omega) (fun ok => absurd ok no) (fun _ => ⟨V.1.1, rfl, V⟩)⟩)
  obtain ⟨S1, re, cl, ri, hn⟩ := CL.land V ok
  refine ⟨S1, c_land ⟨S1, RI.re re V.1.2⟩ (by omega) (fun _ => ?_) (fun no => absurd (by unfold rLandOK; rw [re.1]; exact ok) no)⟩
  have mo : MO (kLandH h x) (rLandH (kLandH h x) x) := (mo_A _ _ _ (by decide)).tr (mo_I _ _ _)
  refine ⟨mo.sh S1, by rw [re.1], LV.done S1 cl ri hn (RE.p ?_) mo⟩
  unfold rLandH
  rw [re.1]
  exact (re.stA _ _ _).stI _ _
theorem e_person {x1 x2 : Int32} (V : LV h) (hd : 20 ≤ d) : bothC l E d mX11_person mX12_person [.inl x1, .inl x2] h := by
  refine k_person (bc := 2) (bs := 20) V.sk (by omega) V.2.2 (fun ok i o e hi hl S1 => ?_) (fun no => ⟨V.1.1, c_person V.1 (by omega) (fun ok => absurd ok no) (fun _ => ⟨V.1.1, rfl, V⟩)⟩)
  obtain ⟨re, cl, ri, hn⟩ := CL.person V ok e hi hl
  refine ⟨S1, c_person ⟨S1, RI.re re V.1.2⟩ (by omega) (fun _ => ?_) (fun no => absurd (by unfold rPersOK; rw [re.1]; exact ok) no)⟩
  have mo : MO (kPersH h o x2) (rPersH (kPersH h o x2) x1 x2) := (((mo_A _ _ _ (by decide)).tr (mo_A _ _ _ (by decide))).tr (mo_A _ _ _ (by decide))).tr (mo_I _ _ _)
  refine ⟨mo.sh S1, by rw [re.1], LV.done S1 cl ri hn (RE.p ?_) mo⟩
  unfold rPersH
  rw [re.1]
  exact (((re.stA _ _ _).stA _ _ _).stA _ _ _).stI _ _
theorem e_row {x1 x2 : Int32} (V : LV h) (hd : 20 ≤ d) : bothC l E d mX11_row mX12_row [.inl x1, .inl x2] h := by
  refine k_row V.sk (by omega) (fun ok p o a e hp hl => ?_) (fun no => ⟨V.1.1, c_row V.1 (by omega) (fun ok => absurd ok no) (fun _ => ⟨V.1.1, rfl, V⟩)⟩)
  obtain ⟨S1, re, cl, ri, hn⟩ := CL.row V ok e hp hl
  refine ⟨S1, c_row ⟨S1, RI.re re V.1.2⟩ (by omega) (fun _ => ?_) (fun no => absurd (by unfold rRowOK; rw [re.1]; exact ok) no)⟩
  have mo : MO (kRowH h o a x2) (rRowH (kRowH h o a x2) x1 x2) := (mo_A _ _ _ (by decide)).tr (mo_AA _ _ (by decide))
  refine ⟨mo.sh S1, rfl, LV.done S1 cl ri hn (RE.p ?_) mo⟩
  unfold rRowH
  rw [re.2 68 (by decide) (by decide)]
  exact (re.stA _ _ _).stAA _ _
theorem e_cell {x1 x2 x3 : Int32} (V : LV h) (hd : 20 ≤ d) : bothC l E d mX11_cell mX12_cell [.inl x1, .inl x2, .inl x3] h := by
  refine k_cell V.sk (by omega) (fun ok p o a e hp hl => ?_) (fun no => ⟨V.1.1, c_cell V.1 (by omega) (fun ok => absurd ok no) (fun _ => ⟨V.1.1, rfl, V⟩)⟩)
  obtain ⟨re, cl, ri, hn⟩ := CL.cell V ok e hp hl
  have S1 : SH (kCellH h a x2 x3) := V.1.1
  refine ⟨S1, c_cell ⟨S1, RI.re re V.1.2⟩ (by omega) (fun _ => ?_) (fun no => absurd (by unfold rCellOK; rw [re.1, re.2 67 (by decide) (by decide)]; exact ok) no)⟩
  have mo : MO (kCellH h a x2 x3) (rCellH (kCellH h a x2 x3) x1 x2 x3) := mo_A _ _ _ (by decide)
  exact ⟨mo.sh S1, rfl, LV.done S1 cl ri hn (re.stA _ _ _).p mo⟩
theorem e_change {x1 x2 x3 : Int32} (V : LV h) (hd : 20 ≤ d) : bothC l E d mX11_change mX12_change [.inl x1, .inl x2, .inl x3] h := by
  refine k_change (bc := 3) (bs := 68) V.sk (by omega) V.2.2 (fun ok i o e hi hl => ?_) (fun no => ⟨V.1.1, c_change V.1 (by omega) (fun ok => absurd ok no) (fun _ => ⟨V.1.1, rfl, V⟩)⟩)
  obtain ⟨S1, re, cl, ri, hn⟩ := CL.change V ok e hi hl
  refine ⟨S1, c_change ⟨S1, RI.re re V.1.2⟩ (by omega) (fun _ => ?_) (fun no => absurd (by unfold rChangeOK; rw [re.1]; exact ok) no)⟩
  have mo := mo_fact (kFactH h o 1 x2 x3 (nI 0)) (nI 0) x1 x2 x3 (nI 0)
  exact ⟨mo.sh S1, by rw [re.1], LV.done S1 cl ri hn (re.fact _ _ _ _ _).p mo⟩
theorem e_feast {x1 x2 : Int32} (V : LV h) (hd : 20 ≤ d) : bothC l E d mX11_feast mX12_feast [.inl x1, .inl x2] h := by
  refine k_feast (bc := 3) (bs := 68) V.sk (by omega) V.2.2 (fun ok i o e hi hl => ?_) (fun no => ⟨V.1.1, c_feast V.1 (by omega) (fun ok => absurd ok no) (fun _ => ⟨V.1.1, rfl, V⟩)⟩)
  obtain ⟨S1, re, cl, ri, hn⟩ := CL.feast V ok e hi hl
  refine ⟨S1, c_feast ⟨S1, RI.re re V.1.2⟩ (by omega) (fun _ => ?_) (fun no => absurd (by unfold rFeastOK; rw [re.1]; exact ok) no)⟩
  have mo := mo_fact (kFactH h o 2 x2 x2 (nI 0)) (nI 1) x1 x2 (nI 0) (nI 0)
  exact ⟨mo.sh S1, by rw [re.1], LV.done S1 cl ri hn (re.fact _ _ _ _ _).p mo⟩
theorem e_busy {x1 x2 x3 x4 : Int32} (V : LV h) (h4 : x4 = nI 0 ∨ x4 = nI 1) (hd : 20 ≤ d) : bothC l E d mX11_busy mX12_busy [.inl x1, .inl x2, .inl x3, .inl x4] h := by
  refine k_busy (bc := 3) (bs := 68) V.sk (by omega) V.2.2 h4 (fun ok i o a e hi hl => ?_) (fun no => ⟨V.1.1, c_busy V.1 (by omega) (fun ok => absurd ok no) (fun _ => ⟨V.1.1, rfl, V⟩)⟩)
  obtain ⟨S1, re, cl, ri, hn⟩ := CL.busy V h4 ok e hi hl
  refine ⟨S1, c_busy ⟨S1, RI.re re V.1.2⟩ (by omega) (fun _ => ?_) (fun no => absurd (by unfold rBusyOK; rw [re.1]; exact ok) no)⟩
  have mo := mo_fact (kFactH h o 4 x2 x3 x4) (nI 2) x1 x2 x3 x4
  exact ⟨mo.sh S1, by rw [re.1], LV.done S1 cl ri hn (re.fact _ _ _ _ _).p mo⟩
theorem e_cant {x1 x2 x3 : Int32} (V : LV h) (hd : 20 ≤ d) : bothC l E d mX11_cant mX12_cant [.inl x1, .inl x2, .inl x3] h := by
  refine k_cant (bc := 3) (bs := 68) V (by omega) (fun ok i o e hi hl => ?_) (fun no => ⟨V.1.1, c_cant V.1 (by omega) (fun ok => absurd ok no) (fun _ => ⟨V.1.1, rfl, V⟩)⟩)
  obtain ⟨S1, re, cl, ri, hn⟩ := CL.cant V ok e hi hl
  refine ⟨S1, c_cant ⟨S1, RI.re re V.1.2⟩ (by omega) (fun _ => ?_) (fun no => absurd (by unfold rCantOK; rw [re.1]; exact ok) no)⟩
  have mo := mo_fact (kFactH h o 8 x1 x3 (nI 0)) (nI 3) x1 x2 x3 (nI 0)
  exact ⟨mo.sh S1, by rw [re.1], LV.done S1 cl ri hn (re.fact _ _ _ _ _).p mo⟩
theorem e_series {x1 x2 x3 : Int32} (V : LV h) (hd : 20 ≤ d) : bothC l E d mX11_series mX12_series [.inl x1, .inl x2, .inl x3] h := by
  refine k_series (bc := 0) (bs := 0) V (by omega) (fun ok S1 => ?_) (fun no => ⟨V.1.1, c_series V.1 (by omega) (fun ok => absurd ok no) (fun _ => ⟨V.1.1, rfl, V⟩)⟩)
  obtain ⟨re, cl, ri, hn⟩ := CL.series V ok
  refine ⟨S1, c_series ⟨S1, RI.re re V.1.2⟩ (by omega) (fun _ => ?_) (fun no => absurd (by unfold rSerOK; rw [re.1]; exact ok) no)⟩
  have mo : ∀ g, MO g (rSerH g x1 x2 x3) := fun g => (((mo_A g _ _ (by decide)).tr (mo_A _ _ _ (by decide))).tr (mo_A _ _ _ (by decide))).tr (mo_I _ _ _)
  refine ⟨(mo _).sh S1, by rw [re.1], LV.done S1 cl ri hn (RE.p ?_) (mo _)⟩
  unfold rSerH
  rw [re.1]
  exact (((re.stA _ _ _).stA _ _ _).stA _ _ _).stI _ _
theorem e_option {x1 x2 : Int32} (V : LV h) (hd : 20 ≤ d) : bothC l E d mX11_option mX12_option [.inl x1, .inl x2] h := by
  have hN := V.1.2.1
  unfold RIn at hN
  refine k_option V (by omega) (fun ok s o e hs hl => ?_) (fun no => ⟨V.1.1, c_option V.1 (by omega) (fun ok => absurd ok no) (fun _ => ⟨V.1.1, rfl, V⟩)⟩)
  obtain ⟨re, cl, ri, hn⟩ := CL.option V ok e hs hl
  have S1 : SH (kOptH h o x2) := V.1.1
  have ec : x1.toNatClampNeg = s := by rw [e, nI_clamp (by omega)]
  refine ⟨S1, c_option ⟨S1, RI.re re V.1.2⟩ (by omega) (fun _ => ?_) (fun no => absurd (by unfold rOptOK; rw [re.1, re.2 77 (by decide) (by decide)]; exact ok) no)⟩
  rw [ec]
  have mo : MO (kOptH h o x2) (rOptH (kOptH h o x2) s x2) := (mo_A _ _ _ (by decide)).tr (mo_A _ _ _ (by decide))
  refine ⟨mo.sh S1, by rw [re.2 77 (by decide) (by decide)], LV.done S1 cl ri hn (RE.p ?_) mo⟩
  unfold rOptH
  rw [re.2 77 (by decide) (by decide)]
  exact (re.stA _ _ _).stA _ _ _
theorem e_role {x1 x2 x3 : Int32} (V : LV h) (hd : 20 ≤ d) : bothC l E d mX11_role mX12_role [.inl x1, .inl x2, .inl x3] h := by
  have hN := V.1.2.1
  unfold RIn at hN
  refine k_role V (by omega) (fun ok s o p r e1 hs hl e2 hp e3 hr => ?_) (fun no => ⟨V.1.1, c_role V.1 (by omega) (fun ok => absurd ok no) (fun _ => ⟨V.1.1, rfl, V⟩)⟩)
  obtain ⟨re, cl, ri, hn⟩ := CL.role V hs hl hp hr
  have S1 : SH (kRoleH h o p r) := V.1.1
  have ec1 : x1.toNatClampNeg = s := by rw [e1, nI_clamp (by omega)]
  have ec2 : x2.toNatClampNeg = p := by rw [e2, nI_clamp (by omega)]
  refine ⟨S1, c_role ⟨S1, RI.re re V.1.2⟩ (by omega) (fun _ => ?_) (fun no => absurd (by unfold rRoleOK; rw [re.1]; exact ok) no)⟩
  rw [ec1, ec2, e3]
  have mo : MO (kRoleH h o p r) (rRoleH (kRoleH h o p r) s p (nI r)) := mo_A _ _ _ (by decide)
  exact ⟨mo.sh S1, rfl, LV.done S1 cl ri hn (re.stA _ _ _).p mo⟩
theorem e_local {x1 x2 x3 x4 : Int32} (V : LV h) (hd : 20 ≤ d) : bothC l E d mX11_local mX12_local [.inl x1, .inl x2, .inl x3, .inl x4] h :=
  k_local V.sk (by omega) ⟨V.1.1, c_local V.1 (by omega) ⟨V.1.1, rfl, V⟩⟩
theorem e_when {x1 x2 x3 x4 x5 : Int32} (V : LV h) (hd : 20 ≤ d) : bothC l E d mX11_when mX12_when [.inl x1, .inl x2, .inl x3, .inl x4, .inl x5] h :=
  k_when V.sk (by omega) ⟨V.1.1, c_when V.1 (by omega) ⟨V.1.1, rfl, V⟩⟩
theorem e_can {x1 x2 x3 x4 : Int32} (V : LV h) (hd : 20 ≤ d) : bothC l E d mX11_can mX12_can [.inl x1, .inl x2, .inl x3, .inl x4] h :=
  k_can V.sk (by omega) ⟨V.1.1, c_can V.1 (by omega) ⟨V.1.1, rfl, V⟩⟩
theorem e_cost {x1 x2 x3 x4 : Int32} (V : LV h) (hd : 20 ≤ d) : bothC l E d mX11_cost mX12_cost [.inl x1, .inl x2, .inl x3, .inl x4] h :=
  k_cost V.sk (by omega) ⟨V.1.1, c_cost V.1 (by omega) ⟨V.1.1, rfl, V⟩⟩
theorem e_span {x1 x2 x3 : Int32} (V : LV h) (hd : 20 ≤ d) : bothC l E d mX11_span mX12_span [.inl x1, .inl x2, .inl x3] h :=
  k_span V.sk (by omega) ⟨V.1.1, c_span V.1 (by omega) ⟨V.1.1, rfl, V⟩⟩
theorem e_stuck {x1 : Int32} (V : LV h) (hd : 20 ≤ d) : bothC l E d mX11_stuck mX12_stuck [.inl x1] h :=
  k_stuck V (by omega) ⟨V.1.1, c_stuck V.1.1 ⟨V.1.1, rfl, V⟩⟩
theorem e_planned {x1 x2 x3 : Int32} (V : LV h) (hd : 20 ≤ d) : bothC l E d mX11_planned mX12_planned [.inl x1, .inl x2, .inl x3] h :=
  k_planned V (by omega) ⟨V.1.1, c_planned V.1 (by omega) ⟨V.1.1, rfl, V⟩⟩
theorem e_shifted {x1 x2 : Int32} (V : LV h) (hd : 20 ≤ d) : bothC l E d mX11_shifted mX12_shifted [.inl x1, .inl x2] h :=
  k_shifted V (by omega) ⟨V.1.1, c_shifted V.1 (by omega) ⟨V.1.1, rfl, V⟩⟩
theorem e_count {x1 : Int32} (V : LV h) (hd : 20 ≤ d) : bothC l E d mX11_count mX12_count [.inl x1] h :=
  k_count V (by omega) ⟨V.1.1, c_count V.1.1 ⟨V.1.1, rfl, V⟩⟩
/-- scratch on both sides -/
theorem KS.end {h h1 h2 : aH} (V : LV h) (ks : KS h h1) (mo : MO h1 h2) (e : REp h h2) : SH h2 ∧ LV h2 := by
  have V1 := ks.full V
  exact ⟨mo.sh V1.1.1, LV.done V1.1.1 (ks.re.p.sy.cl V1.2.1) V.1.2 V1.2.2 e mo⟩
theorem e_fits {x1 x2 x3 x4 x5 : Int32} (V : LV h) (hd : 20 ≤ d) : bothC l E d mX11_fits mX12_fits [.inl x1, .inl x2, .inl x3, .inl x4, .inl x5] h :=
  k_fits V.w (by omega) (fun h1 ks => ⟨(ks.full V).1.1, c_fits (ks.full V).1.1 V.1.2 ks.re.p (by omega) (fun h2 mo e => ⟨(ks.end V mo e).1, rfl, (ks.end V mo e).2⟩)⟩)
theorem e_comes {x1 x2 x3 x4 : Int32} (V : LV h) (hd : 20 ≤ d) : bothC l E d mX11_comes mX12_comes [.inl x1, .inl x2, .inl x3, .inl x4] h :=
  k_comes V.w (by omega) (fun h1 ks => ⟨(ks.full V).1.1, c_comes (ks.full V).1.1 V.1.2 ks.re.p (by omega) (fun h2 mo e => ⟨(ks.end V mo e).1, rfl, (ks.end V mo e).2⟩)⟩)
theorem e_sum {x1 x2 : Int32} (V : LV h) (hd : 20 ≤ d) : bothC l E d mX11_sum mX12_sum [.inl x1, .inl x2] h :=
  k_sum V.w (by omega) (fun h1 ks => ⟨(ks.full V).1.1, c_sum (ks.full V).1.1 V.1.2 ks.re.p (by omega) (fun h2 mo e => ⟨(ks.end V mo e).1, rfl, (ks.end V mo e).2⟩)⟩)
end
