/-! THE CLAIM OUT OF ONE WALK OF THE LAW'S BODY. Your part is whole_start (and what it stands on); all else here is the same for every law, but numbers. -/
def R_law : String := "ClockCallLaw"
def lw_P (b : Addr) (xs : List Int32) (args : Array Value) (s : State) : Prop := args = #[.ref b] ∧ s.IntsAt b xs ∧ xs.length ≤ 3072 ∧ (Jvm.Cond.and given_1 narrow_1).before args s = true
def lw_Q (_ : Array Value) (s : State) (o : Outcome) (t : State) : Prop := o = .returned (some (.int 1)) ∧ Framed s o t [] 600000 7302250
def lw_Z (below : List Frame) (a : Array Value) (s : State) : State → Prop := fun t => ∃ o, t.status = .running ∧ Ended t below o ∧ lw_Q a s o t
/-- the law's own end, with 1 on the stack, nothing written that was there before, its room as the claim has it -/
theorem lw_ret {p : Program} {l : Launch} {e : Env} {s : State} {m : MethodId} {below : List Frame} {meth : Method} {c : Code} {b : Nat} (hx : p.tables.exec = Jvm.exec) (hb : c.code = code) (hr : meth.sig.returnType = ret) (hlocks : meth.locks = false) {pc : Nat} {H : Heap} {ls : Array Slot} (hdg : decode code pc = .ok (.ireturn, 1)) : W p l e room_1 s m #[Value.ref b] below meth c H [] 600000 7302250 (lw_Z below #[Value.ref b] s) (F0 m pc ls [.int 1]) := by
  intro T hT X
  obtain ⟨fs, hret, hrun, hended, hW, hframe⟩ := X.leave (v := some (.int 1)) (hlocks := hlocks) (fun h => by rw [hr] at h; cases h)
  have hmeth' : T.vm.method? m = some meth := X.method'
  refine ⟨T.setFrames fs, ?_, .returned (some (.int 1)), hrun, hended, rfl, ⟨_, rfl⟩, hW, hframe⟩
  jvm_step X.here [X.here.top, hx, hb, hdg, hmeth', hr, ret, narrow_b1]
  (try refine ⟨rfl, ?_⟩); (try refine ⟨rfl, ?_⟩)
  first | (intro acts; rw [hret _ acts rfl rfl rfl]) | rw [hret _ _ rfl rfl rfl]
  exact Steps.refl _
/-- what holds at the law's entry: the machine, the code, the tables' words (any of lw_tbl by 'hts w (by decide +kernel)'), the script of L ints xs at the cell b, what the Statement gives of the start (any of its parts by flat_of_before) -/
def lw_At (p : Program) (s : State) (m : MethodId) (meth : Method) (c : Code) (b L : Nat) (xs : Nat → Int32) : Prop :=
  p.tables.exec = Jvm.exec ∧ c.code = code ∧ meth.sig.returnType = ret ∧ c.maxLocals = 4 ∧ s.vm.findClass R_law = some m.cls ∧ (∀ w ∈ lw_tbl, w.before #[Value.ref b] s = true) ∧ va_X b L xs s s.heap ∧ b < s.heap.size ∧ meth.locks = false ∧ (Jvm.Cond.and given_1 narrow_1).before #[Value.ref b] s = true
def mL : aM := (yL_law, cL_law, 4, some .boolean)
def h00 : aH := (fun _ _ => 0, fun _ _ => none, fun _ _ => 0, fun _ _ => none, fun _ => (0, 0), 0)
def CNow (k : Nat) : Nat × String := match k with
  | 12 => (4, RX4) | 14 => (6, RX6) | 16 => (8, RX8) | 17 => (9, RX9) | _ => (10, RX10)
theorem known_cl {s : State} {args : Array Value} (hts : ∀ w ∈ lw_tbl, w.before args s = true) : ∀ (k : Nat), ∃ y : ClassId × (Nat → Nat), ∀ q, vwCl[k]? = some q → u_Kn s q.1 q.2.1 q.2.2 y.1 y.2 := by
  intro k
  match k with
  | 0 => obtain ⟨c, i, h⟩ := u_known (C := RX0) (T := TX0) (N := 4) (n := 4) hts inX0 (hts (.instantiable RX0 4) (by decide +kernel)); exact ⟨(c, i), fun q hq => by cases hq; exact h⟩
  | 1 => obtain ⟨c, i, h⟩ := u_known (C := RX1) (T := TX1) (N := 5) (n := 5) hts inX1 (hts (.instantiable RX1 5) (by decide +kernel)); exact ⟨(c, i), fun q hq => by cases hq; exact h⟩
  | 2 => obtain ⟨c, i, h⟩ := u_known (C := RX2) (T := TX2) (N := 4) (n := 4) hts inX2 (hts (.instantiable RX2 4) (by decide +kernel)); exact ⟨(c, i), fun q hq => by cases hq; exact h⟩
  | 3 => obtain ⟨c, i, h⟩ := u_known (C := RX3) (T := TX3) (N := 5) (n := 5) hts inX3 (hts (.instantiable RX3 5) (by decide +kernel)); exact ⟨(c, i), fun q hq => by cases hq; exact h⟩
  | 4 => obtain ⟨c, i, h⟩ := u_known (C := RX4) (T := TX4) (N := 3) (n := 3) hts inX4 (hts (.instantiable RX4 3) (by decide +kernel)); exact ⟨(c, i), fun q hq => by cases hq; exact h⟩
  | 5 => obtain ⟨c, i, h⟩ := u_known (C := RX5) (T := TX5) (N := 11) (n := 11) hts inX5 (hts (.instantiable RX5 11) (by decide +kernel)); exact ⟨(c, i), fun q hq => by cases hq; exact h⟩
  | 6 => obtain ⟨c, i, h⟩ := u_known (C := RX6) (T := TX6) (N := 5) (n := 5) hts inX6 (hts (.instantiable RX6 5) (by decide +kernel)); exact ⟨(c, i), fun q hq => by cases hq; exact h⟩
  | 7 => obtain ⟨c, i, h⟩ := u_known (C := RX7) (T := TX7) (N := 11) (n := 11) hts inX7 (hts (.instantiable RX7 11) (by decide +kernel)); exact ⟨(c, i), fun q hq => by cases hq; exact h⟩
  | 8 => obtain ⟨c, i, h⟩ := u_known (C := RX8) (T := TX8) (N := 6) (n := 6) hts inX8 (hts (.instantiable RX8 6) (by decide +kernel)); exact ⟨(c, i), fun q hq => by cases hq; exact h⟩
  | 9 => obtain ⟨c, i, h⟩ := u_known (C := RX9) (T := TX9) (N := 9) (n := 9) hts inX9 (hts (.instantiable RX9 9) (by decide +kernel)); exact ⟨(c, i), fun q hq => by cases hq; exact h⟩
  | 10 => obtain ⟨c, i, h⟩ := u_known (C := RX10) (T := TX10) (N := 3) (n := 3) hts inX10 (hts (.instantiable RX10 3) (by decide +kernel)); exact ⟨(c, i), fun q hq => by cases hq; exact h⟩
  | 11 => obtain ⟨c, i, h⟩ := u_known (C := RX11) (T := TX11) (N := 14) (n := 14) hts inX11 (hts (.instantiable RX11 14) (by decide +kernel)); exact ⟨(c, i), fun q hq => by cases hq; exact h⟩
  | 12 => obtain ⟨c, i, h⟩ := u_known (C := RX12) (T := TX12) (N := 43) (n := 43) hts inX12 (hts (.instantiable RX12 43) (by decide +kernel)); exact ⟨(c, i), fun q hq => by cases hq; exact h⟩
  | n + 13 => exact ⟨(0, fun _ => 0), fun q hq => by simp [vwCl] at hq⟩
theorem arr_ref {s : State} {args : Array Value} {C : String} (h : (Cond.arrayOver (.object C)).before args s = true) : ∃ cA : ClassId, ArrOfT s cA (.object C) ∧ va_RA s cA (.object C) := by
  obtain ⟨comp, c, k, h1, h2, h3, h4, h5⟩ := Cond.arrayOver_spec h
  exact ⟨c, fun n z => ⟨fun k h => (by cases h), k, h3, comp, h4⟩, k, comp, h3, h4, h1, h5⟩
theorem arr_prim {s : State} {args : Array Value} {t : FieldType} (h : (Cond.arrayClass t).before args s = true) : ∃ cA : ClassId, ArrOfT s cA t ∧ s.vm.findClass ("[" ++ t.toString) = some cA := by
  obtain ⟨c, k, comp, h1, h2, h3⟩ := Cond.arrayClass_spec h
  exact ⟨c, fun n z => ⟨fun k h => (by cases h), k, h2, comp, h3⟩, h1⟩
theorem tab_tb1 {s : State} {args : Array Value} (hf : ∀ c ∈ flatC (Jvm.Cond.and given_1 narrow_1), c.before args s = true) (hts : ∀ w ∈ lw_tbl, w.before args s = true) {A : Nat → Prop} (hA : ∀ a : Nat, a < s.heap.size → ¬ A a) : ∃ t : Nat, va_T .int t 15 (fun j => .int (tb1.getD j 0)) A s s.heap ∧ va_Z "ClockCall" "FIRST_OF_PAIR" "[I" (.ref t) A s s.heap := by
  have harr := hf (Cond.arrayOf (.static "ClockCall" "FIRST_OF_PAIR" "[I") .int) (by decide +kernel)
  have hlen := va_eqt (hf (Cond.eq (.length (.static "ClockCall" "FIRST_OF_PAIR" "[I")) (.int 15)) (by decide +kernel))
  have hel : ∀ j : Nat, j < 15 → (Term.elem (.static "ClockCall" "FIRST_OF_PAIR" "[I") (.int (Int32.ofNat j))).eval args s none [] s = some (.int (tb1.getD j 0)) := by
    intro j hj
    match j, hj with
    | 0, _ => exact va_eqt (hf (Cond.eq (.elem (.static "ClockCall" "FIRST_OF_PAIR" "[I") (.int 0)) (.int 0)) (by decide +kernel))
    | 1, _ => exact va_eqt (hf (Cond.eq (.elem (.static "ClockCall" "FIRST_OF_PAIR" "[I") (.int 1)) (.int 0)) (by decide +kernel))
    | 2, _ => exact va_eqt (hf (Cond.eq (.elem (.static "ClockCall" "FIRST_OF_PAIR" "[I") (.int 2)) (.int 0)) (by decide +kernel))
    | 3, _ => exact va_eqt (hf (Cond.eq (.elem (.static "ClockCall" "FIRST_OF_PAIR" "[I") (.int 3)) (.int 0)) (by decide +kernel))
    | 4, _ => exact va_eqt (hf (Cond.eq (.elem (.static "ClockCall" "FIRST_OF_PAIR" "[I") (.int 4)) (.int 0)) (by decide +kernel))
    | 5, _ => exact va_eqt (hf (Cond.eq (.elem (.static "ClockCall" "FIRST_OF_PAIR" "[I") (.int 5)) (.int 1)) (by decide +kernel))
    | 6, _ => exact va_eqt (hf (Cond.eq (.elem (.static "ClockCall" "FIRST_OF_PAIR" "[I") (.int 6)) (.int 1)) (by decide +kernel))
    | 7, _ => exact va_eqt (hf (Cond.eq (.elem (.static "ClockCall" "FIRST_OF_PAIR" "[I") (.int 7)) (.int 1)) (by decide +kernel))
    | 8, _ => exact va_eqt (hf (Cond.eq (.elem (.static "ClockCall" "FIRST_OF_PAIR" "[I") (.int 8)) (.int 1)) (by decide +kernel))
    | 9, _ => exact va_eqt (hf (Cond.eq (.elem (.static "ClockCall" "FIRST_OF_PAIR" "[I") (.int 9)) (.int 2)) (by decide +kernel))
    | 10, _ => exact va_eqt (hf (Cond.eq (.elem (.static "ClockCall" "FIRST_OF_PAIR" "[I") (.int 10)) (.int 2)) (by decide +kernel))
    | 11, _ => exact va_eqt (hf (Cond.eq (.elem (.static "ClockCall" "FIRST_OF_PAIR" "[I") (.int 11)) (.int 2)) (by decide +kernel))
    | 12, _ => exact va_eqt (hf (Cond.eq (.elem (.static "ClockCall" "FIRST_OF_PAIR" "[I") (.int 12)) (.int 3)) (by decide +kernel))
    | 13, _ => exact va_eqt (hf (Cond.eq (.elem (.static "ClockCall" "FIRST_OF_PAIR" "[I") (.int 13)) (.int 3)) (by decide +kernel))
    | 14, _ => exact va_eqt (hf (Cond.eq (.elem (.static "ClockCall" "FIRST_OF_PAIR" "[I") (.int 14)) (.int 4)) (by decide +kernel))
    | n + 15, h => omega
  obtain ⟨t, h1, h2⟩ := va_Tof (A := A) (by decide) harr hlen hel hA
  exact ⟨t, h2, va_Zref (hts (.laysStatic "ClockCall" "FIRST_OF_PAIR" "[I") (by decide +kernel)) (hts (.initialized "ClockCall") (by decide +kernel)) h1 hA⟩
theorem tab_tb2 {s : State} {args : Array Value} (hf : ∀ c ∈ flatC (Jvm.Cond.and given_1 narrow_1), c.before args s = true) (hts : ∀ w ∈ lw_tbl, w.before args s = true) {A : Nat → Prop} (hA : ∀ a : Nat, a < s.heap.size → ¬ A a) : ∃ t : Nat, va_T .int t 15 (fun j => .int (tb2.getD j 0)) A s s.heap ∧ va_Z "ClockCall" "SECOND_OF_PAIR" "[I" (.ref t) A s s.heap := by
  have harr := hf (Cond.arrayOf (.static "ClockCall" "SECOND_OF_PAIR" "[I") .int) (by decide +kernel)
  have hlen := va_eqt (hf (Cond.eq (.length (.static "ClockCall" "SECOND_OF_PAIR" "[I")) (.int 15)) (by decide +kernel))
  have hel : ∀ j : Nat, j < 15 → (Term.elem (.static "ClockCall" "SECOND_OF_PAIR" "[I") (.int (Int32.ofNat j))).eval args s none [] s = some (.int (tb2.getD j 0)) := by
    intro j hj
    match j, hj with
    | 0, _ => exact va_eqt (hf (Cond.eq (.elem (.static "ClockCall" "SECOND_OF_PAIR" "[I") (.int 0)) (.int 1)) (by decide +kernel))
    | 1, _ => exact va_eqt (hf (Cond.eq (.elem (.static "ClockCall" "SECOND_OF_PAIR" "[I") (.int 1)) (.int 2)) (by decide +kernel))
    | 2, _ => exact va_eqt (hf (Cond.eq (.elem (.static "ClockCall" "SECOND_OF_PAIR" "[I") (.int 2)) (.int 3)) (by decide +kernel))
    | 3, _ => exact va_eqt (hf (Cond.eq (.elem (.static "ClockCall" "SECOND_OF_PAIR" "[I") (.int 3)) (.int 4)) (by decide +kernel))
    | 4, _ => exact va_eqt (hf (Cond.eq (.elem (.static "ClockCall" "SECOND_OF_PAIR" "[I") (.int 4)) (.int 5)) (by decide +kernel))
    | 5, _ => exact va_eqt (hf (Cond.eq (.elem (.static "ClockCall" "SECOND_OF_PAIR" "[I") (.int 5)) (.int 2)) (by decide +kernel))
    | 6, _ => exact va_eqt (hf (Cond.eq (.elem (.static "ClockCall" "SECOND_OF_PAIR" "[I") (.int 6)) (.int 3)) (by decide +kernel))
    | 7, _ => exact va_eqt (hf (Cond.eq (.elem (.static "ClockCall" "SECOND_OF_PAIR" "[I") (.int 7)) (.int 4)) (by decide +kernel))
    | 8, _ => exact va_eqt (hf (Cond.eq (.elem (.static "ClockCall" "SECOND_OF_PAIR" "[I") (.int 8)) (.int 5)) (by decide +kernel))
    | 9, _ => exact va_eqt (hf (Cond.eq (.elem (.static "ClockCall" "SECOND_OF_PAIR" "[I") (.int 9)) (.int 3)) (by decide +kernel))
    | 10, _ => exact va_eqt (hf (Cond.eq (.elem (.static "ClockCall" "SECOND_OF_PAIR" "[I") (.int 10)) (.int 4)) (by decide +kernel))
    | 11, _ => exact va_eqt (hf (Cond.eq (.elem (.static "ClockCall" "SECOND_OF_PAIR" "[I") (.int 11)) (.int 5)) (by decide +kernel))
    | 12, _ => exact va_eqt (hf (Cond.eq (.elem (.static "ClockCall" "SECOND_OF_PAIR" "[I") (.int 12)) (.int 4)) (by decide +kernel))
    | 13, _ => exact va_eqt (hf (Cond.eq (.elem (.static "ClockCall" "SECOND_OF_PAIR" "[I") (.int 13)) (.int 5)) (by decide +kernel))
    | 14, _ => exact va_eqt (hf (Cond.eq (.elem (.static "ClockCall" "SECOND_OF_PAIR" "[I") (.int 14)) (.int 5)) (by decide +kernel))
    | n + 15, h => omega
  obtain ⟨t, h1, h2⟩ := va_Tof (A := A) (by decide) harr hlen hel hA
  exact ⟨t, h2, va_Zref (hts (.laysStatic "ClockCall" "SECOND_OF_PAIR" "[I") (by decide +kernel)) (hts (.initialized "ClockCall") (by decide +kernel)) h1 hA⟩
theorem start_of (hT : ∀ (l : Launch) (E : eE), eL E ≤ 3072 → Tot l E mL 100 600000 7302250 0 [some (.inr (some (5, 0, 0))), none, none, none] [] h00 (fun r _ => r = some (.inl 1)))
    {p : Program} {e : Env} {s : State} {m : MethodId} {below : List Frame} {meth : Method} {c : Code} (l : Launch) {b L : Nat} {xs : Nat → Int32} (hL : L ≤ 3072) (C0 : lw_At p s m meth c b L xs) : W p l e room_1 s m #[Value.ref b] below meth c s.heap [] 0 0 (lw_Z below #[Value.ref b] s) (entryFrame m ([Value.ref b] : List Value).toArray 4) := by
  obtain ⟨hx, hb, hr, hml, hown, hts, hX, hbl, hlocks, hgv⟩ := id C0
  have hf := flat_of_before _ hgv
  have hA : ∀ a : Nat, a < s.heap.size → ¬ (fun q => s.heap.size ≤ q) a := fun a h => Nat.not_le.mpr h
  obtain ⟨t1, hT1, hZ1⟩ := tab_tb1 hf hts hA
  obtain ⟨t2, hT2, hZ2⟩ := tab_tb2 hf hts hA
  obtain ⟨dK, hdK⟩ := Classical.skolem.mp (known_cl hts)
  have hck : ∀ k : Nat, ∃ cA : ClassId, k ∈ kinds → ArrOfT s cA (kty k) ∧ va_RA s cA (kty k) := by
    intro k
    by_cases hk : k ∈ kinds
    · have hk' : k = 1 ∨ k = 2 ∨ k = 3 ∨ k = 12 ∨ k = 14 ∨ k = 16 ∨ k = 17 ∨ k = 18 := by simpa [kinds] using hk
      rcases hk' with rfl | rfl | rfl | rfl | rfl | rfl | rfl | rfl
      · obtain ⟨cA, h1, h2⟩ := arr_prim (t := .int) (hts (.arrayClass .int) (by decide +kernel)); exact ⟨cA, fun _ => ⟨h1, h2⟩⟩
      · obtain ⟨cA, h1, h2⟩ := arr_prim (t := .boolean) (hts (.arrayClass .boolean) (by decide +kernel)); exact ⟨cA, fun _ => ⟨h1, h2⟩⟩
      · obtain ⟨cA, h1, h2⟩ := arr_prim (t := .byte) (hts (.arrayClass .byte) (by decide +kernel)); exact ⟨cA, fun _ => ⟨h1, h2⟩⟩
      · obtain ⟨cA, h1⟩ := arr_ref (C := RX4) (hts (.arrayOver (.object RX4)) (by decide +kernel)); exact ⟨cA, fun _ => h1⟩
      · obtain ⟨cA, h1⟩ := arr_ref (C := RX6) (hts (.arrayOver (.object RX6)) (by decide +kernel)); exact ⟨cA, fun _ => h1⟩
      · obtain ⟨cA, h1⟩ := arr_ref (C := RX8) (hts (.arrayOver (.object RX8)) (by decide +kernel)); exact ⟨cA, fun _ => h1⟩
      · obtain ⟨cA, h1⟩ := arr_ref (C := RX9) (hts (.arrayOver (.object RX9)) (by decide +kernel)); exact ⟨cA, fun _ => h1⟩
      · obtain ⟨cA, h1⟩ := arr_ref (C := RX10) (hts (.arrayOver (.object RX10)) (by decide +kernel)); exact ⟨cA, fun _ => h1⟩
    · exact ⟨0, fun h => absurd h hk⟩
  obtain ⟨cK, hcK⟩ := Classical.skolem.mp hck
  obtain ⟨E, hE⟩ : ∃ E : eE, E = (s.heap.size, (fun k => (dK k).1, fun k => (dK k).2), cK, (fun w => match w with | 0 => b | 1 => t1 | _ => t2), L, xs) := ⟨_, rfl⟩
  have hV : RepV E s := by
    subst hE
    refine ⟨⟨fun k q hq => hdK k q hq, fun j q hq => ?_⟩, fun a i y b hm => va_Nw.of rfl (hts _ hm), fun a i b n d x hm => va_Nw.of rfl (hts _ hm), fun C hm => hts _ hm, fun w hw => ?_, hZ1, hZ2, hL⟩
    · obtain ⟨k, hk, rfl⟩ := List.mem_map.mp (List.mem_of_getElem? hq)
      exact hcK k hk
    · match w, hw with
      | 0, _ =>
        obtain ⟨scr, g1, g2, g3, g4, g5⟩ := hX
        exact ⟨scr, g1, g2, g3, by rw [g4]; exact Nat.le_refl _, by rw [g4]; rfl, fun j hj => g5 j hj, hA b hbl⟩
      | 1, _ => exact hT1
      | 2, _ => exact hT2
      | n + 3, h => omega
  have hz : eZ E = s.heap.size := by rw [hE]
  have hH : RepH E h00 s.heap := ⟨by rw [hz]; rfl, fun k q hq => by simp [wl, h00, hN] at hq, ⟨fun i k q hq => (by cases hq), fun i k q hq => (by cases hq)⟩⟩
  have hl := lv_entry ([.ref b]) (n := 4) (Nat.le_of_ble_eq_true rfl)
  rw [lg_entry_eq]
  generalize (lg_sl ([.ref b]) ++ List.replicate (4 - (lg_sl ([.ref b])).length) Slot.unset).toArray = lc at hl ⊢
  have hl : lv_has lc 4 [(0, .ref b)] := hl
  have hX0 : eX E 0 = b := by rw [hE]; rfl
  refine hT l E (by rw [hE]; exact hL) p e room_1 s m #[Value.ref b] below meth c s.heap [] 0 0 _ lc ⟨hx, hb, hml, hown, fun w hw => hts w (tsG_sub w hw), ?_, hV, by rw [hz]; exact Nat.le_refl _, by decide, by decide⟩ hH va_S.rf (by decide) (by decide) ⟨⟨hl.1, rfl⟩, hl.2.1, fun i v hi => ?_⟩ ?_ (fun v hv => by cases hv) ?_
  · exact fun q => absurd q (by decide)
  · match i, hi with
    | 0, hi =>
      cases hi
      have := hl.2.2 (0, .ref b) List.mem_cons_self
      simpa [cv, cvA, adr, hX0, va_rf] using this
    | 1, hi => cases hi
    | 2, hi => cases hi
    | 3, hi => cases hi
    | n + 4, hi => simp at hi
  · intro v hv
    simp at hv
    subst hv
    intro r hr q hq
    cases hr
    cases hq
    exact Or.inl rfl
  · intro r h' H' locs' cells' slots' pc' lc' hQ hH' hS' hc' hs' hex hokr hret
    subst hQ
    rcases hret with ⟨q, -⟩ | ⟨x, ty, e1, e2, e3, hd⟩ | ⟨q, C, e1, -⟩
    · cases q
    · refine va_forget (fun q hq => by have := hS'.2.2 q hq; rw [← hz]; exact this) ?_
      refine W.widen (k := 600000) (n := 7302250) hc' hs' ?_
      exact lw_ret hx hb hr hlocks hd
    · cases e1
