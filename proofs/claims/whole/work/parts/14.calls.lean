/-! ===== contracts and calls ===== -/
theorem fb_rng' (x : Int32) : -2147483648 ≤ x.toInt ∧ x.toInt < 2147483648 := ⟨Int32.le_toInt x, Int32.toInt_lt x⟩
section RULES4
variable {l : Launch} {E : eE} {M : aM} {d bc bs pc : Nat} {ls : List (Option aV)} {st : List aV} {h : aH} {Q : Option aV → aH → Prop}
def enL (args : List aV) (n : Nat) : List (Option aV) := args.map some ++ List.replicate (n - args.length) none
theorem lv_args_1 (E : eE) : ∀ (as : List aV) (i : Nat), ∀ j v, as[j]? = some v → (i + j, cv E v) ∈ lv_args i (as.map (cv E)) := by
  intro as
  induction as with
  | nil => intro i j v h; simp at h
  | cons a as ih =>
    intro i j v h
    rw [List.map_cons]
    unfold lv_args
    rw [if_neg (by rw [cv_cat]; decide)]
    cases j with
    | zero =>
      simp at h
      subst h
      exact List.mem_cons_self
    | succ j =>
      have := ih (i + 1) j v (by simpa using h)
      refine List.mem_cons_of_mem _ ?_
      rw [show i + (j + 1) = i + 1 + j by omega]
      exact this
theorem lg_sl_len (E : eE) (as : List aV) : (lg_sl (as.map (cv E))).length = as.length := by
  induction as with
  | nil => rfl
  | cons a as ih =>
    rw [List.map_cons]
    unfold lg_sl at ih ⊢
    rw [List.flatMap_cons, List.length_append, ih, if_neg (by rw [cv_cat]; decide)]
    simp
    omega
theorem enL_at {args : List aV} {n i : Nat} {v : aV} (hi : (enL args n)[i]? = some (some v)) : args[i]? = some v := by
  unfold enL at hi
  by_cases g : i < args.length
  · rw [List.getElem?_append_left (by simpa using g)] at hi
    simpa using hi
  · rw [List.getElem?_append_right (by simp; omega)] at hi
    have := List.mem_of_getElem? hi
    simp at this
/-- a contract out of a walk from the entry -/
theorem Mt.of {mc ms : Nat} {args : List aV} (hp : plainName M.1.cls = true) (hn : Nat.ble args.length M.2.2.1 = true) (hT : Tot l E M d mc ms 0 (enL args M.2.2.1) [] h Q) : Mt l E d mc ms M args h Q := by
  have hn := Nat.le_of_ble_eq_true hn
  refine Met.ofW (cc := M.2.1) (maxL := M.2.2.1) (ret := M.2.2.2) hp rfl ?_
  intro p e s m ag below meth c s₁ B hml hv
  obtain ⟨rfl, hH, hV, hok⟩ := hv
  have hts := atoms_spec (ws := .code M.1 M.2.1 M.2.2.1 M.2.2.2 :: tsG) B.pre
  have hown : s.vm.findClass M.1.cls = some m.cls := findClass_of_methodNamed B.named
  have hnm : M.1.name = "<init>" → meth.name = "<init>" := fun z => ((name_of_methodNamed B.named B.method).1).trans z
  have hlocks := B.notSynchronized
  have hl := lv_entry (args.map (cv E)) (n := M.2.2.1) (by rw [lg_sl_len]; exact hn)
  rw [lg_entry_eq]
  generalize ((lg_sl (args.map (cv E))) ++ List.replicate (M.2.2.1 - (lg_sl (args.map (cv E))).length) Slot.unset).toArray = lc at hl ⊢
  have hls : lsOK E lc M.2.2.1 (enL args M.2.2.1) := ⟨⟨hl.1, by simp [enL]; omega⟩, hl.2.1, fun i v hi => by
    have := hl.2.2 (0 + i, cv E v) (lv_args_1 E args 0 i v (enL_at hi))
    simpa using this⟩
  refine hT p e _ s m _ below meth c s.heap [] 0 0 _ lc ⟨B.exec, B.bytes, hml, hown, fun w hw => hts w (List.mem_cons_of_mem _ hw), hnm, hV, by rw [hH.1]; omega, Nat.le_refl d, Nat.le_refl _⟩ hH va_S.rf (by show 0 + mc ≤ mc; omega) (by show 0 + ms ≤ ms; omega) hls ?_ (fun v hv => by cases hv) ?_
  · intro v hv
    obtain ⟨i, hi⟩ := List.getElem?_of_mem hv
    exact hok v (List.mem_of_getElem? (enL_at hi))
  · intro r h' H' locs' cells' slots' pc' lc' hQ hH' hS' hc' hs' hex hokr hret
    refine W.widen (k := mc) (n := ms) hc' hs' ?_
    rcases hret with ⟨rfl, hr, hd⟩ | ⟨x, ty, rfl, hr, hn, hd⟩ | ⟨q, C, rfl, hr, hd⟩
    · exact W.vret B.exec B.bytes (B.returns.trans hr) (fun t ht hW => ⟨⟨none, h', rfl, hQ, by rw [ht]; exact hH', hex, hokr⟩, hS'.F ht⟩) hS'.2.2 hd
    · exact W.zret B.exec B.bytes (B.returns.trans hr) hn (fun t ht hW => ⟨⟨some (.inl x), h', rfl, hQ, by rw [ht]; exact hH', hex, hokr⟩, hS'.F ht⟩) hS'.2.2 hd
    · exact W.aret (v := cv E (.inr q)) B.exec B.bytes (B.returns.trans hr) (Or.inl ⟨C, rfl⟩) (by cases q with
        | none => exact Or.inl rfl
        | some a => exact Or.inr ⟨_, rfl⟩) (fun t ht hW => ⟨⟨some (.inr q), h', rfl, hQ, by rw [ht]; exact hH', hex, hokr⟩, hS'.F ht⟩) hS'.2.2 hd
theorem Mt.mono {mc ms : Nat} {args : List aV} {Q' : Option aV → aH → Prop} (hq : ∀ r h', Q r h' → Q' r h') (k : Mt l E d mc ms M args h Q) : Mt l E d mc ms M args h Q' := by
  intro p e ha hc hk s m ag below hf happ hP hT
  obtain ⟨n, o, h1, h2, h3, ⟨⟨r, h', e1, e2, e3⟩, e4⟩, h5⟩ := k p e ha hc hk s m ag below hf happ hP hT
  exact ⟨n, o, h1, h2, h3, ⟨⟨r, h', e1, hq _ _ e2, e3⟩, e4⟩, h5⟩
/-- what lies behind a call -/
theorem call_on {p : Program} {e : Env} {R : Room} {s : State} {m : MethodId} {args : Array Value} {below : List Frame} {meth : Method} {c : Code} {H : Heap} {locs : List Loc} {cells slots mc ms : Nat} {G : State → Prop} {lc : Array Slot} {st0 : List Value} {rest : List aV} {Q1 : Option aV → aH → Prop}
    (hr : va_Run p l e R s m args below meth c H locs cells slots mc ms (F0 m pc lc st0) (rest.map (cv E)) (fun st oc t => (∃ (r : Option aV) (h' : aH), oc = .returned (r.map (cv E)) ∧ Q1 r h' ∧ RepH E h' t.heap ∧ exH h h' ∧ okO h' r) ∧ va_F (eA E) st t) (eA E)) (hS : va_S (eA E) s.heap H locs)
    (kk : ∀ (r : Option aV) (h' : aH) (H1 : Heap) (locs1 : List Loc), Q1 r h' → RepH E h' H1 → exH h h' → okO h' r → va_S (eA E) s.heap H1 locs1 → W p l e R s m args below meth c H1 locs1 (cells + mc) (slots + ms) G (F0 m (pc + 3) lc ((r.toList ++ rest).map (cv E)))) : W p l e R s m args below meth c H locs cells slots G (F0 m pc lc st0) := by
  intro T hT X
  obtain ⟨v, st₀, t, T', L, h0, X', hL, e1, e2, ⟨⟨r, h', hv, hq, hR, hex, hok⟩, hz, hk⟩, stp⟩ := hr T hT X
  rw [h0] at hz hk
  have hv' : v = r.map (cv E) := by cases hv; rfl
  subst hv'
  obtain ⟨t2, a1, b1⟩ := kk r h' T'.heap (locs ++ L) hq (by rw [e1]; exact hR) hex hok
    ⟨Nat.le_trans hS.1 (by rw [e1]; exact hz), fun q h1 h2 => by rw [e1, hk q (Nat.lt_of_lt_of_le h1 hS.1) h2]; exact hS.2.1 q h1 h2, fun q hq => by
      rcases List.mem_append.mp hq with h | h
      · exact hS.2.2 q h
      · exact hL q h⟩ T' rfl X'
  refine ⟨t2, stp t2 ?_, b1⟩
  cases r <;> exact a1
/-- the callee's words -/
def cOK (Y : aM) (n : Nat) : Prop := Cond.code Y.1 Y.2.1 Y.2.2.1 Y.2.2.2 ∈ tsG ∧ Cond.initialized Y.1.cls ∈ tsG ∧ (Y.1.cls ≠ "java/lang/invoke/MethodHandle" ∧ Y.1.cls ≠ "java/lang/invoke/VarHandle" ∧ (parseMethodDescriptor Y.1.desc).map (fun d => d.parameters.length) = some n) ∧ Y.2.2.1 ≤ 40
theorem ws_good {Y : aM} {n : Nat} (hY : cOK Y n) : GoodIn tsG (.code Y.1 Y.2.1 Y.2.2.1 Y.2.2.2 :: tsG) := fun w hw => (List.mem_cons.mp hw).elim (fun e => by rw [e]; exact ⟨hY.1, good_of_word (tsG_all _ hY.1)⟩) (fun hw => ⟨hw, good_of_word (tsG_all w hw)⟩)
theorem pre_of {Y : aM} {As : List aV} {s : State} {H : Heap} {locs : List Loc} (hV : RepV E s) (hH : RepH E h H) (hS : va_S (eA E) s.heap H locs) (hok : okS h As) : PreS s H (fun v U => v = (As.map (cv E)).toArray ∧ RepH E h U.heap ∧ RepV E U ∧ okS h As) (As.map (cv E)) :=
  ⟨fun a U g mk q => ⟨q.1, q.2.1, q.2.2.1.calling, q.2.2.2⟩, fun U hU hW => ⟨rfl, by rw [hU]; exact hH, hV.on hS hW hU, hok⟩⟩
theorem rest_room {rest : List aV} (h8 : Nat.ble rest.length 8 = true) : ((rest.map (cv E)).map fun v => v.category).sum ≤ 8 := by
  have h8 := Nat.le_of_ble_eq_true h8
  have : ∀ r : List aV, ((r.map (cv E)).map fun v => v.category).sum = r.length := by
    intro r
    induction r with
    | nil => rfl
    | cons a r ih => rw [List.map_cons, List.map_cons, List.sum_cons, ih, cv_cat, List.length_cons]; omega
  rw [this]
  exact h8
theorem okS.app {a b : List aV} (h1 : okS h a) (h2 : okS h b) : okS h (a ++ b) := fun v hv => (List.mem_append.mp hv).elim (h1 v) (h2 v)
theorem okO.stk {r : Option aV} (hr : okO h r) : okS h r.toList := fun v hv => by
  cases r with
  | none => simp at hv
  | some w => simp at hv; exact hr v (by rw [hv])
theorem okS.rv {x : aV} {As rest : List aV} (k : okS h (As.reverse ++ x :: rest)) : okS h (x :: As) := fun v hv => by
  rcases List.mem_cons.mp hv with q | q
  · exact k v (List.mem_append_right _ (by rw [q]; exact List.mem_cons_self))
  · exact k v (List.mem_append_left _ (List.mem_reverse.mpr q))
theorem okS.rv0 {As rest : List aV} (k : okS h (As.reverse ++ rest)) : okS h As := fun v hv => k v (List.mem_append_left _ (List.mem_reverse.mpr hv))
theorem okS.rr {As rest : List aV} (k : okS h (As ++ rest)) : okS h rest := fun v hv => k v (List.mem_append_right _ hv)
variable {Y : aM} {n mc ms idx : Nat} {As rest : List aV} {Q1 : Option aV → aH → Prop}
/-- a call of an instance method, of a known class -/
theorem z_callV {c o : Nat} (hd : decode M.2.1 pc = .ok (.invokevirtual idx, 3)) (hY : cOK Y n) (hw : Cond.methodLink M.1.cls idx Y.1 ∈ tsG ∧ Cond.instanceMethod Y.1 ∈ tsG ∧ Cond.selects Y.1.cls Y.1 Y.1 ∈ tsG) (hc : ∃ T N, vwCl[c]? = some (Y.1.cls, T, N)) (hn : As.length = n) (h8 : Nat.ble rest.length 8 = true)
    (hM : Mt l E d mc ms Y (.inr (some (0, c, o)) :: As) h Q1) (kk : ∀ r h', Q1 r h' → exH h h' → Tot l E M (d + 1) bc bs (pc + 3) ls (r.toList ++ rest) h' Q) : Tot l E M (d + 1) (bc + mc) (bs + ms) pc ls (As.reverse ++ .inr (some (0, c, o)) :: rest) h Q := by
  intro p e R s m args below meth co H locs cells slots G lc Cc hH hS hce hsl hl hL hSt hret
  obtain ⟨hx, hb, hml, hown, hts, hnm, hV, hz, hfr, hlo⟩ := id Cc
  obtain ⟨T, N, hc⟩ := hc
  have hokA : okS h (.inr (some (0, c, o)) :: As) := okS.rv hSt
  obtain ⟨ho, ht⟩ := hokA.obj (by decide)
  have hrec := va_recv hV.1 hH.2.1 hc (show (wl E h)[o]? = some (eZ E + o, .inr (c, fls E h o c)) by rw [wl_at E h ho, cel_obj ht])
  have hp := pre_of (Y := Y) (As := .inr (some (0, c, o)) :: As) hV hH hS hokA
  have cb := callB_of (R := R) (s := s) (args := args) (rm := { frames := d, cells := mc, slots := ms, locals := 64 * d }) (own := M.1.cls) (index := idx) n hts (ws_good hY) rfl rfl rfl (hts _ hY.2.1) (hts _ hw.1) hY.2.2.1 ⟨hfr, by have := hY.2.2.2; show 8 + (Y.2.2.1 + 11) + 64 * d ≤ _; omega⟩
  have hst : (As.reverse ++ .inr (some (0, c, o)) :: rest).map (cv E) = (As.map (cv E)).reverse ++ .ref (eZ E + o) :: rest.map (cv E) := by
    rw [List.map_append, List.map_reverse, List.map_cons]; rfl
  rw [hst]
  refine call_on (Q1 := Q1) (h := h) (va_runV (As := As.map (cv E)) (rest := rest.map (cv E)) ⟨hx, hb, hml, hown, hts⟩ hM ⟨cb, hts _ hw.2.1, hts _ hw.2.2⟩ ⟨hp.1, hrec, hp.2⟩ rfl (by rw [List.length_map]; exact hn) hl.1.1 rfl (by show 2 * 0 + _ ≤ 8; have := rest_room (E := E) h8; omega) hd ⟨by omega, by omega⟩) hS (fun r h' H1 locs1 hq hR1 hex hok hS1 => ?_)
  exact kk r h' hq hex p e R s m args below meth co H1 locs1 (cells + mc) (slots + ms) G lc Cc hR1 hS1 (by omega) (by omega) hl (hL.ex hex) (okS.app hok.stk (okS.ex hex (okS.rr hSt).tl)) (fun r' h'' H' locs' cells' slots' pc' lc' q1 q2 q3 q4 q5 q6 q7 q8 => hret r' h'' H' locs' cells' slots' pc' lc' q1 q2 q3 q4 q5 (hex.tr q6) q7 q8)
/-- a call of a static method -/
theorem z_callS (hd : decode M.2.1 pc = .ok (.invokestatic idx, 3)) (hY : cOK Y n) (hw : Cond.methodLink M.1.cls idx Y.1 ∈ tsG ∧ Cond.static Y.1 ∈ tsG) (hn : As.length = n) (h8 : Nat.ble rest.length 8 = true)
    (hM : Mt l E d mc ms Y As h Q1) (kk : ∀ r h', Q1 r h' → exH h h' → Tot l E M (d + 1) bc bs (pc + 3) ls (r.toList ++ rest) h' Q) : Tot l E M (d + 1) (bc + mc) (bs + ms) pc ls (As.reverse ++ rest) h Q := by
  intro p e R s m args below meth co H locs cells slots G lc Cc hH hS hce hsl hl hL hSt hret
  obtain ⟨hx, hb, hml, hown, hts, hnm, hV, hz, hfr, hlo⟩ := id Cc
  have hokA : okS h As := okS.rv0 hSt
  have hp := pre_of (Y := Y) (As := As) hV hH hS hokA
  have cb := callB_of (R := R) (s := s) (args := args) (rm := { frames := d, cells := mc, slots := ms, locals := 64 * d }) (own := M.1.cls) (index := idx) n hts (ws_good hY) rfl rfl rfl (hts _ hY.2.1) (hts _ hw.1) hY.2.2.1 ⟨hfr, by have := hY.2.2.2; show 8 + (Y.2.2.1 + 11) + 64 * d ≤ _; omega⟩
  have hst : (As.reverse ++ rest).map (cv E) = (As.map (cv E)).reverse ++ rest.map (cv E) := by
    rw [List.map_append, List.map_reverse]
  rw [hst]
  refine call_on (Q1 := Q1) (h := h) (va_runS (As := As.map (cv E)) (rest := rest.map (cv E)) ⟨hx, hb, hml, hown, hts⟩ hM ⟨cb, hts _ hw.2⟩ hp rfl (by rw [List.length_map]; exact hn) hl.1.1 rfl (by show 2 * 0 + _ ≤ 8; have := rest_room (E := E) h8; omega) hd ⟨by omega, by omega⟩) hS (fun r h' H1 locs1 hq hR1 hex hok hS1 => ?_)
  exact kk r h' hq hex p e R s m args below meth co H1 locs1 (cells + mc) (slots + ms) G lc Cc hR1 hS1 (by omega) (by omega) hl (hL.ex hex) (okS.app hok.stk (okS.ex hex (okS.rr hSt))) (fun r' h'' H' locs' cells' slots' pc' lc' q1 q2 q3 q4 q5 q6 q7 q8 => hret r' h'' H' locs' cells' slots' pc' lc' q1 q2 q3 q4 q5 (hex.tr q6) q7 q8)
theorem z_callI {c o : Nat} (hd : decode M.2.1 pc = .ok (.invokespecial idx, 3)) (hY : cOK Y n) (hw : Cond.methodLink M.1.cls idx Y.1 ∈ tsG ∧ Cond.instanceMethod Y.1 ∈ tsG) (hin : Y.1.name = "<init>") (hrn : Y.2.2.2 = none) (hn : As.length = n) (h8 : Nat.ble rest.length 8 = true)
    (hM : Mt l E d mc ms Y (.inr (some (0, c, o)) :: As) h Q1) (kk : ∀ r h', Q1 r h' → exH h h' → Tot l E M (d + 1) bc bs (pc + 3) ls (r.toList ++ rest) h' Q) : Tot l E M (d + 1) (bc + mc) (bs + ms) pc ls (As.reverse ++ .inr (some (0, c, o)) :: rest) h Q := by
  obtain ⟨yn, yb, yl, yr⟩ := Y
  have hrn : yr = none := hrn
  subst hrn
  intro p e R s m args below meth co H locs cells slots G lc Cc hH hS hce hsl hl hL hSt hret
  obtain ⟨hx, hb, hml, hown, hts, hnm, hV, hz, hfr, hlo⟩ := id Cc
  have hokA : okS h (.inr (some (0, c, o)) :: As) := okS.rv hSt
  obtain ⟨ho, ht⟩ := hokA.obj (by decide)
  have hp := pre_of (Y := (yn, yb, yl, none)) (As := .inr (some (0, c, o)) :: As) hV hH hS hokA
  have cb := callB_of (R := R) (s := s) (args := args) (rm := { frames := d, cells := mc, slots := ms, locals := 64 * d }) (own := M.1.cls) (index := idx) n hts (ws_good hY) rfl rfl rfl (hts _ hY.2.1) (hts _ hw.1) hY.2.2.1 ⟨hfr, by have : yl ≤ 40 := hY.2.2.2; show 8 + (yl + 11) + 64 * d ≤ _; omega⟩
  have hst : (As.reverse ++ .inr (some (0, c, o)) :: rest).map (cv E) = (As.map (cv E)).reverse ++ .ref (eZ E + o) :: rest.map (cv E) := by
    rw [List.map_append, List.map_reverse, List.map_cons]; rfl
  rw [hst]
  refine call_on (Q1 := Q1) (h := h) (va_runI (As := As.map (cv E)) (rest := rest.map (cv E)) ⟨hx, hb, hml, hown, hts⟩ hM ⟨cb, hin, hts _ hw.2⟩ hp rfl (by rw [List.length_map]; exact hn) hl.1.1 rfl (by show 2 * 0 + _ ≤ 8; have := rest_room (E := E) h8; omega) hd ⟨by omega, by omega⟩) hS (fun r h' H1 locs1 hq hR1 hex hok hS1 => ?_)
  exact kk r h' hq hex p e R s m args below meth co H1 locs1 (cells + mc) (slots + ms) G lc Cc hR1 hS1 (by omega) (by omega) hl (hL.ex hex) (okS.app hok.stk (okS.ex hex (okS.rr hSt).tl)) (fun r' h'' H' locs' cells' slots' pc' lc' q1 q2 q3 q4 q5 q6 q7 q8 => hret r' h'' H' locs' cells' slots' pc' lc' q1 q2 q3 q4 q5 (hex.tr q6) q7 q8)
theorem z_callIN {c o : Nat} (hd : decode M.2.1 pc = .ok (.invokespecial idx, 3)) (hY : cOK Y n) (hw : Cond.methodLinkNest M.1.cls idx Y.1 "ClockCall" ∈ lw_tbl ∧ Cond.instanceMethod Y.1 ∈ tsG) (hin : Y.1.name = "<init>") (hrn : Y.2.2.2 = none) (hn : As.length = n) (h8 : Nat.ble rest.length 8 = true)
    (hM : Mt l E d mc ms Y (.inr (some (0, c, o)) :: As) h Q1) (kk : ∀ r h', Q1 r h' → exH h h' → Tot l E M (d + 1) bc bs (pc + 3) ls (r.toList ++ rest) h' Q) : Tot l E M (d + 1) (bc + mc) (bs + ms) pc ls (As.reverse ++ .inr (some (0, c, o)) :: rest) h Q := by
  obtain ⟨yn, yb, yl, yr⟩ := Y
  have hrn : yr = none := hrn
  subst hrn
  intro p e R s m args below meth co H locs cells slots G lc Cc hH hS hce hsl hl hL hSt hret
  obtain ⟨hx, hb, hml, hown, hts, hnm, hV, hz, hfr, hlo⟩ := id Cc
  have hokA : okS h (.inr (some (0, c, o)) :: As) := okS.rv hSt
  obtain ⟨ho, ht⟩ := hokA.obj (by decide)
  have hp := pre_of (Y := (yn, yb, yl, none)) (As := .inr (some (0, c, o)) :: As) hV hH hS hokA
  have cb := va_cnB (R := R) (host := "ClockCall") (s := s) (args := args) (rm := { frames := d, cells := mc, slots := ms, locals := 64 * d }) (own := M.1.cls) (index := idx) n hts (ws_good hY) rfl rfl rfl (hV.2.1 _ _ _ _ hw.1) (hts _ hY.2.1) hY.2.2.1 ⟨hfr, by have : yl ≤ 40 := hY.2.2.2; show 8 + (yl + 11) + 64 * d ≤ _; omega⟩
  have hst : (As.reverse ++ .inr (some (0, c, o)) :: rest).map (cv E) = (As.map (cv E)).reverse ++ .ref (eZ E + o) :: rest.map (cv E) := by
    rw [List.map_append, List.map_reverse, List.map_cons]; rfl
  rw [hst]
  refine call_on (Q1 := Q1) (h := h) (va_runIN (As := As.map (cv E)) (rest := rest.map (cv E)) ⟨hx, hb, hml, hown, hts⟩ hM ⟨cb, hin, hts _ hw.2⟩ hp rfl (by rw [List.length_map]; exact hn) hl.1.1 rfl (by show 2 * 0 + _ ≤ 8; have := rest_room (E := E) h8; omega) hd ⟨by omega, by omega⟩) hS (fun r h' H1 locs1 hq hR1 hex hok hS1 => ?_)
  exact kk r h' hq hex p e R s m args below meth co H1 locs1 (cells + mc) (slots + ms) G lc Cc hR1 hS1 (by omega) (by omega) hl (hL.ex hex) (okS.app hok.stk (okS.ex hex (okS.rr hSt).tl)) (fun r' h'' H' locs' cells' slots' pc' lc' q1 q2 q3 q4 q5 q6 q7 q8 => hret r' h'' H' locs' cells' slots' pc' lc' q1 q2 q3 q4 q5 (hex.tr q6) q7 q8)
/-- a call of a static method of a nest mate -/
theorem z_callSN (hd : decode M.2.1 pc = .ok (.invokestatic idx, 3)) (hY : cOK Y n) (hw : Cond.methodLinkNest M.1.cls idx Y.1 "ClockCall" ∈ lw_tbl ∧ Cond.static Y.1 ∈ tsG) (hn : As.length = n) (h8 : Nat.ble rest.length 8 = true)
    (hM : Mt l E d mc ms Y As h Q1) (kk : ∀ r h', Q1 r h' → exH h h' → Tot l E M (d + 1) bc bs (pc + 3) ls (r.toList ++ rest) h' Q) : Tot l E M (d + 1) (bc + mc) (bs + ms) pc ls (As.reverse ++ rest) h Q := by
  intro p e R s m args below meth co H locs cells slots G lc Cc hH hS hce hsl hl hL hSt hret
  obtain ⟨hx, hb, hml, hown, hts, hnm, hV, hz, hfr, hlo⟩ := id Cc
  have hokA : okS h As := okS.rv0 hSt
  have hp := pre_of (Y := Y) (As := As) hV hH hS hokA
  have cb := va_cnB (R := R) (host := "ClockCall") (s := s) (args := args) (rm := { frames := d, cells := mc, slots := ms, locals := 64 * d }) (own := M.1.cls) (index := idx) n hts (ws_good hY) rfl rfl rfl (hV.2.1 _ _ _ _ hw.1) (hts _ hY.2.1) hY.2.2.1 ⟨hfr, by have := hY.2.2.2; show 8 + (Y.2.2.1 + 11) + 64 * d ≤ _; omega⟩
  have hst : (As.reverse ++ rest).map (cv E) = (As.map (cv E)).reverse ++ rest.map (cv E) := by
    rw [List.map_append, List.map_reverse]
  rw [hst]
  refine call_on (Q1 := Q1) (h := h) (va_runSN (As := As.map (cv E)) (rest := rest.map (cv E)) ⟨hx, hb, hml, hown, hts⟩ hM ⟨cb, hts _ hw.2, trivial⟩ hp rfl (by rw [List.length_map]; exact hn) hl.1.1 rfl (by show 2 * 0 + _ ≤ 8; have := rest_room (E := E) h8; omega) hd ⟨by omega, by omega⟩) hS (fun r h' H1 locs1 hq hR1 hex hok hS1 => ?_)
  exact kk r h' hq hex p e R s m args below meth co H1 locs1 (cells + mc) (slots + ms) G lc Cc hR1 hS1 (by omega) (by omega) hl (hL.ex hex) (okS.app hok.stk (okS.ex hex (okS.rr hSt))) (fun r' h'' H' locs' cells' slots' pc' lc' q1 q2 q3 q4 q5 q6 q7 q8 => hret r' h'' H' locs' cells' slots' pc' lc' q1 q2 q3 q4 q5 (hex.tr q6) q7 q8)
/-- Object's own constructor -/
theorem z_obj {r : Nat × Nat × Nat} (hd : decode M.2.1 pc = .ok (.invokespecial idx, 3)) (hw : Cond.methodLink M.1.cls idx objectInit ∈ tsG) (hw2 : Cond.instanceMethod objectInit ∈ tsG) (hw3 : Cond.code objectInit ⟨#[0xb1]⟩ 1 none ∈ tsG) (h8 : Nat.ble st.length 8 = true) (kk : Tot l E M (d + 1) bc bs (pc + 3) ls st h Q) : Tot l E M (d + 1) bc bs pc ls (.inr (some r) :: st) h Q := by
  intro p e R s m args below meth co H locs cells slots G lc Cc hH hS hce hsl hl hL hSt hret
  obtain ⟨hx, hb, hml, hown, hts, hnm, hV, hz, hfr, hlo⟩ := id Cc
  exact W.objInit hx hb hown (hts _ hw) (hts _ hw2) (hts _ hw3) rfl (by rw [hml]; exact hl.1.1) rfl hd (by omega) (by show 2 * 0 + _ + 12 ≤ _; have := rest_room (E := E) h8; omega) (kk p e R s m args below meth co H locs cells slots G lc Cc hH hS hce hsl hl hL hSt.tl hret)
theorem z_ldc {v : Int32} (hd : decode M.2.1 pc = .ok (.ldc idx, 2)) (hw : Cond.constant M.1.cls idx v ∈ tsG) (kk : Tot l E M d bc bs (pc + 2) ls (.inl v :: st) h Q) : Tot l E M d bc bs pc ls st h Q := by
  intro p e R s m args below meth co H locs cells slots G lc Cc hH hS hce hsl hl hL hSt hret
  obtain ⟨hx, hb, hml, hown, hts, hnm, hV, hz, hfr, hlo⟩ := id Cc
  exact lv_ldc hx hb hown (hts _ hw) hd (kk p e R s m args below meth co H locs cells slots G lc Cc hH hS hce hsl hl hL (okS.cn (okV.int _ _) hSt) hret)
theorem z_ldcw {v : Int32} (hd : decode M.2.1 pc = .ok (.ldc_w idx, 3)) (hw : Cond.constant M.1.cls idx v ∈ tsG) (kk : Tot l E M d bc bs (pc + 3) ls (.inl v :: st) h Q) : Tot l E M d bc bs pc ls st h Q := by
  intro p e R s m args below meth co H locs cells slots G lc Cc hH hS hce hsl hl hL hSt hret
  obtain ⟨hx, hb, hml, hown, hts, hnm, hV, hz, hfr, hlo⟩ := id Cc
  exact lv_ldcw hx hb hown (hts _ hw) hd (kk p e R s m args below meth co H locs cells slots G lc Cc hH hS hce hsl hl hL (okS.cn (okV.int _ _) hSt) hret)
/-- the two tables of pairs -/
theorem z_gets1 (hd : decode M.2.1 pc = .ok (.getstatic idx, 3)) (hw : Cond.fieldLinkNest M.1.cls idx "ClockCall" "FIRST_OF_PAIR" "[I" "ClockCall" ∈ lw_tbl) (kk : Tot l E M d bc bs (pc + 3) ls (.inr (some (5, 1, 0)) :: st) h Q) : Tot l E M d bc bs pc ls st h Q := by
  intro p e R s m args below meth co H locs cells slots G lc Cc hH hS hce hsl hl hL hSt hret
  obtain ⟨hx, hb, hml, hown, hts, hnm, hV, hz, hfr, hlo⟩ := id Cc
  exact va_getsN hx hb hV.2.2.2.2.2.1 hS hown (va_Nw.use rfl (hV.2.2.1 _ _ _ _ _ _ hw)) (fun _ z => z) hd (kk p e R s m args below meth co H locs cells slots G lc Cc hH hS hce hsl hl hL (okS.cn (fun r hr q hq => by cases hr; cases hq; exact Or.inl rfl) hSt) hret)
theorem z_gets2 (hd : decode M.2.1 pc = .ok (.getstatic idx, 3)) (hw : Cond.fieldLinkNest M.1.cls idx "ClockCall" "SECOND_OF_PAIR" "[I" "ClockCall" ∈ lw_tbl) (kk : Tot l E M d bc bs (pc + 3) ls (.inr (some (5, 2, 0)) :: st) h Q) : Tot l E M d bc bs pc ls st h Q := by
  intro p e R s m args below meth co H locs cells slots G lc Cc hH hS hce hsl hl hL hSt hret
  obtain ⟨hx, hb, hml, hown, hts, hnm, hV, hz, hfr, hlo⟩ := id Cc
  exact va_getsN hx hb hV.2.2.2.2.2.2.1 hS hown (va_Nw.use rfl (hV.2.2.1 _ _ _ _ _ _ hw)) (fun _ z => z) hd (kk p e R s m args below meth co H locs cells slots G lc Cc hH hS hce hsl hl hL (okS.cn (fun r hr q hq => by cases hr; cases hq; exact Or.inl rfl) hSt) hret)
/-- a switch over 0 .. -/
def AllT (P : Nat → Nat → Prop) : List Nat → Nat → Prop
  | [], _ => True
  | t :: r, j => P j t ∧ AllT P r (j + 1)
theorem AllT.at {P : Nat → Nat → Prop} : ∀ {tg : List Nat} {i : Nat}, AllT P tg i → ∀ j t, tg[j]? = some t → P (i + j) t
  | [], _, _, j, t, h => by simp at h
  | a :: r, i, hA, 0, t, h => by simp at h; rw [← h]; exact hA.1
  | a :: r, i, hA, j + 1, t, h => by
    have := AllT.at hA.2 j t (by simpa using h)
    rw [show i + (j + 1) = i + 1 + j by omega]
    exact this
theorem z_table {x : Int32} {dflt hi : Int} {offs : Array Int} {len tgtD : Nat} (tg : List Nat) (hd : decode M.2.1 pc = .ok (.tableswitch dflt 0 hi offs, len)) (hsz : (tg.length : Int) = hi + 1) (hto : offs.toList.map (fun o => (pc : Int) + o) = tg.map (fun t : Nat => (t : Int))) (htD : (pc : Int) + dflt = (tgtD : Int))
    (kin : AllT (fun j t => x = nI j → Tot l E M d bc bs t ls st h Q) tg 0) (kout : (x.toInt < 0 ∨ hi < x.toInt) → Tot l E M d bc bs tgtD ls st h Q) : Tot l E M d bc bs pc ls (.inl x :: st) h Q := by
  intro p e R s m args below meth co H locs cells slots G lc Cc hH hS hce hsl hl hL hSt hret
  by_cases g : x.toInt < 0 ∨ hi < x.toInt
  · exact lv_tableOut Cc.1 Cc.2.1 hd g htD (kout g p e R s m args below meth co H locs cells slots G lc Cc hH hS hce hsl hl hL hSt.tl hret)
  · have g1 : ¬ x.toInt < 0 := fun q => g (Or.inl q)
    have g2 : ¬ hi < x.toInt := fun q => g (Or.inr q)
    obtain ⟨j, hj⟩ : ∃ j : Nat, x.toInt = (j : Int) := ⟨x.toInt.toNat, by omega⟩
    have hjl : j < tg.length := by omega
    have hx : x = nI j := by
      apply Int32.toInt_inj.mp
      rw [hj, nI_toInt]
      have := fb_rng' x
      omega
    have hol : j < offs.toList.length := by
      have := congrArg List.length hto
      simp at this
      simpa [this] using hjl
    have ho : offs[j]? = some (offs.toList[j]) := by
      rw [← Array.getElem?_toList, List.getElem?_eq_getElem hol]
    have ht : (pc : Int) + offs.toList[j] = ((tg[j] : Nat) : Int) := by
      have := congrArg (fun q => q[j]?) hto
      simp only [List.getElem?_map, List.getElem?_eq_getElem hol, List.getElem?_eq_getElem hjl, Option.map_some] at this
      exact Option.some.inj this
    have hk := (AllT.at kin j tg[j] (List.getElem?_eq_getElem hjl))
    rw [Nat.zero_add] at hk
    exact lv_tableIn Cc.1 Cc.2.1 hd g1 g2 (off := offs.toList[j]) (by rw [hj]; simpa using ho) ht (hk hx p e R s m args below meth co H locs cells slots G lc Cc hH hS hce hsl hl hL hSt.tl hret)
/-- System.arraycopy of ints -/
theorem z_copy {n0 n1 a0 a1 : Nat} {sp dp k : Int32} (hd : decode M.2.1 pc = .ok (.invokestatic idx, 3)) (hw : Cond.methodLink M.1.cls idx arraycopyName ∈ tsG ∧ Cond.native arraycopyName ∈ tsG ∧ Cond.static arraycopyName ∈ tsG ∧ Cond.initialized "java/lang/System" ∈ tsG) (h1 : ¬ sp < 0) (h2 : ¬ dp < 0) (h3 : ¬ k < 0) (h4 : sp.toNatClampNeg + k.toNatClampNeg ≤ n0) (h5 : dp.toNatClampNeg + k.toNatClampNeg ≤ n1) (h8 : Nat.ble st.length 8 = true)
    (kk : Tot l E M (d + 1) bc bs (pc + 3) ls st (stAA h a1 (va_cpy (hA h a0) (hA h a1) sp.toNatClampNeg dp.toNatClampNeg k.toNatClampNeg)) Q) : Tot l E M (d + 1) bc bs pc ls (.inl k :: .inl dp :: .inr (some (1, n1, a1)) :: .inl sp :: .inr (some (1, n0, a0)) :: st) h Q := by
  intro p e R s m args below meth co H locs cells slots G lc Cc hH hS hce hsl hl hL hSt hret
  obtain ⟨hx, hb, hml, hown, hts, hnm, hV, hz, hfr, hlo⟩ := id Cc
  obtain ⟨ho1, ht1⟩ := hSt.tl.tl.obj (by decide)
  obtain ⟨ho0, ht0⟩ := hSt.tl.tl.tl.tl.obj (by decide)
  have hc0 := hH.cellA ho0 ht0 (by decide) (by decide)
  have hc1 := hH.cellA ho1 ht1 (by decide) (by decide)
  have nn : ∀ z : Int32, ¬ z < 0 → z.toInt = (z.toNatClampNeg : Int) := by
    intro z hz
    have hz0 : (0 : Int) ≤ z.toInt := by
      have := Int32.not_lt.mp hz
      simpa using Int32.le_iff_toInt_le.mp this
    show z.toInt = ((z.toInt.toNat : Nat) : Int)
    omega
  have e9 : nativeFrameWords "java/lang/System" "arraycopy" 5 + 11 ≤ 50 := by decide +kernel
  intro T hTT X
  obtain ⟨-, k0, hk0, cm0, hkk0⟩ := (hV.1.2 0 _ rfl).1 n0 (fun j => .int (hA h a0 j))
  obtain ⟨-, k1, hk1, cm1, hkk1⟩ := (hV.1.2 0 _ rfl).1 n1 (fun j => .int (hA h a1 j))
  obtain ⟨vm', X', step⟩ := X.arraycopy hx hown (hts _ hw.1) (hts _ hw.2.1) (hts _ hw.2.2.1) (hts _ hw.2.2.2) (src := eZ E + a0) (dst := eZ E + a1) (cs := arrV (eK E 1) n0 (fun j => .int (hA h a0 j))) (cd := arrV (eK E 1) n1 (fun j => .int (hA h a1 j))) (srcPos := sp) (destPos := dp) (n := k) (by rw [hTT]; exact hc0) (by rw [hTT]; exact hc1)
    (fun _ h => by cases h) (fun _ h => by cases h) (fun h => by cases h) (fun h => by cases h) hk0 hk1 hkk0 hkk1 (by simp [kty, refKind]) h1 h2 h3
    (by rw [nn sp h1, nn k h3, arrV_size]; omega)
    (by rw [nn dp h2, nn k h3, arrV_size]; omega)
    (fun vm₁ _ i hi => by
      have e : (arrV (eK E 1) n0 (fun j => .int (hA h a0 j))).slots.getD (sp.toNatClampNeg + i) .null = .int (hA h a0 (sp.toNatClampNeg + i)) := by
        rw [Array.getD_eq_getD_getElem?, arrV_read _ _ (by omega)]
        rfl
      refine ⟨?_, ?_⟩
      · rw [e]
        rfl
      · rw [e]
        exact trivial)
    (g := F0 m pc lc (.int k :: .int dp :: .ref (eZ E + a1) :: .int sp :: .ref (eZ E + a0) :: st.map (cv E))) rfl (by rw [hml]; exact hl.1.1) (rest := st.map (cv E)) rfl (by rw [hb]; exact hd) (by omega) (by show 2 * 0 + _ + _ ≤ _; have := rest_room (E := E) h8; omega)
  have e1 : copied (arrV (eK E 1) n0 (fun j => .int (hA h a0 j))) (arrV (eK E 1) n1 (fun j => .int (hA h a1 j))) sp dp k = arrV (eK E 1) n1 (fun j => .int (va_cpy (hA h a0) (hA h a1) sp.toNatClampNeg dp.toNatClampNeg k.toNatClampNeg j)) := va_copied (fun z => .int z) (eK E 1) (eK E 1) (hA h a0) (hA h a1) h4
  rw [e1] at X' step
  have hl1 : eZ E + a1 < H.size := (Array.getElem?_eq_some_iff.mp hc1).1
  generalize hH1 : ((T.setVm vm').setCell (eZ E + a1) (arrV (eK E 1) n1 (fun j => .int (va_cpy (hA h a0) (hA h a1) sp.toNatClampNeg dp.toNatClampNeg k.toNatClampNeg j)))) = T1 at X' step
  have hheap : T1.heap = H.setIfInBounds (eZ E + a1) (arrV (eK E 1) n1 (fun j => .int (va_cpy (hA h a0) (hA h a1) sp.toNatClampNeg dp.toNatClampNeg k.toNatClampNeg j))) := by rw [← hH1, ← hTT]; rfl
  have oq : ∀ q : Nat, q ≠ eZ E + a1 → T1.heap[q]? = H[q]? := fun q hq => by rw [hheap]; simp [Array.getElem?_setIfInBounds, Ne.symm hq]
  have hzz : T1.heap.size = H.size := by rw [hheap]; simp
  have hR1 : RepH E (stAA h a1 (va_cpy (hA h a0) (hA h a1) sp.toNatClampNeg dp.toNatClampNeg k.toNatClampNeg)) T1.heap := by
    refine hH.set (i := a1) rfl stAA_cel hH.2.2.stAA hzz oq (fun _ => ?_)
    have e : hT (stAA h a1 (va_cpy (hA h a0) (hA h a1) sp.toNatClampNeg dp.toNatClampNeg k.toNatClampNeg)) a1 = (1, n1) := ht1
    rw [cel_arr e (by decide) (by decide)]
    show T1.heap[eZ E + a1]? = some (vp_cell _ _)
    rw [vp_cell_i, hheap]
    simp [Array.getElem?_setIfInBounds, hl1, stAA, up1, hA]
  obtain ⟨t, q1, q2⟩ := kk p e R s m args below meth co T1.heap _ cells slots G lc Cc hR1 ⟨by rw [hzz]; exact hS.1, fun q g1 g2 => by
      rw [oq q (fun e => g2 (by rw [e]; show eZ E ≤ _; omega))]
      exact hS.2.1 q g1 g2, fun q hq => by
      rcases List.mem_append.mp hq with h | h
      · exact hS.2.2 q h
      · obtain ⟨z, -, hz⟩ := List.mem_map.mp h
        rw [← hz]
        show eZ E ≤ _
        simp⟩ hce hsl hl hL hSt.tl.tl.tl.tl.tl hret T1 rfl X'
  exact ⟨t, step t q1, q2⟩
end RULES4
