/-! ===== contracts and calls ===== -/
section RULES4
variable {l : Launch} {E : eE} {M : aM} {d bc bs pc : Nat} {ls : List (Option aV)} {st : List aV} {h : aH} {Q : Option aV → aH → Prop}
def enL (args : List aV) (n : Nat) : List (Option aV) := args.map some ++ List.replicate (n - args.length) none
theorem lv_args_1 (E : eE) : ∀ (as : List aV) (i : Nat), ∀ j v, as[j]? = some v → (i + j, cv E v) ∈ lv_args i (as.map (cv E)) := by
  intro as
  induction as with
  | nil => intro i j v h; simp at h
  | cons a as ih =>
    intro i j v h
    rw [List.map_cons]
    unfold lv_args
    rw [if_neg (by rw [cv_cat]; decide)]
    cases j with
    | zero =>
      simp at h
      subst h
      exact List.mem_cons_self
    | succ j =>
      have := ih (i + 1) j v (by simpa using h)
      refine List.mem_cons_of_mem _ ?_
      rw [show i + (j + 1) = i + 1 + j by omega]
      exact this
theorem lg_sl_len (E : eE) (as : List aV) : (lg_sl (as.map (cv E))).length = as.length := by
  induction as with
  | nil => rfl
  | cons a as ih =>
    rw [List.map_cons]
    unfold lg_sl at ih ⊢
    rw [List.flatMap_cons, List.length_append, ih, if_neg (by rw [cv_cat]; decide)]
    simp
    omega
theorem enL_at {args : List aV} {n i : Nat} {v : aV} (hi : (enL args n)[i]? = some (some v)) : args[i]? = some v := by
  unfold enL at hi
  by_cases g : i < args.length
  · rw [List.getElem?_append_left (by simpa using g)] at hi
    simpa using hi
  · rw [List.getElem?_append_right (by simp; omega)] at hi
    have := List.mem_of_getElem? hi
    simp at this
/-- a contract out of a walk from the entry -/
theorem Mt.of {mc ms : Nat} {args : List aV} (hp : plainName M.1.cls = true) (hn : Nat.ble args.length M.2.2.1 = true) (hT : Tot l E M d mc ms 0 (enL args M.2.2.1) [] h Q) : Mt l E d mc ms M args h Q := by
  have hn := Nat.le_of_ble_eq_true hn
  refine Met.ofW (cc := M.2.1) (maxL := M.2.2.1) (ret := M.2.2.2) hp rfl ?_
  intro p e s m ag below meth c s₁ B hml hv
  obtain ⟨rfl, hH, hV, hok⟩ := hv
  have hts := atoms_spec (ws := .code M.1 M.2.1 M.2.2.1 M.2.2.2 :: tsG) B.pre
  have hown : s.vm.findClass M.1.cls = some m.cls := findClass_of_methodNamed B.named
  have hnm := (name_of_methodNamed B.named B.method).1
  have hlocks := B.notSynchronized
  have hl := lv_entry (args.map (cv E)) (n := M.2.2.1) (by rw [lg_sl_len]; exact hn)
  rw [lg_entry_eq]
  generalize ((lg_sl (args.map (cv E))) ++ List.replicate (M.2.2.1 - (lg_sl (args.map (cv E))).length) Slot.unset).toArray = lc at hl ⊢
  have hls : lsOK E lc M.2.2.1 (enL args M.2.2.1) := ⟨⟨hl.1, by simp [enL]; omega⟩, hl.2.1, fun i v hi => by
    have := hl.2.2 (0 + i, cv E v) (lv_args_1 E args 0 i v (enL_at hi))
    simpa using this⟩
  refine hT p e _ s m _ below meth c s.heap [] 0 0 _ lc ⟨B.exec, B.bytes, hml, hown, fun w hw => hts w (List.mem_cons_of_mem _ hw), hnm, hV, by rw [hH.1]; omega, Nat.le_refl d, Nat.le_refl _⟩ hH va_S.rf (by show 0 + mc ≤ mc; omega) (by show 0 + ms ≤ ms; omega) hls ?_ (fun v hv => by cases hv) ?_
  · intro v hv
    obtain ⟨i, hi⟩ := List.getElem?_of_mem hv
    exact hok v (List.mem_of_getElem? (enL_at hi))
  · intro r h' H' locs' cells' slots' pc' lc' hQ hH' hS' hc' hs' hex hokr hret
    refine W.widen (k := mc) (n := ms) hc' hs' ?_
    rcases hret with ⟨rfl, hr, hd⟩ | ⟨x, ty, rfl, hr, hn, hd⟩ | ⟨q, C, rfl, hr, hd⟩
    · exact W.vret B.exec B.bytes (B.returns.trans hr) (fun t ht hW => ⟨⟨none, h', rfl, hQ, by rw [ht]; exact hH', hex, hokr⟩, hS'.F ht⟩) hS'.2.2 hd
    · exact W.zret B.exec B.bytes (B.returns.trans hr) hn (fun t ht hW => ⟨⟨some (.inl x), h', rfl, hQ, by rw [ht]; exact hH', hex, hokr⟩, hS'.F ht⟩) hS'.2.2 hd
    · exact W.aret (v := cv E (.inr q)) B.exec B.bytes (B.returns.trans hr) (Or.inl ⟨C, rfl⟩) (by cases q with
        | none => exact Or.inl rfl
        | some a => exact Or.inr ⟨_, rfl⟩) (fun t ht hW => ⟨⟨some (.inr q), h', rfl, hQ, by rw [ht]; exact hH', hex, hokr⟩, hS'.F ht⟩) hS'.2.2 hd
theorem Mt.mono {mc ms : Nat} {args : List aV} {Q' : Option aV → aH → Prop} (hq : ∀ r h', Q r h' → Q' r h') (k : Mt l E d mc ms M args h Q) : Mt l E d mc ms M args h Q' := by
  intro p e ha hc hk s m ag below hf happ hP hT
  obtain ⟨n, o, h1, h2, h3, ⟨⟨r, h', e1, e2, e3⟩, e4⟩, h5⟩ := k p e ha hc hk s m ag below hf happ hP hT
  exact ⟨n, o, h1, h2, h3, ⟨⟨r, h', e1, hq _ _ e2, e3⟩, e4⟩, h5⟩
/-- what lies behind a call -/
theorem call_on {p : Program} {e : Env} {R : Room} {s : State} {m : MethodId} {args : Array Value} {below : List Frame} {meth : Method} {c : Code} {H : Heap} {locs : List Loc} {cells slots mc ms : Nat} {G : State → Prop} {lc : Array Slot} {a : Array Value} {st0 : List Value} {rest : List aV} {Q1 : Option aV → aH → Prop}
    (hr : va_Run p l e R s m args below meth c H locs cells slots mc ms (F0 m pc lc st0) (rest.map (cv E)) ((fun (_ : Array Value) st oc t => (∃ (r : Option aV) (h' : aH), oc = .returned (r.map (cv E)) ∧ Q1 r h' ∧ RepH E h' t.heap ∧ exH h h' ∧ okO h' r) ∧ va_F (eA E) st t) a) (eA E)) (hS : va_S (eA E) s.heap H locs)
    (kk : ∀ (r : Option aV) (h' : aH) (H1 : Heap) (locs1 : List Loc), Q1 r h' → RepH E h' H1 → exH h h' → okO h' r → va_S (eA E) s.heap H1 locs1 → W p l e R s m args below meth c H1 locs1 (cells + mc) (slots + ms) G (F0 m (pc + 3) lc ((r.toList ++ rest).map (cv E)))) : W p l e R s m args below meth c H locs cells slots G (F0 m pc lc st0) := by
  intro T hT X
  obtain ⟨v, st₀, t, T', L, h0, X', hL, e1, e2, ⟨⟨r, h', hv, hq, hR, hex, hok⟩, hz, hk⟩, stp⟩ := hr T hT X
  rw [h0] at hz hk
  have hv' : v = r.map (cv E) := by cases hv; rfl
  subst hv'
  obtain ⟨t2, a1, b1⟩ := kk r h' T'.heap (locs ++ L) hq (by rw [e1]; exact hR) hex hok
    ⟨Nat.le_trans hS.1 (by rw [e1]; exact hz), fun q h1 h2 => by rw [e1, hk q (Nat.lt_of_lt_of_le h1 hS.1) h2]; exact hS.2.1 q h1 h2, fun q hq => by
      rcases List.mem_append.mp hq with h | h
      · exact hS.2.2 q h
      · exact hL q h⟩ T' rfl X'
  refine ⟨t2, stp t2 ?_, b1⟩
  cases r <;> exact a1
/-- the callee's words -/
def cOK (Y : aM) (n : Nat) : Prop := Cond.code Y.1 Y.2.1 Y.2.2.1 Y.2.2.2 ∈ tsG ∧ Cond.initialized Y.1.cls ∈ tsG ∧ (Y.1.cls ≠ "java/lang/invoke/MethodHandle" ∧ Y.1.cls ≠ "java/lang/invoke/VarHandle" ∧ (parseMethodDescriptor Y.1.desc).map (fun d => d.parameters.length) = some n) ∧ Y.2.2.1 ≤ 40
theorem ws_good {Y : aM} {n : Nat} (hY : cOK Y n) : GoodIn tsG (.code Y.1 Y.2.1 Y.2.2.1 Y.2.2.2 :: tsG) := fun w hw => (List.mem_cons.mp hw).elim (fun e => by rw [e]; exact ⟨hY.1, good_of_word (tsG_all _ hY.1)⟩) (fun hw => ⟨hw, good_of_word (tsG_all w hw)⟩)
theorem pre_of {Y : aM} {As : List aV} {s : State} {H : Heap} {locs : List Loc} (hV : RepV E s) (hH : RepH E h H) (hS : va_S (eA E) s.heap H locs) (hok : okS h As) : PreS s H (fun v U => v = (As.map (cv E)).toArray ∧ RepH E h U.heap ∧ RepV E U ∧ okS h As) (As.map (cv E)) :=
  ⟨fun a U g mk q => ⟨q.1, q.2.1, q.2.2.1.calling, q.2.2.2⟩, fun U hU hW => ⟨rfl, by rw [hU]; exact hH, hV.on hS hW hU, hok⟩⟩
theorem rest_room {rest : List aV} (h8 : Nat.ble rest.length 8 = true) : ((rest.map (cv E)).map fun v => v.category).sum ≤ 8 := by
  have h8 := Nat.le_of_ble_eq_true h8
  have : ∀ r : List aV, ((r.map (cv E)).map fun v => v.category).sum = r.length := by
    intro r
    induction r with
    | nil => rfl
    | cons a r ih => rw [List.map_cons, List.map_cons, List.sum_cons, ih, cv_cat, List.length_cons]; omega
  rw [this]
  exact h8
theorem okS.app {a b : List aV} (h1 : okS h a) (h2 : okS h b) : okS h (a ++ b) := fun v hv => (List.mem_append.mp hv).elim (h1 v) (h2 v)
theorem okO.st {r : Option aV} (hr : okO h r) : okS h r.toList := fun v hv => by
  cases r with
  | none => simp at hv
  | some w => simp at hv; exact hr v (by rw [hv])
variable {Y : aM} {n mc ms idx : Nat} {As rest : List aV} {Q1 : Option aV → aH → Prop}
/-- a call of an instance method, of a known class -/
theorem z_callV {c o : Nat} (hd : decode M.2.1 pc = .ok (.invokevirtual idx, 3)) (hY : cOK Y n) (hw : Cond.methodLink M.1.cls idx Y.1 ∈ tsG ∧ Cond.instanceMethod Y.1 ∈ tsG ∧ Cond.selects Y.1.cls Y.1 Y.1 ∈ tsG) (hc : ∃ T N, vwCl[c]? = some (Y.1.cls, T, N)) (hn : As.length = n) (h8 : Nat.ble rest.length 8 = true)
    (hM : Mt l E d mc ms Y (.inr (some (0, c, o)) :: As) h Q1) (kk : ∀ r h', Q1 r h' → exH h h' → Tot l E M (d + 1) bc bs (pc + 3) ls (r.toList ++ rest) h' Q) : Tot l E M (d + 1) (bc + mc) (bs + ms) pc ls (As.reverse ++ .inr (some (0, c, o)) :: rest) h Q := by
  intro p e R s m args below meth co H locs cells slots G lc Cc hH hS hce hsl hl hL hSt hret
  obtain ⟨hx, hb, hml, hown, hts, hnm, hV, hz, hfr, hlo⟩ := id Cc
  obtain ⟨T, N, hc⟩ := hc
  have hokA : okS h (.inr (some (0, c, o)) :: As) := fun v hv => hSt v (by simp at hv ⊢; tauto)
  obtain ⟨ho, ht⟩ := hokA.obj (by decide)
  have hrec := va_recv hV.1 hH.2.1 hc (show (wl E h)[o]? = some (eZ E + o, .inr (c, fls E h o c)) by rw [wl_at E h ho, cel_obj ht])
  have hp := pre_of (Y := Y) (As := .inr (some (0, c, o)) :: As) hV hH hS hokA
  have cb := callB_of (R := R) (s := s) (args := args) (rm := { frames := d, cells := mc, slots := ms, locals := 64 * d }) (own := M.1.cls) (index := idx) n hts (ws_good hY) rfl rfl rfl (hts _ hY.2.1) (hts _ hw.1) hY.2.2.1 ⟨hfr, by have := hY.2.2.2; show 8 + (Y.2.2.1 + 11) + 64 * d ≤ _; omega⟩
  have hst : (As.reverse ++ .inr (some (0, c, o)) :: rest).map (cv E) = (As.map (cv E)).reverse ++ .ref (eZ E + o) :: rest.map (cv E) := by
    rw [List.map_append, List.map_reverse, List.map_cons]; rfl
  rw [hst]
  refine call_on (Q1 := Q1) (h := h) (va_runV (As := As.map (cv E)) (rest := rest.map (cv E)) ⟨hx, hb, hml, hown, hts⟩ hM ⟨cb, hts _ hw.2.1, hts _ hw.2.2⟩ ⟨hp.1, hrec, hp.2⟩ rfl (by rw [List.length_map]; exact hn) hl.1.1 rfl (by show 2 * 0 + _ ≤ 8; have := rest_room (E := E) h8; omega) hd ⟨by omega, by omega⟩) hS (fun r h' H1 locs1 hq hR1 hex hok hS1 => ?_)
  exact kk r h' hq hex p e R s m args below meth co H1 locs1 (cells + mc) (slots + ms) G lc Cc hR1 hS1 (by omega) (by omega) hl (hL.ex hex) (okS.app hok.st (okS.ex hex (fun v hv => hSt v (by simp; tauto)))) (fun r' h'' H' locs' cells' slots' pc' lc' q1 q2 q3 q4 q5 q6 q7 q8 => hret r' h'' H' locs' cells' slots' pc' lc' q1 q2 q3 q4 q5 (hex.tr q6) q7 q8)
/-- a call of a static method -/
theorem z_callS (hd : decode M.2.1 pc = .ok (.invokestatic idx, 3)) (hY : cOK Y n) (hw : Cond.methodLink M.1.cls idx Y.1 ∈ tsG ∧ Cond.static Y.1 ∈ tsG) (hn : As.length = n) (h8 : Nat.ble rest.length 8 = true)
    (hM : Mt l E d mc ms Y As h Q1) (kk : ∀ r h', Q1 r h' → exH h h' → Tot l E M (d + 1) bc bs (pc + 3) ls (r.toList ++ rest) h' Q) : Tot l E M (d + 1) (bc + mc) (bs + ms) pc ls (As.reverse ++ rest) h Q := by
  intro p e R s m args below meth co H locs cells slots G lc Cc hH hS hce hsl hl hL hSt hret
  obtain ⟨hx, hb, hml, hown, hts, hnm, hV, hz, hfr, hlo⟩ := id Cc
  have hokA : okS h As := fun v hv => hSt v (by simp; tauto)
  have hp := pre_of (Y := Y) (As := As) hV hH hS hokA
  have cb := callB_of (R := R) (s := s) (args := args) (rm := { frames := d, cells := mc, slots := ms, locals := 64 * d }) (own := M.1.cls) (index := idx) n hts (ws_good hY) rfl rfl rfl (hts _ hY.2.1) (hts _ hw.1) hY.2.2.1 ⟨hfr, by have := hY.2.2.2; show 8 + (Y.2.2.1 + 11) + 64 * d ≤ _; omega⟩
  have hst : (As.reverse ++ rest).map (cv E) = (As.map (cv E)).reverse ++ rest.map (cv E) := by
    rw [List.map_append, List.map_reverse]
  rw [hst]
  refine call_on (Q1 := Q1) (h := h) (va_runS (As := As.map (cv E)) (rest := rest.map (cv E)) ⟨hx, hb, hml, hown, hts⟩ hM ⟨cb, hts _ hw.2⟩ hp rfl (by rw [List.length_map]; exact hn) hl.1.1 rfl (by show 2 * 0 + _ ≤ 8; have := rest_room (E := E) h8; omega) hd ⟨by omega, by omega⟩) hS (fun r h' H1 locs1 hq hR1 hex hok hS1 => ?_)
  exact kk r h' hq hex p e R s m args below meth co H1 locs1 (cells + mc) (slots + ms) G lc Cc hR1 hS1 (by omega) (by omega) hl (hL.ex hex) (okS.app hok.st (okS.ex hex (fun v hv => hSt v (by simp; tauto)))) (fun r' h'' H' locs' cells' slots' pc' lc' q1 q2 q3 q4 q5 q6 q7 q8 => hret r' h'' H' locs' cells' slots' pc' lc' q1 q2 q3 q4 q5 (hex.tr q6) q7 q8)
end RULES4
