/-! ===== fields, arrays, making ===== -/
theorem cl_in {c N : Nat} {C : String} {T : u_T} (h : vwCl[c]? = some (C, T, N)) : ∀ w ∈ u_ws C T N, w ∈ tsG := by
  have g : ∀ {n : Nat} {C : String} {T : u_T}, ∀ w ∈ u_ws C T n, goodWord w = true := by
    intro n C T w hw
    obtain ⟨k, -, rfl⟩ := List.mem_map.mp hw
    unfold u_lay
    split <;> rfl
  match c, h with
  | 0, h => cases h; exact fun w hw => tsG_of (inX0 w hw) (g w hw)
  | 1, h => cases h; exact fun w hw => tsG_of (inX1 w hw) (g w hw)
  | 2, h => cases h; exact fun w hw => tsG_of (inX2 w hw) (g w hw)
  | 3, h => cases h; exact fun w hw => tsG_of (inX3 w hw) (g w hw)
  | 4, h => cases h; exact fun w hw => tsG_of (inX4 w hw) (g w hw)
  | 5, h => cases h; exact fun w hw => tsG_of (inX5 w hw) (g w hw)
  | 6, h => cases h; exact fun w hw => tsG_of (inX6 w hw) (g w hw)
  | 7, h => cases h; exact fun w hw => tsG_of (inX7 w hw) (g w hw)
  | 8, h => cases h; exact fun w hw => tsG_of (inX8 w hw) (g w hw)
  | 9, h => cases h; exact fun w hw => tsG_of (inX9 w hw) (g w hw)
  | 10, h => cases h; exact fun w hw => tsG_of (inX10 w hw) (g w hw)
  | 11, h => cases h; exact fun w hw => tsG_of (inX11 w hw) (g w hw)
  | 12, h => cases h; exact fun w hw => tsG_of (inX12 w hw) (g w hw)
  | n + 13, h => simp [vwCl] at h
theorem cl_ty {c N : Nat} {C : String} {T : u_T} (h : vwCl[c]? = some (C, T, N)) : ∀ k, k < N → parseFieldDescriptor (T k).2.2.1 = some (tyC c k) := by
  match c, h with
  | 0, h => cases h; exact tyX0_ok
  | 1, h => cases h; exact tyX1_ok
  | 2, h => cases h; exact tyX2_ok
  | 3, h => cases h; exact tyX3_ok
  | 4, h => cases h; exact tyX4_ok
  | 5, h => cases h; exact tyX5_ok
  | 6, h => cases h; exact tyX6_ok
  | 7, h => cases h; exact tyX7_ok
  | 8, h => cases h; exact tyX8_ok
  | 9, h => cases h; exact tyX9_ok
  | 10, h => cases h; exact tyX10_ok
  | 11, h => cases h; exact tyX11_ok
  | 12, h => cases h; exact tyX12_ok
  | n + 13, h => simp [vwCl] at h
theorem cl_nm {c N : Nat} {C : String} {T : u_T} (h : vwCl[c]? = some (C, T, N)) : ∀ a, a < N → ∀ b, b < N → a ≠ b → (T a).2.1 ≠ (T b).2.1 := by
  match c, h with
  | 0, h => cases h; exact nmX0
  | 1, h => cases h; exact nmX1
  | 2, h => cases h; exact nmX2
  | 3, h => cases h; exact nmX3
  | 4, h => cases h; exact nmX4
  | 5, h => cases h; exact nmX5
  | 6, h => cases h; exact nmX6
  | 7, h => cases h; exact nmX7
  | 8, h => cases h; exact nmX8
  | 9, h => cases h; exact nmX9
  | 10, h => cases h; exact nmX10
  | 11, h => cases h; exact nmX11
  | 12, h => cases h; exact nmX12
  | n + 13, h => simp [vwCl] at h
theorem cl_df {c : Nat} (hc : c < 13) : ∀ k, k < nfC c → defaultValue (tyC c k) = if fkR c k then Value.null else .int 0 := by
  match c, hc with
  | 0, _ => decide +kernel
  | 1, _ => decide +kernel
  | 2, _ => decide +kernel
  | 3, _ => decide +kernel
  | 4, _ => decide +kernel
  | 5, _ => decide +kernel
  | 6, _ => decide +kernel
  | 7, _ => decide +kernel
  | 8, _ => decide +kernel
  | 9, _ => decide +kernel
  | 10, _ => decide +kernel
  | 11, _ => decide +kernel
  | 12, _ => decide +kernel
  | n + 13, h => omega
/-- a field's link -/
def fOK (C0 : String) (idx c k : Nat) : Prop := ∃ C T N, vwCl[c]? = some (C, T, N) ∧ k < N ∧ Cond.fieldLink C0 idx (T k).1 (T k).2.1 (T k).2.2.1 ∈ tsG
/-- it may be written: it isn't final, or this is its constructor -/
def fWr (M : aM) (c k : Nat) : Prop := ∃ C T N, vwCl[c]? = some (C, T, N) ∧ ((T k).2.2.2 = false ∨ ((T k).2.2.2 = true ∧ M.1.name = "<init>" ∧ (T k).1 = M.1.cls))
section PUT2
variable {p : Program} {l : Launch} {e : Env} {R : Room} {s : State} {m : MethodId} {args : Array Value} {below : List Frame} {meth : Method} {c : Code} {H : Heap} {locs : List Loc} {cells slots : Nat} {Q : State → Prop}
variable {cc : ByteArray} {pc : Nat} {ls : Array Slot} {rest : List Value} {D : va_G} {cl : List vw_C} {A : Nat → Prop} {a : Nat} {tys : List (ClassId × FieldType)} {H0 : Heap}
theorem va_put2 (hexec : p.tables.exec = Jvm.exec) (hb : c.code = cc) {own ref C : String} {T : u_T} {N ci index : Nat} {Ts : List Cond} (hts : ∀ w ∈ Ts, w.before args s = true) (hin : ∀ w ∈ u_ws C T N, w ∈ Ts) (ty0 : Nat → FieldType) (hty : ∀ k, k < N → parseFieldDescriptor (T k).2.2.1 = some (ty0 k)) (hnm : ∀ a, a < N → ∀ b, b < N → a ≠ b → (T a).2.1 ≠ (T b).2.1) (hown : s.vm.findClass own = some m.cls) (hK : va_K D cl tys s) (hS0 : va_S A H0 H locs) {fs : List Value} (he : va_at D cl (a, .inr (ci, fs)) H) (hAa : A a) (hc : cl[ci]? = some (C, T, N)) (k : Nat) (hk : k < N) (hlink : (Cond.fieldLink own index ref (T k).2.1 (T k).2.2.1).before args s = true) (hsame : ∀ x, s.fieldFound? (T k).1 (T k).2.1 (T k).2.2.1 = some x → s.fieldFound? ref (T k).2.1 (T k).2.2.1 = some x) (hfin : (T k).2.2.2 = false ∨ ((T k).2.2.2 = true ∧ meth.name = "<init>" ∧ (T k).1 = own)) {ty : FieldType} {v : Value} (hd : parseFieldDescriptor (T k).2.2.1 = some ty) (hn : narrow ty v = v) (hfit : fits ty v = true) (hl : k < fs.length)
    (hdg : decode cc pc = .ok (.putfield index, 3)) (kk : ∀ (H1 : Heap) (locs1 : List Loc), va_at D cl (a, .inr (ci, fs.set k v)) H1 → H1.size = H.size → (∀ q, q ≠ a → H1[q]? = H[q]?) → va_S A H0 H1 locs1 → W p l e R s m args below meth c H1 locs1 cells slots Q (F0 m (pc + 3) ls rest)) : W p l e R s m args below meth c H locs cells slots Q (F0 m pc ls (v :: .ref a :: rest)) := by
  have hap := va_apart (own := own) hts hin ty0 hty hnm hK hc
  obtain ⟨r, h1, cell, q1, q2, q3, q4⟩ := he
  have hr : r = (C, T, N) := Option.some.inj (h1.symm.trans hc)
  subst hr
  obtain ⟨hS, hfc, kC, hkC, hkind⟩ := hK.1 ci _ hc
  obtain ⟨cf, kf, fi, f, hi, hsl⟩ := hS k hk
  have hlay := hts _ (hin _ (u_in_lay hk))
  unfold u_lay at hlay
  have hst := (u_facts hfc hkC (u_lays hts hin hk) hi).1
  rcases hfin with hfin | ⟨hfin, hin2, hdecl⟩
  · rw [if_neg (by rw [hfin]; decide)] at hlay
    have h6 := u_store hfc hkC hkind hlay hi hd hn hfit
    refine W.putK hexec hb (f := f) ⟨hown, hlink, ⟨_, _, _, hsame _ hi⟩, hst⟩ (by rw [q2]; exact h6) q1 q3 (by rw [hsl]; exact k2_hasslot (q4 k hk)) rfl rfl hdg fun H' e1 e2 e3 => ?_
    rw [hsl] at e1 ⊢
    exact kk H' _ ⟨_, hc, t_OB.to (V := updV (vp_V fs) k v) ⟨_, e1, q2, q3, t_set q4 hap hk v⟩ (fun j _ => vp_updV_set hl v j)⟩ e2 e3 (hS0.put e2 e3 hAa)
  · rw [if_pos hfin] at hlay
    have hcf : m.cls = cf := by
      obtain ⟨_, _, c', _, _, _, -, -, hf', -, -, -, hown2, -⟩ := Cond.laysFinal_spec hlay
      have e1 : c' = cf := by have := hi.symm.trans hf'; simp at this; exact this.1.symm
      rw [hdecl] at hown2
      rw [← e1]; exact Option.some.inj (hown.symm.trans hown2)
    have h6 := u_fits hfc hkC hkind (Or.inr hlay) hi hd hn hfit
    refine W.putFinK hexec hb hown hlink (hsame _ hi) hst hcf hin2 (by rw [q2]; exact h6) q1 q3 (by rw [hsl]; exact k2_hasslot (q4 k hk)) rfl rfl hdg fun H' e1 e2 e3 => ?_
    rw [hsl] at e1 ⊢
    exact kk H' _ ⟨_, hc, t_OB.to (V := updV (vp_V fs) k v) ⟨_, e1, q2, q3, t_set q4 hap hk v⟩ (fun j _ => vp_updV_set hl v j)⟩ e2 e3 (hS0.put e2 e3 hAa)
end PUT2
theorem cel_congr {E : eE} {h h' : aH} {j : Nat} (h1 : hT h' j = hT h j) (h2 : hI h' j = hI h j) (h3 : hR h' j = hR h j) (h4 : hA h' j = hA h j) (h5 : hQ h' j = hQ h j) : cel E h' j = cel E h j := by
  unfold cel
  rw [h1, h2, h3, h4, h5]
theorem up2_ne {α : Type} {f : Nat → Nat → α} {i k j : Nat} {v : α} (hj : j ≠ i) : up2 f i k v j = f j := by
  funext b
  simp [up2, hj]
theorem up1_ne {α : Type} {f : Nat → α} {i j : Nat} {v : α} (hj : j ≠ i) : up1 f i v j = f j := by simp [up1, hj]
theorem stI_cel {E : eE} {h : aH} {i k : Nat} {v : Int32} : ∀ j, j ≠ i → cel E (stI h i k v) j = cel E h j := fun _ hj => cel_congr rfl (up2_ne hj) rfl rfl rfl
theorem stR_cel {E : eE} {h : aH} {i k : Nat} {v : aR} : ∀ j, j ≠ i → cel E (stR h i k v) j = cel E h j := fun _ hj => cel_congr rfl rfl (up2_ne hj) rfl rfl
theorem stA_cel {E : eE} {h : aH} {i k : Nat} {v : Int32} : ∀ j, j ≠ i → cel E (stA h i k v) j = cel E h j := fun _ hj => cel_congr rfl rfl rfl (up2_ne hj) rfl
theorem stQ_cel {E : eE} {h : aH} {i k : Nat} {v : aR} : ∀ j, j ≠ i → cel E (stQ h i k v) j = cel E h j := fun _ hj => cel_congr rfl rfl rfl rfl (up2_ne hj)
theorem stAA_cel {E : eE} {h : aH} {i : Nat} {f : Nat → Int32} : ∀ j, j ≠ i → cel E (stAA h i f) j = cel E h j := fun _ hj => cel_congr rfl rfl rfl (up1_ne hj) rfl
theorem wfH.stI {h : aH} {i k : Nat} {v : Int32} (w : wfH h) : wfH (stI h i k v) := w
theorem wfH.stA {h : aH} {i k : Nat} {v : Int32} (w : wfH h) : wfH (stA h i k v) := w
theorem wfH.stAA {h : aH} {i : Nat} {f : Nat → Int32} (w : wfH h) : wfH (stAA h i f) := w
theorem wfH.stR {h : aH} {i k : Nat} {v : aR} (w : wfH h) (hv : okR h v) : wfH (stR h i k v) := by
  refine ⟨fun a b => ?_, w.2⟩
  show okR h (up2 (hR h) i k v a b)
  unfold up2
  split
  · exact hv
  · exact w.1 a b
theorem wfH.stQ {h : aH} {i k : Nat} {v : aR} (w : wfH h) (hv : okR h v) : wfH (stQ h i k v) := by
  refine ⟨w.1, fun a b => ?_⟩
  show okR h (up2 (hQ h) i k v a b)
  unfold up2
  split
  · exact hv
  · exact w.2 a b
theorem stI_fls {E : eE} {h : aH} {o c k : Nat} {x : Int32} (hk : k < nfC c) (hf : fkR c k = false) : fls E (stI h o k x) o c = (fls E h o c).set k (.int x) := by
  apply List.ext_getElem?
  intro j
  by_cases hj : j < nfC c
  · rw [fls_at hj]
    by_cases e : k = j
    · subst e
      rw [List.getElem?_set_self (by rw [fls_len]; exact hk), hf]
      simp [stI, up2, hI]
    · rw [List.getElem?_set_ne e, fls_at hj]
      have e' : ¬ j = k := fun q => e q.symm
      simp [stI, up2, hI, hR, e']
  · rw [List.getElem?_eq_none (by rw [fls_len]; omega), List.getElem?_eq_none (by rw [List.length_set, fls_len]; omega)]
theorem stR_fls {E : eE} {h : aH} {o c k : Nat} {r : aR} (hk : k < nfC c) (hf : fkR c k = true) : fls E (stR h o k r) o c = (fls E h o c).set k (va_rf (cvA E r)) := by
  apply List.ext_getElem?
  intro j
  by_cases hj : j < nfC c
  · rw [fls_at hj]
    by_cases e : k = j
    · subst e
      rw [List.getElem?_set_self (by rw [fls_len]; exact hk), hf]
      simp [stR, up2, hR]
    · rw [List.getElem?_set_ne e, fls_at hj]
      have e' : ¬ j = k := fun q => e q.symm
      simp [stR, up2, hI, hR, e']
  · rw [List.getElem?_eq_none (by rw [fls_len]; omega), List.getElem?_eq_none (by rw [List.length_set, fls_len]; omega)]
section RULES2
variable {l : Launch} {E : eE} {M : aM} {d bc bs pc : Nat} {ls : List (Option aV)} {st : List aV} {h : aH} {Q : Option aV → aH → Prop}
theorem z_geti {idx c k o : Nat} (hd : decode M.2.1 pc = .ok (.getfield idx, 3)) (hf : fOK M.1.cls idx c k) (hk : fkR c k = false) (kk : Tot l E M d bc bs (pc + 3) ls (.inl (hI h o k) :: st) h Q) : Tot l E M d bc bs pc ls (.inr (some (0, c, o)) :: st) h Q := by
  obtain ⟨C, T, N, hc, hkN, hl0⟩ := hf
  intro p e R s m args below meth co H locs cells slots G lc Cc hH hS hce hsl hl hL hSt hret
  obtain ⟨ho, ht⟩ := hSt.obj (by decide)
  have he : (wl E h)[o]? = some (eZ E + o, .inr (c, fls E h o c)) := by rw [wl_at E h ho, cel_obj ht]
  have hnf : nfC c = N := by simp [nfC, hc]
  obtain ⟨hx, hb, hml, hown, hts, hnm, hV, hz, hfr, hlo⟩ := id Cc
  exact va_get (D := eD E) hx hb hts (cl_in hc) hown hV.1 hH.2.1 o he hc k hkN (hts _ hl0) (fun _ z => z) (by rw [fls_at (by omega), hk]; rfl) hd (kk p e R s m args below meth co H locs cells slots G lc Cc hH hS hce hsl hl hL (okS.cn (okV.int _ _) hSt.tl) hret)
theorem z_getr {idx c k o : Nat} (hd : decode M.2.1 pc = .ok (.getfield idx, 3)) (hf : fOK M.1.cls idx c k) (hk : fkR c k = true) (kk : Tot l E M d bc bs (pc + 3) ls (.inr (hR h o k) :: st) h Q) : Tot l E M d bc bs pc ls (.inr (some (0, c, o)) :: st) h Q := by
  obtain ⟨C, T, N, hc, hkN, hl0⟩ := hf
  intro p e R s m args below meth co H locs cells slots G lc Cc hH hS hce hsl hl hL hSt hret
  obtain ⟨ho, ht⟩ := hSt.obj (by decide)
  have he : (wl E h)[o]? = some (eZ E + o, .inr (c, fls E h o c)) := by rw [wl_at E h ho, cel_obj ht]
  have hnf : nfC c = N := by simp [nfC, hc]
  obtain ⟨hx, hb, hml, hown, hts, hnm, hV, hz, hfr, hlo⟩ := id Cc
  exact va_get (D := eD E) hx hb hts (cl_in hc) hown hV.1 hH.2.1 o he hc k hkN (hts _ hl0) (fun _ z => z) (by rw [fls_at (by omega), hk]; rfl) hd (kk p e R s m args below meth co H locs cells slots G lc Cc hH hS hce hsl hl hL (okS.cn (fun r hr => by cases hr; exact hH.2.2.1 o k) hSt.tl) hret)
theorem z_puti {idx c k o : Nat} {x : Int32} (hd : decode M.2.1 pc = .ok (.putfield idx, 3)) (hf : fOK M.1.cls idx c k) (hwr : fWr M c k) (hk : fkR c k = false) (hn : narrow (tyC c k) (.int x) = .int x) (hfit : fits (tyC c k) (.int x) = true) (kk : Tot l E M d bc bs (pc + 3) ls st (stI h o k x) Q) : Tot l E M d bc bs pc ls (.inl x :: .inr (some (0, c, o)) :: st) h Q := by
  obtain ⟨C, T, N, hc, hkN, hl0⟩ := hf
  intro p e R s m args below meth co H locs cells slots G lc Cc hH hS hce hsl hl hL hSt hret
  obtain ⟨ho, ht⟩ := hSt.tl.obj (by decide)
  have he := hH.2.1 o _ (wl_at E h ho)
  rw [cel_obj ht] at he
  have hnf : nfC c = N := by simp [nfC, hc]
  obtain ⟨C', T', N', hc', hw⟩ := hwr
  cases hc.symm.trans hc'
  obtain ⟨hx, hb, hml, hown, hts, hnm, hV, hz, hfr, hlo⟩ := id Cc
  refine va_put2 (D := eD E) (cl := vwCl) hx hb hts (cl_in hc) (tyC c) (cl_ty hc) (cl_nm hc) hown hV.1 hS he (show eZ E ≤ eZ E + o by omega) hc k hkN (hts _ hl0) (fun _ z => z) (hw.imp id (fun z => ⟨z.1, hnm z.2.1, z.2.2⟩)) (cl_ty hc k hkN) hn hfit (by rw [fls_len]; omega) hd (fun H1 locs1 ha hz1 hq1 hS1 => ?_)
  have hR1 : RepH E (stI h o k x) H1 := hH.set (i := o) rfl stI_cel hH.2.2.stI hz1 hq1 (fun _ => by
    have e : hT (stI h o k x) o = (0, c) := ht
    rw [cel_obj e, stI_fls (by omega) hk]
    exact ha)
  exact kk p e R s m args below meth co H1 locs1 cells slots G lc Cc hR1 hS1 hce hsl hl hL hSt.tl.tl hret
theorem z_putr {idx c k o : Nat} {r : aR} (hd : decode M.2.1 pc = .ok (.putfield idx, 3)) (hf : fOK M.1.cls idx c k) (hwr : fWr M c k) (hk : fkR c k = true) (hn : ∀ v : Option Nat, narrow (tyC c k) (va_rf v) = va_rf v ∧ fits (tyC c k) (va_rf v) = true) (kk : Tot l E M d bc bs (pc + 3) ls st (stR h o k r) Q) : Tot l E M d bc bs pc ls (.inr r :: .inr (some (0, c, o)) :: st) h Q := by
  obtain ⟨C, T, N, hc, hkN, hl0⟩ := hf
  intro p e R s m args below meth co H locs cells slots G lc Cc hH hS hce hsl hl hL hSt hret
  obtain ⟨ho, ht⟩ := hSt.tl.obj (by decide)
  have he := hH.2.1 o _ (wl_at E h ho)
  rw [cel_obj ht] at he
  have hnf : nfC c = N := by simp [nfC, hc]
  obtain ⟨C', T', N', hc', hw⟩ := hwr
  cases hc.symm.trans hc'
  obtain ⟨hx, hb, hml, hown, hts, hnm, hV, hz, hfr, hlo⟩ := id Cc
  refine va_put2 (D := eD E) (cl := vwCl) (v := va_rf (cvA E r)) hx hb hts (cl_in hc) (tyC c) (cl_ty hc) (cl_nm hc) hown hV.1 hS he (show eZ E ≤ eZ E + o by omega) hc k hkN (hts _ hl0) (fun _ z => z) (hw.imp id (fun z => ⟨z.1, hnm z.2.1, z.2.2⟩)) (cl_ty hc k hkN) (hn _).1 (hn _).2 (by rw [fls_len]; omega) hd (fun H1 locs1 ha hz1 hq1 hS1 => ?_)
  have hR1 : RepH E (stR h o k r) H1 := hH.set (i := o) rfl stR_cel (hH.2.2.stR (hSt.hd r rfl)) hz1 hq1 (fun _ => by
    have e : hT (stR h o k r) o = (0, c) := ht
    rw [cel_obj e, stR_fls (by omega) hk]
    exact ha)
  exact kk p e R s m args below meth co H1 locs1 cells slots G lc Cc hR1 hS1 hce hsl hl hL hSt.tl.tl hret
end RULES2
