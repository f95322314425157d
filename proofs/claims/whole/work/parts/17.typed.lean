/-! ===== typed contracts, typed calls, what never changes ===== -/
def CI (l : Launch) (E : eE) (d mc ms : Nat) (Y : aM) (args : List aV) (h : aH) (K : Int32 → aH → Prop) : Prop := Mt l E d mc ms Y args h (fun r h' => ∃ v, r = some (.inl v) ∧ K v h')
def CV (l : Launch) (E : eE) (d mc ms : Nat) (Y : aM) (args : List aV) (h : aH) (K : aH → Prop) : Prop := Mt l E d mc ms Y args h (fun r h' => r = none ∧ K h')
def CR (l : Launch) (E : eE) (d mc ms : Nat) (Y : aM) (args : List aV) (h : aH) (K : aR → aH → Prop) : Prop := Mt l E d mc ms Y args h (fun r h' => ∃ q, r = some (.inr q) ∧ K q h')
abbrev TI (l : Launch) (E : eE) (M : aM) (d bc bs pc : Nat) (ls : List (Option aV)) (st : List aV) (h : aH) (Q : Int32 → aH → Prop) : Prop := Tot l E M d bc bs pc ls st h (fun r h' => ∃ v, r = some (.inl v) ∧ Q v h')
abbrev TV (l : Launch) (E : eE) (M : aM) (d bc bs pc : Nat) (ls : List (Option aV)) (st : List aV) (h : aH) (Q : aH → Prop) : Prop := Tot l E M d bc bs pc ls st h (fun r h' => r = none ∧ Q h')
abbrev TR (l : Launch) (E : eE) (M : aM) (d bc bs pc : Nat) (ls : List (Option aV)) (st : List aV) (h : aH) (Q : aR → aH → Prop) : Prop := Tot l E M d bc bs pc ls st h (fun r h' => ∃ q, r = some (.inr q) ∧ Q q h')
section TYPED
variable {l : Launch} {E : eE} {M : aM} {d bc bs pc : Nat} {ls : List (Option aV)} {st : List aV} {h : aH} {Q : Option aV → aH → Prop}
variable {Q0 : Option aV → aH → Prop}
/-- the same, for the JDK's own members -/
theorem Mt.ofF {mc ms : Nat} {args : List aV} (hp : plainFor M.1 = true) (hn : Nat.ble args.length M.2.2.1 = true) (hT : Tot l E M d mc ms 0 (enL args M.2.2.1) [] h Q) : Mt l E d mc ms M args h Q := by
  have hn := Nat.le_of_ble_eq_true hn
  refine va_MetF (cc := M.2.1) (maxL := M.2.2.1) (ret := M.2.2.2) hp rfl ?_
  intro p e s m ag below meth c s₁ B hml hv
  obtain ⟨rfl, hH, hV, hok⟩ := hv
  have hts := atoms_spec (ws := .code M.1 M.2.1 M.2.2.1 M.2.2.2 :: tsG) B.pre
  have hown : s.vm.findClass M.1.cls = some m.cls := findClass_of_methodNamed B.named
  have hnm : M.1.name = "<init>" → meth.name = "<init>" := fun z => ((name_of_methodNamed B.named B.method).1).trans z
  have hlocks := B.notSynchronized
  have hl := lv_entry (args.map (cv E)) (n := M.2.2.1) (by rw [lg_sl_len]; exact hn)
  rw [lg_entry_eq]
  generalize ((lg_sl (args.map (cv E))) ++ List.replicate (M.2.2.1 - (lg_sl (args.map (cv E))).length) Slot.unset).toArray = lc at hl ⊢
  have hls : lsOK E lc M.2.2.1 (enL args M.2.2.1) := ⟨⟨hl.1, by simp [enL]; omega⟩, hl.2.1, fun i v hi => by
    have := hl.2.2 (0 + i, cv E v) (lv_args_1 E args 0 i v (enL_at hi))
    simpa using this⟩
  refine hT p e _ s m _ below meth c s.heap [] 0 0 _ lc ⟨B.exec, B.bytes, hml, hown, fun w hw => hts w (List.mem_cons_of_mem _ hw), hnm, hV, by rw [hH.1]; omega, Nat.le_refl d, Nat.le_refl _⟩ hH va_S.rf (by show 0 + mc ≤ mc; omega) (by show 0 + ms ≤ ms; omega) hls ?_ (fun v hv => by cases hv) ?_
  · intro v hv
    obtain ⟨i, hi⟩ := List.getElem?_of_mem hv
    exact hok v (List.mem_of_getElem? (enL_at hi))
  · intro r h' H' locs' cells' slots' pc' lc' hQ hH' hS' hc' hs' hex hokr hret
    refine W.widen (k := mc) (n := ms) hc' hs' ?_
    rcases hret with ⟨rfl, hr, hd⟩ | ⟨x, ty, rfl, hr, hn, hd⟩ | ⟨q, C, rfl, hr, hd⟩
    · exact W.vret B.exec B.bytes (B.returns.trans hr) (fun t ht hW => ⟨⟨none, h', rfl, hQ, by rw [ht]; exact hH', hex, hokr⟩, hS'.F ht⟩) hS'.2.2 hd
    · exact W.zret B.exec B.bytes (B.returns.trans hr) hn (fun t ht hW => ⟨⟨some (.inl x), h', rfl, hQ, by rw [ht]; exact hH', hex, hokr⟩, hS'.F ht⟩) hS'.2.2 hd
    · exact W.aret (v := cv E (.inr q)) B.exec B.bytes (B.returns.trans hr) (Or.inl ⟨C, rfl⟩) (by cases q with
        | none => exact Or.inl rfl
        | some a => exact Or.inr ⟨_, rfl⟩) (fun t ht hW => ⟨⟨some (.inr q), h', rfl, hQ, by rw [ht]; exact hH', hex, hokr⟩, hS'.F ht⟩) hS'.2.2 hd
variable {Y : aM} {n mc ms idx : Nat} {args As rest : List aV}
theorem CI.use {K K' : Int32 → aH → Prop} (c : CI l E d mc ms Y args h K) (k : ∀ v h', K v h' → K' v h') : CI l E d mc ms Y args h K' := Mt.mono (fun r h' q => by obtain ⟨v, e, q⟩ := q; exact ⟨v, e, k v h' q⟩) c
theorem CV.use {K K' : aH → Prop} (c : CV l E d mc ms Y args h K) (k : ∀ h', K h' → K' h') : CV l E d mc ms Y args h K' := Mt.mono (fun r h' q => ⟨q.1, k h' q.2⟩) c
theorem CR.use {K K' : aR → aH → Prop} (c : CR l E d mc ms Y args h K) (k : ∀ v h', K v h' → K' v h') : CR l E d mc ms Y args h K' := Mt.mono (fun r h' q => by obtain ⟨v, e, q⟩ := q; exact ⟨v, e, k v h' q⟩) c
theorem CI.of {K : Int32 → aH → Prop} (hp : plainName Y.1.cls = true) (hn : Nat.ble args.length Y.2.2.1 = true) (k : TI l E Y d mc ms 0 (enL args Y.2.2.1) [] h K) : CI l E d mc ms Y args h K := Mt.of hp hn k
theorem CI.ofF {K : Int32 → aH → Prop} (hp : plainFor Y.1 = true) (hn : Nat.ble args.length Y.2.2.1 = true) (k : TI l E Y d mc ms 0 (enL args Y.2.2.1) [] h K) : CI l E d mc ms Y args h K := Mt.ofF hp hn k
theorem CV.ofF {K : aH → Prop} (hp : plainFor Y.1 = true) (hn : Nat.ble args.length Y.2.2.1 = true) (k : TV l E Y d mc ms 0 (enL args Y.2.2.1) [] h K) : CV l E d mc ms Y args h K := Mt.ofF hp hn k
theorem CV.of {K : aH → Prop} (hp : plainName Y.1.cls = true) (hn : Nat.ble args.length Y.2.2.1 = true) (k : TV l E Y d mc ms 0 (enL args Y.2.2.1) [] h K) : CV l E d mc ms Y args h K := Mt.of hp hn k
theorem CR.of {K : aR → aH → Prop} (hp : plainName Y.1.cls = true) (hn : Nat.ble args.length Y.2.2.1 = true) (k : TR l E Y d mc ms 0 (enL args Y.2.2.1) [] h K) : CR l E d mc ms Y args h K := Mt.of hp hn k
theorem z_cast {r q : aR} (he : r = q) (k : Tot l E M d bc bs pc ls (.inr q :: st) h Q) : Tot l E M d bc bs pc ls (.inr r :: st) h Q := he ▸ k
theorem z_getk {idx c k o : Nat} {r : aR} (hd : decode M.2.1 pc = .ok (.getfield idx, 3)) (hf : fOK M.1.cls idx c k) (hk : fkR c k = true) (he : hR h o k = r) (kk : Tot l E M d bc bs (pc + 3) ls (.inr r :: st) h Q) : Tot l E M d bc bs pc ls (.inr (some (0, c, o)) :: st) h Q := z_getr hd hf hk (he ▸ kk)
theorem z_aaldk {k n a : Nat} {i : Int32} {C : String} {r : aR} (hd : decode M.2.1 pc = .ok (.aaload, 1)) (hk : kinds[kpos k]? = some k) (h8 : Nat.ble 8 k = true) (hC : kty k = .object C) (hin : vp_in i n) (he : hQ h a i.toNatClampNeg = r) (kk : Tot l E M d bc bs (pc + 1) ls (.inr r :: st) h Q) : Tot l E M d bc bs pc ls (.inl i :: .inr (some (k, n, a)) :: st) h Q := z_aald hd hk h8 hC hin (he ▸ kk)
theorem y_VI {c o : Nat} (hd : decode M.2.1 pc = .ok (.invokevirtual idx, 3)) (hY : cOK Y n) (hw : Cond.methodLink M.1.cls idx Y.1 ∈ tsG ∧ Cond.instanceMethod Y.1 ∈ tsG ∧ Cond.selects Y.1.cls Y.1 Y.1 ∈ tsG) (hc : ∃ T N, vwCl[c]? = some (Y.1.cls, T, N)) (hn : As.length = n) (h8 : Nat.ble rest.length 8 = true) (H : CI l E d mc ms Y (.inr (some (0, c, o)) :: As) h (fun v h' => Tot l E M (d + 1) bc bs (pc + 3) ls (.inl v :: rest) h' Q)) : Tot l E M (d + 1) (bc + mc) (bs + ms) pc ls (As.reverse ++ .inr (some (0, c, o)) :: rest) h Q := z_callV hd hY hw hc hn h8 H (fun r h' hq _ => by obtain ⟨v, rfl, k⟩ := hq; exact k)
theorem y_SI (hd : decode M.2.1 pc = .ok (.invokestatic idx, 3)) (hY : cOK Y n) (hw : Cond.methodLink M.1.cls idx Y.1 ∈ tsG ∧ Cond.static Y.1 ∈ tsG) (hn : As.length = n) (h8 : Nat.ble rest.length 8 = true) (H : CI l E d mc ms Y As h (fun v h' => Tot l E M (d + 1) bc bs (pc + 3) ls (.inl v :: rest) h' Q)) : Tot l E M (d + 1) (bc + mc) (bs + ms) pc ls (As.reverse ++ rest) h Q := z_callS hd hY hw hn h8 H (fun r h' hq _ => by obtain ⟨v, rfl, k⟩ := hq; exact k)
theorem y_NI (hd : decode M.2.1 pc = .ok (.invokestatic idx, 3)) (hY : cOK Y n) (hw : Cond.methodLinkNest M.1.cls idx Y.1 "ClockCall" ∈ lw_tbl ∧ Cond.static Y.1 ∈ tsG) (hn : As.length = n) (h8 : Nat.ble rest.length 8 = true) (H : CI l E d mc ms Y As h (fun v h' => Tot l E M (d + 1) bc bs (pc + 3) ls (.inl v :: rest) h' Q)) : Tot l E M (d + 1) (bc + mc) (bs + ms) pc ls (As.reverse ++ rest) h Q := z_callSN hd hY hw hn h8 H (fun r h' hq _ => by obtain ⟨v, rfl, k⟩ := hq; exact k)
theorem y_VV {c o : Nat} (hd : decode M.2.1 pc = .ok (.invokevirtual idx, 3)) (hY : cOK Y n) (hw : Cond.methodLink M.1.cls idx Y.1 ∈ tsG ∧ Cond.instanceMethod Y.1 ∈ tsG ∧ Cond.selects Y.1.cls Y.1 Y.1 ∈ tsG) (hc : ∃ T N, vwCl[c]? = some (Y.1.cls, T, N)) (hn : As.length = n) (h8 : Nat.ble rest.length 8 = true) (H : CV l E d mc ms Y (.inr (some (0, c, o)) :: As) h (fun h' => Tot l E M (d + 1) bc bs (pc + 3) ls (rest) h' Q)) : Tot l E M (d + 1) (bc + mc) (bs + ms) pc ls (As.reverse ++ .inr (some (0, c, o)) :: rest) h Q := z_callV hd hY hw hc hn h8 H (fun r h' hq _ => by obtain ⟨rfl, k⟩ := hq; exact k)
theorem y_SV (hd : decode M.2.1 pc = .ok (.invokestatic idx, 3)) (hY : cOK Y n) (hw : Cond.methodLink M.1.cls idx Y.1 ∈ tsG ∧ Cond.static Y.1 ∈ tsG) (hn : As.length = n) (h8 : Nat.ble rest.length 8 = true) (H : CV l E d mc ms Y As h (fun h' => Tot l E M (d + 1) bc bs (pc + 3) ls (rest) h' Q)) : Tot l E M (d + 1) (bc + mc) (bs + ms) pc ls (As.reverse ++ rest) h Q := z_callS hd hY hw hn h8 H (fun r h' hq _ => by obtain ⟨rfl, k⟩ := hq; exact k)
theorem y_NV (hd : decode M.2.1 pc = .ok (.invokestatic idx, 3)) (hY : cOK Y n) (hw : Cond.methodLinkNest M.1.cls idx Y.1 "ClockCall" ∈ lw_tbl ∧ Cond.static Y.1 ∈ tsG) (hn : As.length = n) (h8 : Nat.ble rest.length 8 = true) (H : CV l E d mc ms Y As h (fun h' => Tot l E M (d + 1) bc bs (pc + 3) ls (rest) h' Q)) : Tot l E M (d + 1) (bc + mc) (bs + ms) pc ls (As.reverse ++ rest) h Q := z_callSN hd hY hw hn h8 H (fun r h' hq _ => by obtain ⟨rfl, k⟩ := hq; exact k)
theorem y_VR {c o : Nat} (hd : decode M.2.1 pc = .ok (.invokevirtual idx, 3)) (hY : cOK Y n) (hw : Cond.methodLink M.1.cls idx Y.1 ∈ tsG ∧ Cond.instanceMethod Y.1 ∈ tsG ∧ Cond.selects Y.1.cls Y.1 Y.1 ∈ tsG) (hc : ∃ T N, vwCl[c]? = some (Y.1.cls, T, N)) (hn : As.length = n) (h8 : Nat.ble rest.length 8 = true) (H : CR l E d mc ms Y (.inr (some (0, c, o)) :: As) h (fun v h' => Tot l E M (d + 1) bc bs (pc + 3) ls (.inr v :: rest) h' Q)) : Tot l E M (d + 1) (bc + mc) (bs + ms) pc ls (As.reverse ++ .inr (some (0, c, o)) :: rest) h Q := z_callV hd hY hw hc hn h8 H (fun r h' hq _ => by obtain ⟨v, rfl, k⟩ := hq; exact k)
theorem y_SR (hd : decode M.2.1 pc = .ok (.invokestatic idx, 3)) (hY : cOK Y n) (hw : Cond.methodLink M.1.cls idx Y.1 ∈ tsG ∧ Cond.static Y.1 ∈ tsG) (hn : As.length = n) (h8 : Nat.ble rest.length 8 = true) (H : CR l E d mc ms Y As h (fun v h' => Tot l E M (d + 1) bc bs (pc + 3) ls (.inr v :: rest) h' Q)) : Tot l E M (d + 1) (bc + mc) (bs + ms) pc ls (As.reverse ++ rest) h Q := z_callS hd hY hw hn h8 H (fun r h' hq _ => by obtain ⟨v, rfl, k⟩ := hq; exact k)
theorem y_NR (hd : decode M.2.1 pc = .ok (.invokestatic idx, 3)) (hY : cOK Y n) (hw : Cond.methodLinkNest M.1.cls idx Y.1 "ClockCall" ∈ lw_tbl ∧ Cond.static Y.1 ∈ tsG) (hn : As.length = n) (h8 : Nat.ble rest.length 8 = true) (H : CR l E d mc ms Y As h (fun v h' => Tot l E M (d + 1) bc bs (pc + 3) ls (.inr v :: rest) h' Q)) : Tot l E M (d + 1) (bc + mc) (bs + ms) pc ls (As.reverse ++ rest) h Q := z_callSN hd hY hw hn h8 H (fun r h' hq _ => by obtain ⟨v, rfl, k⟩ := hq; exact k)
theorem y_C {c o : Nat} (hd : decode M.2.1 pc = .ok (.invokespecial idx, 3)) (hY : cOK Y n) (hw : Cond.methodLink M.1.cls idx Y.1 ∈ tsG ∧ Cond.instanceMethod Y.1 ∈ tsG) (hin : Y.1.name = "<init>") (hrn : Y.2.2.2 = none) (hn : As.length = n) (h8 : Nat.ble rest.length 8 = true) (H : CV l E d mc ms Y (.inr (some (0, c, o)) :: As) h (fun h' => Tot l E M (d + 1) bc bs (pc + 3) ls rest h' Q)) : Tot l E M (d + 1) (bc + mc) (bs + ms) pc ls (As.reverse ++ .inr (some (0, c, o)) :: rest) h Q := z_callI hd hY hw hin hrn hn h8 H (fun r h' hq _ => by obtain ⟨rfl, k⟩ := hq; exact k)
theorem y_D {c o : Nat} (hd : decode M.2.1 pc = .ok (.invokespecial idx, 3)) (hY : cOK Y n) (hw : Cond.methodLinkNest M.1.cls idx Y.1 "ClockCall" ∈ lw_tbl ∧ Cond.instanceMethod Y.1 ∈ tsG) (hin : Y.1.name = "<init>") (hrn : Y.2.2.2 = none) (hn : As.length = n) (h8 : Nat.ble rest.length 8 = true) (H : CV l E d mc ms Y (.inr (some (0, c, o)) :: As) h (fun h' => Tot l E M (d + 1) bc bs (pc + 3) ls rest h' Q)) : Tot l E M (d + 1) (bc + mc) (bs + ms) pc ls (As.reverse ++ .inr (some (0, c, o)) :: rest) h Q := z_callIN hd hY hw hin hrn hn h8 H (fun r h' hq _ => by obtain ⟨rfl, k⟩ := hq; exact k)
def dropL : List (Option aV) → List (Option aV) → Prop
  | [], [] => True
  | none :: r, _ :: r' => dropL r r'
  | some v :: r, some w :: r' => v = w ∧ dropL r r'
  | _, _ => False
theorem dropL.spec : ∀ (a b : List (Option aV)), dropL a b → a.length = b.length ∧ ∀ (i : Nat) (v : aV), a[i]? = some (some v) → b[i]? = some (some v)
  | [], [], _ => ⟨rfl, fun i v h => h⟩
  | none :: r, w :: r', h => by
    obtain ⟨h1, h2⟩ := dropL.spec r r' h
    refine ⟨by simp [h1], fun i v hi => ?_⟩
    cases i with
    | zero => simp at hi
    | succ i => simpa using h2 i v (by simpa using hi)
  | some u :: r, some w :: r', h => by
    obtain ⟨e, h⟩ := h
    subst e
    obtain ⟨h1, h2⟩ := dropL.spec r r' h
    refine ⟨by simp [h1], fun i v hi => ?_⟩
    cases i with
    | zero => simpa using hi
    | succ i => simpa using h2 i v (by simpa using hi)
  | some u :: r, none :: r', h => h.elim
  | some u :: r, [], h => h.elim
  | none :: r, [], h => h.elim
  | [], w :: r', h => h.elim
theorem z_drop {ls' : List (Option aV)} (hdr : dropL ls' ls) (k : Tot l E M d bc bs pc ls' st h Q) : Tot l E M d bc bs pc ls st h Q := by
  intro p e R s m args below meth c H locs cells slots G lc C hH hS hc hs hl hL hSt hret
  obtain ⟨hn, hls⟩ := dropL.spec _ _ hdr
  refine k p e R s m args below meth c H locs cells slots G lc C hH hS hc hs ⟨⟨hl.1.1, hn.trans hl.1.2⟩, hl.2.1, fun i v hi => hl.2.2 i v (hls i v hi)⟩ (fun v hv => ?_) hSt hret
  obtain ⟨i, hi⟩ := List.getElem?_of_mem hv
  exact hL v (List.mem_of_getElem? (hls i v hi))
end TYPED
def bI (p : Prop) [Decidable p] : Int32 := if p then nI 1 else nI 0
theorem bI0 {p : Prop} [Decidable p] : bI p = 0 ↔ ¬ p := by
  unfold bI
  by_cases h : p
  · simp [h]; decide
  · simp [h]; decide
theorem bI1 {p : Prop} [Decidable p] : ¬ bI p = 0 ↔ p := by
  rw [bI0]
  by_cases h : p <;> simp [h]
theorem bI_nar {p : Prop} [Decidable p] : narrow .boolean (.int (bI p)) = .int (bI p) := by
  unfold bI
  by_cases h : p
  · rw [if_pos h]; rfl
  · rw [if_neg h]; rfl
theorem bI_t {p : Prop} [Decidable p] (h : p) : bI p = nI 1 := if_pos h
theorem bI_f {p : Prop} [Decidable p] (h : ¬ p) : bI p = nI 0 := if_neg h
def shT : List (Nat × Nat × aR) := [(0, 0, some (12, 8, 1)), (0, 1, some (14, 12, 2)), (0, 2, some (17, 4, 3)), (0, 3, some (18, 4, 4)), (0, 4, some (0, 1, 21)), (0, 5, some (0, 8, 26)), (0, 6, some (0, 7, 27)), (0, 7, some (0, 5, 39)), (0, 8, some (0, 0, 59)), (5, 0, some (1, 6, 6)), (5, 1, some (1, 6, 7)), (5, 2, some (1, 72, 8)), (9, 0, some (1, 6, 10)), (9, 1, some (1, 6, 11)), (9, 2, some (1, 72, 12)), (13, 0, some (1, 6, 14)), (13, 1, some (1, 6, 15)), (13, 2, some (1, 72, 16)), (17, 0, some (1, 6, 18)), (17, 1, some (1, 6, 19)), (17, 2, some (1, 72, 20)), (21, 0, some (1, 8, 22)), (21, 1, some (1, 8, 23)), (21, 2, some (1, 8, 24)), (21, 3, some (1, 4, 25)), (27, 0, some (0, 2, 28)), (27, 1, some (0, 8, 31)), (27, 2, some (1, 6, 32)), (27, 3, some (1, 6, 33)), (27, 4, some (1, 6, 34)), (27, 5, some (1, 1080, 35)), (27, 6, some (1, 84, 36)), (27, 7, some (1, 12, 37)), (27, 8, some (1, 12, 38)), (28, 0, some (1, 12, 29)), (28, 1, some (1, 12, 30)), (39, 0, some (0, 2, 40)), (39, 1, some (0, 1, 43)), (39, 2, some (17, 4, 48)), (39, 3, some (18, 4, 49)), (39, 4, some (16, 4, 50)), (39, 5, some (1, 4, 51)), (39, 6, some (1, 4, 52)), (39, 7, some (1, 4, 53)), (39, 8, some (1, 12, 54)), (40, 0, some (1, 12, 41)), (40, 1, some (1, 12, 42)), (43, 0, some (1, 8, 44)), (43, 1, some (1, 8, 45)), (43, 2, some (1, 8, 46)), (43, 3, some (1, 4, 47)), (59, 0, some (0, 8, 60)), (59, 1, some (1, 12, 61)), (59, 2, some (1, 12, 62)), (63, 2, some (1, 8, 64)), (63, 4, some (1, 12, 65)), (63, 5, some (1, 12, 66)), (63, 6, some (1, 12, 67)), (63, 7, some (1, 576, 68)), (63, 9, some (1, 400, 69)), (63, 10, some (1, 400, 70)), (63, 11, some (1, 400, 71)), (63, 12, some (1, 400, 72)), (63, 13, some (2, 400, 73)), (63, 15, some (1, 4, 74)), (63, 16, some (1, 4, 75)), (63, 17, some (1, 4, 76)), (63, 18, some (1, 4, 77)), (63, 19, some (1, 24, 78)), (63, 20, some (1, 48, 79)), (63, 21, some (1, 416, 80)), (63, 24, some (1, 4, 81)), (63, 25, some (1, 4, 82)), (63, 26, some (1, 48, 83)), (63, 27, some (2, 72, 84)), (63, 28, some (1, 60, 85)), (63, 29, some (1, 60, 86)), (63, 30, some (1, 4, 87)), (63, 31, some (1, 12, 88)), (63, 32, some (1, 12, 89)), (63, 33, some (1, 12, 90)), (63, 34, some (2, 90, 91)), (63, 35, some (1, 1080, 92)), (63, 36, some (1, 6, 93)), (63, 37, some (1, 6, 94)), (63, 39, some (1, 4, 95)), (63, 40, some (1, 4, 96)), (63, 41, some (1, 4, 97)), (63, 42, some (1, 4, 98))]
def SH (h : aH) : Prop := (∀ q ∈ shT, hR h q.1 q.2.1 = q.2.2) ∧ (∀ i, i < 4 → hQ h 4 i = some (0, 10, 5 + 4 * i)) ∧ (∀ i, i < 4 → hQ h 50 i = some (0, 8, 55 + i))
def isBd (o : Nat) : Prop := o = 21 ∨ o = 43
def isEv (o : Nat) : Prop := o = 28 ∨ o = 40
def isSh (o : Nat) : Prop := o = 5 ∨ o = 9 ∨ o = 13 ∨ o = 17
theorem s_0_0 {h : aH} (S : SH h) : hR h 0 0 = some (12, 8, 1) := S.1 (0, 0, some (12, 8, 1)) (List.mem_of_getElem? (i := 0) rfl)
theorem s_0_1 {h : aH} (S : SH h) : hR h 0 1 = some (14, 12, 2) := S.1 (0, 1, some (14, 12, 2)) (List.mem_of_getElem? (i := 1) rfl)
theorem s_0_2 {h : aH} (S : SH h) : hR h 0 2 = some (17, 4, 3) := S.1 (0, 2, some (17, 4, 3)) (List.mem_of_getElem? (i := 2) rfl)
theorem s_0_3 {h : aH} (S : SH h) : hR h 0 3 = some (18, 4, 4) := S.1 (0, 3, some (18, 4, 4)) (List.mem_of_getElem? (i := 3) rfl)
theorem s_0_4 {h : aH} (S : SH h) : hR h 0 4 = some (0, 1, 21) := S.1 (0, 4, some (0, 1, 21)) (List.mem_of_getElem? (i := 4) rfl)
theorem s_0_5 {h : aH} (S : SH h) : hR h 0 5 = some (0, 8, 26) := S.1 (0, 5, some (0, 8, 26)) (List.mem_of_getElem? (i := 5) rfl)
theorem s_0_6 {h : aH} (S : SH h) : hR h 0 6 = some (0, 7, 27) := S.1 (0, 6, some (0, 7, 27)) (List.mem_of_getElem? (i := 6) rfl)
theorem s_0_7 {h : aH} (S : SH h) : hR h 0 7 = some (0, 5, 39) := S.1 (0, 7, some (0, 5, 39)) (List.mem_of_getElem? (i := 7) rfl)
theorem s_0_8 {h : aH} (S : SH h) : hR h 0 8 = some (0, 0, 59) := S.1 (0, 8, some (0, 0, 59)) (List.mem_of_getElem? (i := 8) rfl)
theorem s_5_0 {h : aH} (S : SH h) : hR h 5 0 = some (1, 6, 6) := S.1 (5, 0, some (1, 6, 6)) (List.mem_of_getElem? (i := 9) rfl)
theorem s_5_1 {h : aH} (S : SH h) : hR h 5 1 = some (1, 6, 7) := S.1 (5, 1, some (1, 6, 7)) (List.mem_of_getElem? (i := 10) rfl)
theorem s_5_2 {h : aH} (S : SH h) : hR h 5 2 = some (1, 72, 8) := S.1 (5, 2, some (1, 72, 8)) (List.mem_of_getElem? (i := 11) rfl)
theorem s_9_0 {h : aH} (S : SH h) : hR h 9 0 = some (1, 6, 10) := S.1 (9, 0, some (1, 6, 10)) (List.mem_of_getElem? (i := 12) rfl)
theorem s_9_1 {h : aH} (S : SH h) : hR h 9 1 = some (1, 6, 11) := S.1 (9, 1, some (1, 6, 11)) (List.mem_of_getElem? (i := 13) rfl)
theorem s_9_2 {h : aH} (S : SH h) : hR h 9 2 = some (1, 72, 12) := S.1 (9, 2, some (1, 72, 12)) (List.mem_of_getElem? (i := 14) rfl)
theorem s_13_0 {h : aH} (S : SH h) : hR h 13 0 = some (1, 6, 14) := S.1 (13, 0, some (1, 6, 14)) (List.mem_of_getElem? (i := 15) rfl)
theorem s_13_1 {h : aH} (S : SH h) : hR h 13 1 = some (1, 6, 15) := S.1 (13, 1, some (1, 6, 15)) (List.mem_of_getElem? (i := 16) rfl)
theorem s_13_2 {h : aH} (S : SH h) : hR h 13 2 = some (1, 72, 16) := S.1 (13, 2, some (1, 72, 16)) (List.mem_of_getElem? (i := 17) rfl)
theorem s_17_0 {h : aH} (S : SH h) : hR h 17 0 = some (1, 6, 18) := S.1 (17, 0, some (1, 6, 18)) (List.mem_of_getElem? (i := 18) rfl)
theorem s_17_1 {h : aH} (S : SH h) : hR h 17 1 = some (1, 6, 19) := S.1 (17, 1, some (1, 6, 19)) (List.mem_of_getElem? (i := 19) rfl)
theorem s_17_2 {h : aH} (S : SH h) : hR h 17 2 = some (1, 72, 20) := S.1 (17, 2, some (1, 72, 20)) (List.mem_of_getElem? (i := 20) rfl)
theorem s_21_0 {h : aH} (S : SH h) : hR h 21 0 = some (1, 8, 22) := S.1 (21, 0, some (1, 8, 22)) (List.mem_of_getElem? (i := 21) rfl)
theorem s_21_1 {h : aH} (S : SH h) : hR h 21 1 = some (1, 8, 23) := S.1 (21, 1, some (1, 8, 23)) (List.mem_of_getElem? (i := 22) rfl)
theorem s_21_2 {h : aH} (S : SH h) : hR h 21 2 = some (1, 8, 24) := S.1 (21, 2, some (1, 8, 24)) (List.mem_of_getElem? (i := 23) rfl)
theorem s_21_3 {h : aH} (S : SH h) : hR h 21 3 = some (1, 4, 25) := S.1 (21, 3, some (1, 4, 25)) (List.mem_of_getElem? (i := 24) rfl)
theorem s_27_0 {h : aH} (S : SH h) : hR h 27 0 = some (0, 2, 28) := S.1 (27, 0, some (0, 2, 28)) (List.mem_of_getElem? (i := 25) rfl)
theorem s_27_1 {h : aH} (S : SH h) : hR h 27 1 = some (0, 8, 31) := S.1 (27, 1, some (0, 8, 31)) (List.mem_of_getElem? (i := 26) rfl)
theorem s_27_2 {h : aH} (S : SH h) : hR h 27 2 = some (1, 6, 32) := S.1 (27, 2, some (1, 6, 32)) (List.mem_of_getElem? (i := 27) rfl)
theorem s_27_3 {h : aH} (S : SH h) : hR h 27 3 = some (1, 6, 33) := S.1 (27, 3, some (1, 6, 33)) (List.mem_of_getElem? (i := 28) rfl)
theorem s_27_4 {h : aH} (S : SH h) : hR h 27 4 = some (1, 6, 34) := S.1 (27, 4, some (1, 6, 34)) (List.mem_of_getElem? (i := 29) rfl)
theorem s_27_5 {h : aH} (S : SH h) : hR h 27 5 = some (1, 1080, 35) := S.1 (27, 5, some (1, 1080, 35)) (List.mem_of_getElem? (i := 30) rfl)
theorem s_27_6 {h : aH} (S : SH h) : hR h 27 6 = some (1, 84, 36) := S.1 (27, 6, some (1, 84, 36)) (List.mem_of_getElem? (i := 31) rfl)
theorem s_27_7 {h : aH} (S : SH h) : hR h 27 7 = some (1, 12, 37) := S.1 (27, 7, some (1, 12, 37)) (List.mem_of_getElem? (i := 32) rfl)
theorem s_27_8 {h : aH} (S : SH h) : hR h 27 8 = some (1, 12, 38) := S.1 (27, 8, some (1, 12, 38)) (List.mem_of_getElem? (i := 33) rfl)
theorem s_28_0 {h : aH} (S : SH h) : hR h 28 0 = some (1, 12, 29) := S.1 (28, 0, some (1, 12, 29)) (List.mem_of_getElem? (i := 34) rfl)
theorem s_28_1 {h : aH} (S : SH h) : hR h 28 1 = some (1, 12, 30) := S.1 (28, 1, some (1, 12, 30)) (List.mem_of_getElem? (i := 35) rfl)
theorem s_39_0 {h : aH} (S : SH h) : hR h 39 0 = some (0, 2, 40) := S.1 (39, 0, some (0, 2, 40)) (List.mem_of_getElem? (i := 36) rfl)
theorem s_39_1 {h : aH} (S : SH h) : hR h 39 1 = some (0, 1, 43) := S.1 (39, 1, some (0, 1, 43)) (List.mem_of_getElem? (i := 37) rfl)
theorem s_39_2 {h : aH} (S : SH h) : hR h 39 2 = some (17, 4, 48) := S.1 (39, 2, some (17, 4, 48)) (List.mem_of_getElem? (i := 38) rfl)
theorem s_39_3 {h : aH} (S : SH h) : hR h 39 3 = some (18, 4, 49) := S.1 (39, 3, some (18, 4, 49)) (List.mem_of_getElem? (i := 39) rfl)
theorem s_39_4 {h : aH} (S : SH h) : hR h 39 4 = some (16, 4, 50) := S.1 (39, 4, some (16, 4, 50)) (List.mem_of_getElem? (i := 40) rfl)
theorem s_39_5 {h : aH} (S : SH h) : hR h 39 5 = some (1, 4, 51) := S.1 (39, 5, some (1, 4, 51)) (List.mem_of_getElem? (i := 41) rfl)
theorem s_39_6 {h : aH} (S : SH h) : hR h 39 6 = some (1, 4, 52) := S.1 (39, 6, some (1, 4, 52)) (List.mem_of_getElem? (i := 42) rfl)
theorem s_39_7 {h : aH} (S : SH h) : hR h 39 7 = some (1, 4, 53) := S.1 (39, 7, some (1, 4, 53)) (List.mem_of_getElem? (i := 43) rfl)
theorem s_39_8 {h : aH} (S : SH h) : hR h 39 8 = some (1, 12, 54) := S.1 (39, 8, some (1, 12, 54)) (List.mem_of_getElem? (i := 44) rfl)
theorem s_40_0 {h : aH} (S : SH h) : hR h 40 0 = some (1, 12, 41) := S.1 (40, 0, some (1, 12, 41)) (List.mem_of_getElem? (i := 45) rfl)
theorem s_40_1 {h : aH} (S : SH h) : hR h 40 1 = some (1, 12, 42) := S.1 (40, 1, some (1, 12, 42)) (List.mem_of_getElem? (i := 46) rfl)
theorem s_43_0 {h : aH} (S : SH h) : hR h 43 0 = some (1, 8, 44) := S.1 (43, 0, some (1, 8, 44)) (List.mem_of_getElem? (i := 47) rfl)
theorem s_43_1 {h : aH} (S : SH h) : hR h 43 1 = some (1, 8, 45) := S.1 (43, 1, some (1, 8, 45)) (List.mem_of_getElem? (i := 48) rfl)
theorem s_43_2 {h : aH} (S : SH h) : hR h 43 2 = some (1, 8, 46) := S.1 (43, 2, some (1, 8, 46)) (List.mem_of_getElem? (i := 49) rfl)
theorem s_43_3 {h : aH} (S : SH h) : hR h 43 3 = some (1, 4, 47) := S.1 (43, 3, some (1, 4, 47)) (List.mem_of_getElem? (i := 50) rfl)
theorem s_59_0 {h : aH} (S : SH h) : hR h 59 0 = some (0, 8, 60) := S.1 (59, 0, some (0, 8, 60)) (List.mem_of_getElem? (i := 51) rfl)
theorem s_59_1 {h : aH} (S : SH h) : hR h 59 1 = some (1, 12, 61) := S.1 (59, 1, some (1, 12, 61)) (List.mem_of_getElem? (i := 52) rfl)
theorem s_59_2 {h : aH} (S : SH h) : hR h 59 2 = some (1, 12, 62) := S.1 (59, 2, some (1, 12, 62)) (List.mem_of_getElem? (i := 53) rfl)
theorem s_63_2 {h : aH} (S : SH h) : hR h 63 2 = some (1, 8, 64) := S.1 (63, 2, some (1, 8, 64)) (List.mem_of_getElem? (i := 54) rfl)
theorem s_63_4 {h : aH} (S : SH h) : hR h 63 4 = some (1, 12, 65) := S.1 (63, 4, some (1, 12, 65)) (List.mem_of_getElem? (i := 55) rfl)
theorem s_63_5 {h : aH} (S : SH h) : hR h 63 5 = some (1, 12, 66) := S.1 (63, 5, some (1, 12, 66)) (List.mem_of_getElem? (i := 56) rfl)
theorem s_63_6 {h : aH} (S : SH h) : hR h 63 6 = some (1, 12, 67) := S.1 (63, 6, some (1, 12, 67)) (List.mem_of_getElem? (i := 57) rfl)
theorem s_63_7 {h : aH} (S : SH h) : hR h 63 7 = some (1, 576, 68) := S.1 (63, 7, some (1, 576, 68)) (List.mem_of_getElem? (i := 58) rfl)
theorem s_63_9 {h : aH} (S : SH h) : hR h 63 9 = some (1, 400, 69) := S.1 (63, 9, some (1, 400, 69)) (List.mem_of_getElem? (i := 59) rfl)
theorem s_63_10 {h : aH} (S : SH h) : hR h 63 10 = some (1, 400, 70) := S.1 (63, 10, some (1, 400, 70)) (List.mem_of_getElem? (i := 60) rfl)
theorem s_63_11 {h : aH} (S : SH h) : hR h 63 11 = some (1, 400, 71) := S.1 (63, 11, some (1, 400, 71)) (List.mem_of_getElem? (i := 61) rfl)
theorem s_63_12 {h : aH} (S : SH h) : hR h 63 12 = some (1, 400, 72) := S.1 (63, 12, some (1, 400, 72)) (List.mem_of_getElem? (i := 62) rfl)
theorem s_63_13 {h : aH} (S : SH h) : hR h 63 13 = some (2, 400, 73) := S.1 (63, 13, some (2, 400, 73)) (List.mem_of_getElem? (i := 63) rfl)
theorem s_63_15 {h : aH} (S : SH h) : hR h 63 15 = some (1, 4, 74) := S.1 (63, 15, some (1, 4, 74)) (List.mem_of_getElem? (i := 64) rfl)
theorem s_63_16 {h : aH} (S : SH h) : hR h 63 16 = some (1, 4, 75) := S.1 (63, 16, some (1, 4, 75)) (List.mem_of_getElem? (i := 65) rfl)
theorem s_63_17 {h : aH} (S : SH h) : hR h 63 17 = some (1, 4, 76) := S.1 (63, 17, some (1, 4, 76)) (List.mem_of_getElem? (i := 66) rfl)
theorem s_63_18 {h : aH} (S : SH h) : hR h 63 18 = some (1, 4, 77) := S.1 (63, 18, some (1, 4, 77)) (List.mem_of_getElem? (i := 67) rfl)
theorem s_63_19 {h : aH} (S : SH h) : hR h 63 19 = some (1, 24, 78) := S.1 (63, 19, some (1, 24, 78)) (List.mem_of_getElem? (i := 68) rfl)
theorem s_63_20 {h : aH} (S : SH h) : hR h 63 20 = some (1, 48, 79) := S.1 (63, 20, some (1, 48, 79)) (List.mem_of_getElem? (i := 69) rfl)
theorem s_63_21 {h : aH} (S : SH h) : hR h 63 21 = some (1, 416, 80) := S.1 (63, 21, some (1, 416, 80)) (List.mem_of_getElem? (i := 70) rfl)
theorem s_63_24 {h : aH} (S : SH h) : hR h 63 24 = some (1, 4, 81) := S.1 (63, 24, some (1, 4, 81)) (List.mem_of_getElem? (i := 71) rfl)
theorem s_63_25 {h : aH} (S : SH h) : hR h 63 25 = some (1, 4, 82) := S.1 (63, 25, some (1, 4, 82)) (List.mem_of_getElem? (i := 72) rfl)
theorem s_63_26 {h : aH} (S : SH h) : hR h 63 26 = some (1, 48, 83) := S.1 (63, 26, some (1, 48, 83)) (List.mem_of_getElem? (i := 73) rfl)
theorem s_63_27 {h : aH} (S : SH h) : hR h 63 27 = some (2, 72, 84) := S.1 (63, 27, some (2, 72, 84)) (List.mem_of_getElem? (i := 74) rfl)
theorem s_63_28 {h : aH} (S : SH h) : hR h 63 28 = some (1, 60, 85) := S.1 (63, 28, some (1, 60, 85)) (List.mem_of_getElem? (i := 75) rfl)
theorem s_63_29 {h : aH} (S : SH h) : hR h 63 29 = some (1, 60, 86) := S.1 (63, 29, some (1, 60, 86)) (List.mem_of_getElem? (i := 76) rfl)
theorem s_63_30 {h : aH} (S : SH h) : hR h 63 30 = some (1, 4, 87) := S.1 (63, 30, some (1, 4, 87)) (List.mem_of_getElem? (i := 77) rfl)
theorem s_63_31 {h : aH} (S : SH h) : hR h 63 31 = some (1, 12, 88) := S.1 (63, 31, some (1, 12, 88)) (List.mem_of_getElem? (i := 78) rfl)
theorem s_63_32 {h : aH} (S : SH h) : hR h 63 32 = some (1, 12, 89) := S.1 (63, 32, some (1, 12, 89)) (List.mem_of_getElem? (i := 79) rfl)
theorem s_63_33 {h : aH} (S : SH h) : hR h 63 33 = some (1, 12, 90) := S.1 (63, 33, some (1, 12, 90)) (List.mem_of_getElem? (i := 80) rfl)
theorem s_63_34 {h : aH} (S : SH h) : hR h 63 34 = some (2, 90, 91) := S.1 (63, 34, some (2, 90, 91)) (List.mem_of_getElem? (i := 81) rfl)
theorem s_63_35 {h : aH} (S : SH h) : hR h 63 35 = some (1, 1080, 92) := S.1 (63, 35, some (1, 1080, 92)) (List.mem_of_getElem? (i := 82) rfl)
theorem s_63_36 {h : aH} (S : SH h) : hR h 63 36 = some (1, 6, 93) := S.1 (63, 36, some (1, 6, 93)) (List.mem_of_getElem? (i := 83) rfl)
theorem s_63_37 {h : aH} (S : SH h) : hR h 63 37 = some (1, 6, 94) := S.1 (63, 37, some (1, 6, 94)) (List.mem_of_getElem? (i := 84) rfl)
theorem s_63_39 {h : aH} (S : SH h) : hR h 63 39 = some (1, 4, 95) := S.1 (63, 39, some (1, 4, 95)) (List.mem_of_getElem? (i := 85) rfl)
theorem s_63_40 {h : aH} (S : SH h) : hR h 63 40 = some (1, 4, 96) := S.1 (63, 40, some (1, 4, 96)) (List.mem_of_getElem? (i := 86) rfl)
theorem s_63_41 {h : aH} (S : SH h) : hR h 63 41 = some (1, 4, 97) := S.1 (63, 41, some (1, 4, 97)) (List.mem_of_getElem? (i := 87) rfl)
theorem s_63_42 {h : aH} (S : SH h) : hR h 63 42 = some (1, 4, 98) := S.1 (63, 42, some (1, 4, 98)) (List.mem_of_getElem? (i := 88) rfl)
theorem sB_0 {h : aH} {o : Nat} (S : SH h) (ho : isBd o) : hR h o 0 = some (1, 8, o + 1) := by rcases ho with rfl | rfl; exact s_21_0 S; exact s_43_0 S
theorem sB_1 {h : aH} {o : Nat} (S : SH h) (ho : isBd o) : hR h o 1 = some (1, 8, o + 2) := by rcases ho with rfl | rfl; exact s_21_1 S; exact s_43_1 S
theorem sB_2 {h : aH} {o : Nat} (S : SH h) (ho : isBd o) : hR h o 2 = some (1, 8, o + 3) := by rcases ho with rfl | rfl; exact s_21_2 S; exact s_43_2 S
theorem sB_3 {h : aH} {o : Nat} (S : SH h) (ho : isBd o) : hR h o 3 = some (1, 4, o + 4) := by rcases ho with rfl | rfl; exact s_21_3 S; exact s_43_3 S
theorem sE_0 {h : aH} {o : Nat} (S : SH h) (ho : isEv o) : hR h o 0 = some (1, 12, o + 1) := by rcases ho with rfl | rfl; exact s_28_0 S; exact s_40_0 S
theorem sE_1 {h : aH} {o : Nat} (S : SH h) (ho : isEv o) : hR h o 1 = some (1, 12, o + 2) := by rcases ho with rfl | rfl; exact s_28_1 S; exact s_40_1 S
theorem sS_0 {h : aH} {o : Nat} (S : SH h) (ho : isSh o) : hR h o 0 = some (1, 6, o + 1) := by rcases ho with rfl | rfl | rfl | rfl; exact s_5_0 S; exact s_9_0 S; exact s_13_0 S; exact s_17_0 S
theorem sS_1 {h : aH} {o : Nat} (S : SH h) (ho : isSh o) : hR h o 1 = some (1, 6, o + 2) := by rcases ho with rfl | rfl | rfl | rfl; exact s_5_1 S; exact s_9_1 S; exact s_13_1 S; exact s_17_1 S
theorem sS_2 {h : aH} {o : Nat} (S : SH h) (ho : isSh o) : hR h o 2 = some (1, 72, o + 3) := by rcases ho with rfl | rfl | rfl | rfl; exact s_5_2 S; exact s_9_2 S; exact s_13_2 S; exact s_17_2 S
