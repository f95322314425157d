/-! ===== A METHOD'S WALK IN THE WORLD BY NUMBERS ===== -/
abbrev aM : Type := MethodName × ByteArray × Nat × Option FieldType
def retOK (M : aM) (r : Option aV) (pc : Nat) : Prop :=
  (r = none ∧ M.2.2.2 = none ∧ decode M.2.1 pc = .ok (.return_, 1)) ∨
  (∃ x ty, r = some (.inl x) ∧ M.2.2.2 = some ty ∧ narrow ty (.int x) = .int x ∧ decode M.2.1 pc = .ok (.ireturn, 1)) ∨
  (∃ q C, r = some (.inr q) ∧ M.2.2.2 = some (.object C) ∧ decode M.2.1 pc = .ok (.areturn, 1))
def Cx (E : eE) (M : aM) (d : Nat) (p : Program) (R : Room) (s : State) (m : MethodId) (args : Array Value) (meth : Method) (c : Code) : Prop :=
  p.tables.exec = Jvm.exec ∧ c.code = M.2.1 ∧ c.maxLocals = M.2.2.1 ∧ s.vm.findClass M.1.cls = some m.cls ∧ (∀ w ∈ tsG, w.before args s = true) ∧ (M.1.name = "<init>" → meth.name = "<init>") ∧ RepV E s ∧ eZ E ≤ s.heap.size ∧ d ≤ R.frames ∧ 64 * d ≤ R.locals
/-- from pc on, with these locals, this stack, this heap: the method comes to its return, with Q. d: how deep calls may go on; bc, bs: what may still be made -/
def Tot (l : Launch) (E : eE) (M : aM) (d bc bs pc : Nat) (ls : List (Option aV)) (st : List aV) (h : aH) (Q : Option aV → aH → Prop) : Prop :=
  ∀ (p : Program) (e : Env) (R : Room) (s : State) (m : MethodId) (args : Array Value) (below : List Frame) (meth : Method) (c : Code) (H : Heap) (locs : List Loc) (cells slots : Nat) (G : State → Prop) (lc : Array Slot),
    Cx E M d p R s m args meth c → RepH E h H → va_S (eA E) s.heap H locs → cells + bc ≤ R.cells → slots + bs ≤ R.slots →
    lsOK E lc M.2.2.1 ls → okL h ls → okS h st →
    (∀ (r : Option aV) (h' : aH) (H' : Heap) (locs' : List Loc) (cells' slots' pc' : Nat) (lc' : Array Slot), Q r h' → RepH E h' H' → va_S (eA E) s.heap H' locs' → cells' ≤ R.cells → slots' ≤ R.slots → exH h h' → okO h' r → retOK M r pc' →
      W p l e R s m args below meth c H' locs' cells' slots' G (F0 m pc' lc' ((r.map (cv E)).toList))) →
    W p l e R s m args below meth c H locs cells slots G (F0 m pc lc (st.map (cv E)))
/-- a method's contract -/
def Mt (l : Launch) (E : eE) (d mc ms : Nat) (M : aM) (args : List aV) (h : aH) (Q : Option aV → aH → Prop) : Prop :=
  Met l M.1 (.code M.1 M.2.1 M.2.2.1 M.2.2.2 :: tsG) { frames := d, cells := mc, slots := ms, locals := 64 * d }
    (fun v U => v = (args.map (cv E)).toArray ∧ RepH E h U.heap ∧ RepV E U ∧ okS h args)
    (fun _ st oc t => (∃ (r : Option aV) (h' : aH), oc = .returned (r.map (cv E)) ∧ Q r h' ∧ RepH E h' t.heap ∧ exH h h' ∧ okO h' r) ∧ va_F (eA E) st t) mc ms (eA E)
section RULES
variable {l : Launch} {E : eE} {M : aM} {d bc bs pc : Nat} {ls : List (Option aV)} {st : List aV} {h : aH} {Q : Option aV → aH → Prop}
theorem Tot.mono {Q' : Option aV → aH → Prop} (hq : ∀ r h', Q r h' → Q' r h') (k : Tot l E M d bc bs pc ls st h Q) : Tot l E M d bc bs pc ls st h Q' := by
  intro p e R s m args below meth c H locs cells slots G lc C hH hS hc hs hl hL hSt hret
  exact k p e R s m args below meth c H locs cells slots G lc C hH hS hc hs hl hL hSt (fun r h' H' locs' cells' slots' pc' lc' hQ => hret r h' H' locs' cells' slots' pc' lc' (hq r h' hQ))
theorem Tot.stk {st' : List aV} {pc' : Nat} (hok : okS h st → okS h st')
    (hw : ∀ {p : Program} {e : Env} {R : Room} {s : State} {m : MethodId} {args : Array Value} {below : List Frame} {meth : Method} {c : Code} {H : Heap} {locs : List Loc} {cells slots : Nat} {G : State → Prop} {lc : Array Slot}, p.tables.exec = Jvm.exec → c.code = M.2.1 → W p l e R s m args below meth c H locs cells slots G (F0 m pc' lc (st'.map (cv E))) → W p l e R s m args below meth c H locs cells slots G (F0 m pc lc (st.map (cv E))))
    (k : Tot l E M d bc bs pc' ls st' h Q) : Tot l E M d bc bs pc ls st h Q := by
  intro p e R s m args below meth c H locs cells slots G lc C hH hS hc hs hl hL hSt hret
  exact hw C.1 C.2.1 (k p e R s m args below meth c H locs cells slots G lc C hH hS hc hs hl hL (hok hSt) hret)
theorem z_iconst {n : Int} {v : Int32} (hd : decode M.2.1 pc = .ok (.iconst n, 1)) (hv : Int32.ofInt n = v) (k : Tot l E M d bc bs (pc + 1) ls (.inl v :: st) h Q) : Tot l E M d bc bs pc ls st h Q :=
  Tot.stk (fun o => okS.cn (okV.int _ _) o) (fun hx hb w => lv_iconst hx hb hd hv w) k
theorem z_bipush {n : Int} {v : Int32} (hd : decode M.2.1 pc = .ok (.bipush n, 2)) (hv : (Int8.ofInt n).toInt32 = v) (k : Tot l E M d bc bs (pc + 2) ls (.inl v :: st) h Q) : Tot l E M d bc bs pc ls st h Q :=
  Tot.stk (fun o => okS.cn (okV.int _ _) o) (fun hx hb w => lv_bipush hx hb hd hv w) k
theorem z_sipush {n : Int} {v : Int32} (hd : decode M.2.1 pc = .ok (.sipush n, 3)) (hv : (Int16.ofInt n).toInt32 = v) (k : Tot l E M d bc bs (pc + 3) ls (.inl v :: st) h Q) : Tot l E M d bc bs pc ls st h Q :=
  Tot.stk (fun o => okS.cn (okV.int _ _) o) (fun hx hb w => lv_sipush hx hb hd hv w) k
theorem z_null (hd : decode M.2.1 pc = .ok (.aconst_null, 1)) (k : Tot l E M d bc bs (pc + 1) ls (.inr none :: st) h Q) : Tot l E M d bc bs pc ls st h Q :=
  Tot.stk (fun o => okS.cn (okV.null _) o) (fun hx hb w => lv_null hx hb hd w) k
theorem z_iadd {x y : Int32} (hd : decode M.2.1 pc = .ok (.iadd, 1)) (k : Tot l E M d bc bs (pc + 1) ls (.inl (x + y) :: st) h Q) : Tot l E M d bc bs pc ls (.inl y :: .inl x :: st) h Q :=
  Tot.stk (fun o => okS.cn (okV.int _ _) o.tl.tl) (fun hx hb w => lv_iadd hx hb hd w) k
theorem z_isub {x y : Int32} (hd : decode M.2.1 pc = .ok (.isub, 1)) (k : Tot l E M d bc bs (pc + 1) ls (.inl (x - y) :: st) h Q) : Tot l E M d bc bs pc ls (.inl y :: .inl x :: st) h Q :=
  Tot.stk (fun o => okS.cn (okV.int _ _) o.tl.tl) (fun hx hb w => lv_isub hx hb hd w) k
theorem z_imul {x y : Int32} (hd : decode M.2.1 pc = .ok (.imul, 1)) (k : Tot l E M d bc bs (pc + 1) ls (.inl (x * y) :: st) h Q) : Tot l E M d bc bs pc ls (.inl y :: .inl x :: st) h Q :=
  Tot.stk (fun o => okS.cn (okV.int _ _) o.tl.tl) (fun hx hb w => lv_imul hx hb hd w) k
theorem z_iand {x y : Int32} (hd : decode M.2.1 pc = .ok (.iand, 1)) (k : Tot l E M d bc bs (pc + 1) ls (.inl (x &&& y) :: st) h Q) : Tot l E M d bc bs pc ls (.inl y :: .inl x :: st) h Q :=
  Tot.stk (fun o => okS.cn (okV.int _ _) o.tl.tl) (fun hx hb w => lv_iand hx hb hd w) k
theorem z_ior {x y : Int32} (hd : decode M.2.1 pc = .ok (.ior, 1)) (k : Tot l E M d bc bs (pc + 1) ls (.inl (x ||| y) :: st) h Q) : Tot l E M d bc bs pc ls (.inl y :: .inl x :: st) h Q :=
  Tot.stk (fun o => okS.cn (okV.int _ _) o.tl.tl) (fun hx hb w => lv_ior hx hb hd w) k
theorem z_ixor {x y : Int32} (hd : decode M.2.1 pc = .ok (.ixor, 1)) (k : Tot l E M d bc bs (pc + 1) ls (.inl (x ^^^ y) :: st) h Q) : Tot l E M d bc bs pc ls (.inl y :: .inl x :: st) h Q :=
  Tot.stk (fun o => okS.cn (okV.int _ _) o.tl.tl) (fun hx hb w => lv_ixor hx hb hd w) k
theorem z_idiv {x y : Int32} (hd : decode M.2.1 pc = .ok (.idiv, 1)) (hy : ¬ y = 0) (k : Tot l E M d bc bs (pc + 1) ls (.inl (x / y) :: st) h Q) : Tot l E M d bc bs pc ls (.inl y :: .inl x :: st) h Q :=
  Tot.stk (fun o => okS.cn (okV.int _ _) o.tl.tl) (fun hx hb w => lv_idiv hx hb hd hy w) k
theorem z_irem {x y : Int32} (hd : decode M.2.1 pc = .ok (.irem, 1)) (hy : ¬ y = 0) (k : Tot l E M d bc bs (pc + 1) ls (.inl (x - x / y * y) :: st) h Q) : Tot l E M d bc bs pc ls (.inl y :: .inl x :: st) h Q :=
  Tot.stk (fun o => okS.cn (okV.int _ _) o.tl.tl) (fun hx hb w => lv_irem hx hb hd hy w) k
theorem z_ineg {x : Int32} (hd : decode M.2.1 pc = .ok (.ineg, 1)) (k : Tot l E M d bc bs (pc + 1) ls (.inl (0 - x) :: st) h Q) : Tot l E M d bc bs pc ls (.inl x :: st) h Q :=
  Tot.stk (fun o => okS.cn (okV.int _ _) o.tl) (fun hx hb w => lv_ineg hx hb hd w) k
theorem z_ishl {x y : Int32} (hd : decode M.2.1 pc = .ok (.ishl, 1)) (k : Tot l E M d bc bs (pc + 1) ls (.inl (x <<< (y &&& 31)) :: st) h Q) : Tot l E M d bc bs pc ls (.inl y :: .inl x :: st) h Q :=
  Tot.stk (fun o => okS.cn (okV.int _ _) o.tl.tl) (fun hx hb w => lv_ishl hx hb hd w) k
theorem z_ishr {x y : Int32} (hd : decode M.2.1 pc = .ok (.ishr, 1)) (k : Tot l E M d bc bs (pc + 1) ls (.inl (x >>> (y &&& 31)) :: st) h Q) : Tot l E M d bc bs pc ls (.inl y :: .inl x :: st) h Q :=
  Tot.stk (fun o => okS.cn (okV.int _ _) o.tl.tl) (fun hx hb w => lv_ishr hx hb hd w) k
theorem z_iushr {x y : Int32} (hd : decode M.2.1 pc = .ok (.iushr, 1)) (k : Tot l E M d bc bs (pc + 1) ls (.inl (x.toUInt32 >>> (y.toUInt32 &&& Int32.toUInt32 31)).toInt32 :: st) h Q) : Tot l E M d bc bs pc ls (.inl y :: .inl x :: st) h Q :=
  Tot.stk (fun o => okS.cn (okV.int _ _) o.tl.tl) (fun hx hb w => lv_iushr hx hb hd rfl w) k
theorem z_i2b {x : Int32} (hd : decode M.2.1 pc = .ok (.i2b, 1)) (k : Tot l E M d bc bs (pc + 1) ls (.inl x.toInt8.toInt32 :: st) h Q) : Tot l E M d bc bs pc ls (.inl x :: st) h Q :=
  Tot.stk (fun o => okS.cn (okV.int _ _) o.tl) (fun hx hb w => lv_i2b hx hb hd rfl w) k
theorem z_dup {v : aV} (hd : decode M.2.1 pc = .ok (.dup, 1)) (k : Tot l E M d bc bs (pc + 1) ls (v :: v :: st) h Q) : Tot l E M d bc bs pc ls (v :: st) h Q :=
  Tot.stk (fun o => okS.cn o.hd o) (fun hx hb w => lv_dup hx hb hd (cv_cat E v) w) k
theorem z_pop {v : aV} (hd : decode M.2.1 pc = .ok (.pop, 1)) (k : Tot l E M d bc bs (pc + 1) ls st h Q) : Tot l E M d bc bs pc ls (v :: st) h Q :=
  Tot.stk (fun o => o.tl) (fun hx hb w => lv_pop hx hb hd (cv_cat E v) w) k
theorem z_dup_x1 {v u : aV} (hd : decode M.2.1 pc = .ok (.dup_x1, 1)) (k : Tot l E M d bc bs (pc + 1) ls (v :: u :: v :: st) h Q) : Tot l E M d bc bs pc ls (v :: u :: st) h Q :=
  Tot.stk (fun o => okS.cn o.hd (okS.cn o.tl.hd (okS.cn o.hd o.tl.tl))) (fun hx hb w => lv_dup_x1 hx hb hd (cv_cat E v) (cv_cat E u) w) k
theorem z_dup2 {v u : aV} (hd : decode M.2.1 pc = .ok (.dup2, 1)) (k : Tot l E M d bc bs (pc + 1) ls (v :: u :: v :: u :: st) h Q) : Tot l E M d bc bs pc ls (v :: u :: st) h Q :=
  Tot.stk (fun o => okS.cn o.hd (okS.cn o.tl.hd o)) (fun hx hb w => lv_dup2_11 hx hb hd (cv_cat E v) (cv_cat E u) w) k
theorem z_goto {off : Int} {tgt : Nat} (hd : decode M.2.1 pc = .ok (.goto off, 3)) (ht : (pc : Int) + off = (tgt : Int)) (k : Tot l E M d bc bs tgt ls st h Q) : Tot l E M d bc bs pc ls st h Q :=
  Tot.stk (fun o => o) (fun hx hb w => lv_goto hx hb hd ht w) k
theorem z_if_eq {x : Int32} {off : Int} {tgt : Nat} (hd : decode M.2.1 pc = .ok (.ifCond .eq off, 3)) (ht : (pc : Int) + off = (tgt : Int)) (kt : x = 0 → Tot l E M d bc bs tgt ls st h Q) (kf : ¬ x = 0 → Tot l E M d bc bs (pc + 3) ls st h Q) : Tot l E M d bc bs pc ls (.inl x :: st) h Q := by
  intro p e R s m args below meth c H locs cells slots G lc C hH hS hc hs hl hL hSt hret
  exact lv_if_eq C.1 C.2.1 hd ht (fun q => kt q p e R s m args below meth c H locs cells slots G lc C hH hS hc hs hl hL hSt.tl hret) (fun q => kf q p e R s m args below meth c H locs cells slots G lc C hH hS hc hs hl hL hSt.tl hret)
theorem z_icmp_eq {x y : Int32} {off : Int} {tgt : Nat} (hd : decode M.2.1 pc = .ok (.if_icmp .eq off, 3)) (ht : (pc : Int) + off = (tgt : Int)) (kt : x = y → Tot l E M d bc bs tgt ls st h Q) (kf : ¬ x = y → Tot l E M d bc bs (pc + 3) ls st h Q) : Tot l E M d bc bs pc ls (.inl y :: .inl x :: st) h Q := by
  intro p e R s m args below meth c H locs cells slots G lc C hH hS hc hs hl hL hSt hret
  exact lv_icmp_eq C.1 C.2.1 hd ht (fun q => kt q p e R s m args below meth c H locs cells slots G lc C hH hS hc hs hl hL hSt.tl.tl hret) (fun q => kf q p e R s m args below meth c H locs cells slots G lc C hH hS hc hs hl hL hSt.tl.tl hret)
theorem z_if_ne {x : Int32} {off : Int} {tgt : Nat} (hd : decode M.2.1 pc = .ok (.ifCond .ne off, 3)) (ht : (pc : Int) + off = (tgt : Int)) (kt : ¬ x = 0 → Tot l E M d bc bs tgt ls st h Q) (kf : x = 0 → Tot l E M d bc bs (pc + 3) ls st h Q) : Tot l E M d bc bs pc ls (.inl x :: st) h Q := by
  intro p e R s m args below meth c H locs cells slots G lc C hH hS hc hs hl hL hSt hret
  exact lv_if_ne C.1 C.2.1 hd ht (fun q => kt q p e R s m args below meth c H locs cells slots G lc C hH hS hc hs hl hL hSt.tl hret) (fun q => kf q p e R s m args below meth c H locs cells slots G lc C hH hS hc hs hl hL hSt.tl hret)
theorem z_icmp_ne {x y : Int32} {off : Int} {tgt : Nat} (hd : decode M.2.1 pc = .ok (.if_icmp .ne off, 3)) (ht : (pc : Int) + off = (tgt : Int)) (kt : ¬ x = y → Tot l E M d bc bs tgt ls st h Q) (kf : x = y → Tot l E M d bc bs (pc + 3) ls st h Q) : Tot l E M d bc bs pc ls (.inl y :: .inl x :: st) h Q := by
  intro p e R s m args below meth c H locs cells slots G lc C hH hS hc hs hl hL hSt hret
  exact lv_icmp_ne C.1 C.2.1 hd ht (fun q => kt q p e R s m args below meth c H locs cells slots G lc C hH hS hc hs hl hL hSt.tl.tl hret) (fun q => kf q p e R s m args below meth c H locs cells slots G lc C hH hS hc hs hl hL hSt.tl.tl hret)
theorem z_if_lt {x : Int32} {off : Int} {tgt : Nat} (hd : decode M.2.1 pc = .ok (.ifCond .lt off, 3)) (ht : (pc : Int) + off = (tgt : Int)) (kt : x < 0 → Tot l E M d bc bs tgt ls st h Q) (kf : ¬ x < 0 → Tot l E M d bc bs (pc + 3) ls st h Q) : Tot l E M d bc bs pc ls (.inl x :: st) h Q := by
  intro p e R s m args below meth c H locs cells slots G lc C hH hS hc hs hl hL hSt hret
  exact lv_if_lt C.1 C.2.1 hd ht (fun q => kt q p e R s m args below meth c H locs cells slots G lc C hH hS hc hs hl hL hSt.tl hret) (fun q => kf q p e R s m args below meth c H locs cells slots G lc C hH hS hc hs hl hL hSt.tl hret)
theorem z_icmp_lt {x y : Int32} {off : Int} {tgt : Nat} (hd : decode M.2.1 pc = .ok (.if_icmp .lt off, 3)) (ht : (pc : Int) + off = (tgt : Int)) (kt : x < y → Tot l E M d bc bs tgt ls st h Q) (kf : ¬ x < y → Tot l E M d bc bs (pc + 3) ls st h Q) : Tot l E M d bc bs pc ls (.inl y :: .inl x :: st) h Q := by
  intro p e R s m args below meth c H locs cells slots G lc C hH hS hc hs hl hL hSt hret
  exact lv_icmp_lt C.1 C.2.1 hd ht (fun q => kt q p e R s m args below meth c H locs cells slots G lc C hH hS hc hs hl hL hSt.tl.tl hret) (fun q => kf q p e R s m args below meth c H locs cells slots G lc C hH hS hc hs hl hL hSt.tl.tl hret)
theorem z_if_ge {x : Int32} {off : Int} {tgt : Nat} (hd : decode M.2.1 pc = .ok (.ifCond .ge off, 3)) (ht : (pc : Int) + off = (tgt : Int)) (kt : 0 ≤ x → Tot l E M d bc bs tgt ls st h Q) (kf : ¬ 0 ≤ x → Tot l E M d bc bs (pc + 3) ls st h Q) : Tot l E M d bc bs pc ls (.inl x :: st) h Q := by
  intro p e R s m args below meth c H locs cells slots G lc C hH hS hc hs hl hL hSt hret
  exact lv_if_ge C.1 C.2.1 hd ht (fun q => kt q p e R s m args below meth c H locs cells slots G lc C hH hS hc hs hl hL hSt.tl hret) (fun q => kf q p e R s m args below meth c H locs cells slots G lc C hH hS hc hs hl hL hSt.tl hret)
theorem z_icmp_ge {x y : Int32} {off : Int} {tgt : Nat} (hd : decode M.2.1 pc = .ok (.if_icmp .ge off, 3)) (ht : (pc : Int) + off = (tgt : Int)) (kt : y ≤ x → Tot l E M d bc bs tgt ls st h Q) (kf : ¬ y ≤ x → Tot l E M d bc bs (pc + 3) ls st h Q) : Tot l E M d bc bs pc ls (.inl y :: .inl x :: st) h Q := by
  intro p e R s m args below meth c H locs cells slots G lc C hH hS hc hs hl hL hSt hret
  exact lv_icmp_ge C.1 C.2.1 hd ht (fun q => kt q p e R s m args below meth c H locs cells slots G lc C hH hS hc hs hl hL hSt.tl.tl hret) (fun q => kf q p e R s m args below meth c H locs cells slots G lc C hH hS hc hs hl hL hSt.tl.tl hret)
theorem z_if_gt {x : Int32} {off : Int} {tgt : Nat} (hd : decode M.2.1 pc = .ok (.ifCond .gt off, 3)) (ht : (pc : Int) + off = (tgt : Int)) (kt : 0 < x → Tot l E M d bc bs tgt ls st h Q) (kf : ¬ 0 < x → Tot l E M d bc bs (pc + 3) ls st h Q) : Tot l E M d bc bs pc ls (.inl x :: st) h Q := by
  intro p e R s m args below meth c H locs cells slots G lc C hH hS hc hs hl hL hSt hret
  exact lv_if_gt C.1 C.2.1 hd ht (fun q => kt q p e R s m args below meth c H locs cells slots G lc C hH hS hc hs hl hL hSt.tl hret) (fun q => kf q p e R s m args below meth c H locs cells slots G lc C hH hS hc hs hl hL hSt.tl hret)
theorem z_icmp_gt {x y : Int32} {off : Int} {tgt : Nat} (hd : decode M.2.1 pc = .ok (.if_icmp .gt off, 3)) (ht : (pc : Int) + off = (tgt : Int)) (kt : y < x → Tot l E M d bc bs tgt ls st h Q) (kf : ¬ y < x → Tot l E M d bc bs (pc + 3) ls st h Q) : Tot l E M d bc bs pc ls (.inl y :: .inl x :: st) h Q := by
  intro p e R s m args below meth c H locs cells slots G lc C hH hS hc hs hl hL hSt hret
  exact lv_icmp_gt C.1 C.2.1 hd ht (fun q => kt q p e R s m args below meth c H locs cells slots G lc C hH hS hc hs hl hL hSt.tl.tl hret) (fun q => kf q p e R s m args below meth c H locs cells slots G lc C hH hS hc hs hl hL hSt.tl.tl hret)
theorem z_if_le {x : Int32} {off : Int} {tgt : Nat} (hd : decode M.2.1 pc = .ok (.ifCond .le off, 3)) (ht : (pc : Int) + off = (tgt : Int)) (kt : x ≤ 0 → Tot l E M d bc bs tgt ls st h Q) (kf : ¬ x ≤ 0 → Tot l E M d bc bs (pc + 3) ls st h Q) : Tot l E M d bc bs pc ls (.inl x :: st) h Q := by
  intro p e R s m args below meth c H locs cells slots G lc C hH hS hc hs hl hL hSt hret
  exact lv_if_le C.1 C.2.1 hd ht (fun q => kt q p e R s m args below meth c H locs cells slots G lc C hH hS hc hs hl hL hSt.tl hret) (fun q => kf q p e R s m args below meth c H locs cells slots G lc C hH hS hc hs hl hL hSt.tl hret)
theorem z_icmp_le {x y : Int32} {off : Int} {tgt : Nat} (hd : decode M.2.1 pc = .ok (.if_icmp .le off, 3)) (ht : (pc : Int) + off = (tgt : Int)) (kt : x ≤ y → Tot l E M d bc bs tgt ls st h Q) (kf : ¬ x ≤ y → Tot l E M d bc bs (pc + 3) ls st h Q) : Tot l E M d bc bs pc ls (.inl y :: .inl x :: st) h Q := by
  intro p e R s m args below meth c H locs cells slots G lc C hH hS hc hs hl hL hSt hret
  exact lv_icmp_le C.1 C.2.1 hd ht (fun q => kt q p e R s m args below meth c H locs cells slots G lc C hH hS hc hs hl hL hSt.tl.tl hret) (fun q => kf q p e R s m args below meth c H locs cells slots G lc C hH hS hc hs hl hL hSt.tl.tl hret)
theorem z_ifnull {r : aR} {off : Int} {tgt : Nat} (hd : decode M.2.1 pc = .ok (.ifnull off, 3)) (ht : (pc : Int) + off = (tgt : Int)) (kt : r = none → Tot l E M d bc bs tgt ls st h Q) (kf : ∀ q, r = some q → Tot l E M d bc bs (pc + 3) ls st h Q) : Tot l E M d bc bs pc ls (.inr r :: st) h Q := by
  intro p e R s m args below meth c H locs cells slots G lc C hH hS hc hs hl hL hSt hret
  cases r with
  | none => exact lv_ifnullN C.1 C.2.1 hd ht (kt rfl p e R s m args below meth c H locs cells slots G lc C hH hS hc hs hl hL hSt.tl hret)
  | some q => exact lv_ifnull C.1 C.2.1 hd (kf q rfl p e R s m args below meth c H locs cells slots G lc C hH hS hc hs hl hL hSt.tl hret)
theorem z_ifnonnull {r : aR} {off : Int} {tgt : Nat} (hd : decode M.2.1 pc = .ok (.ifnonnull off, 3)) (ht : (pc : Int) + off = (tgt : Int)) (kt : ∀ q, r = some q → Tot l E M d bc bs tgt ls st h Q) (kf : r = none → Tot l E M d bc bs (pc + 3) ls st h Q) : Tot l E M d bc bs pc ls (.inr r :: st) h Q := by
  intro p e R s m args below meth c H locs cells slots G lc C hH hS hc hs hl hL hSt hret
  cases r with
  | none => exact lv_ifnonnullN C.1 C.2.1 hd (kf rfl p e R s m args below meth c H locs cells slots G lc C hH hS hc hs hl hL hSt.tl hret)
  | some q => exact lv_ifnonnull C.1 C.2.1 hd ht (kt q rfl p e R s m args below meth c H locs cells slots G lc C hH hS hc hs hl hL hSt.tl hret)
theorem okL.at {i : Nat} {v : aV} (hL : okL h ls) (hi : ls[i]? = some (some v)) : okV h v := hL v (List.mem_of_getElem? hi)
theorem okL.set {i : Nat} {v : aV} (hL : okL h ls) (hv : okV h v) : okL h (ls.set i (some v)) := fun w hw => by
  rcases List.mem_or_eq_of_mem_set hw with q | q
  · exact hL w q
  · cases q; exact hv
theorem z_iload_n {k : Fin 4} {i : Nat} {x : Int32} (hd : decode M.2.1 pc = .ok (.iload_n k, 1)) (hi : (k : Nat) = i) (hv : ls[i]? = some (some (.inl x))) (k : Tot l E M d bc bs (pc + 1) ls (.inl x :: st) h Q) : Tot l E M d bc bs pc ls st h Q := by
  intro p e R s m args below meth c H locs cells slots G lc C hH hS hc hs hl hL hSt hret
  exact lv_iload_n C.1 C.2.1 hd hi (hl.2.2 i _ hv) (k p e R s m args below meth c H locs cells slots G lc C hH hS hc hs hl hL (okS.cn (okV.int _ _) hSt) hret)
theorem z_iload {i : Nat} {x : Int32} (hd : decode M.2.1 pc = .ok (.iload i, 2)) (hv : ls[i]? = some (some (.inl x))) (k : Tot l E M d bc bs (pc + 2) ls (.inl x :: st) h Q) : Tot l E M d bc bs pc ls st h Q := by
  intro p e R s m args below meth c H locs cells slots G lc C hH hS hc hs hl hL hSt hret
  exact lv_iload C.1 C.2.1 hd (hl.2.2 i _ hv) (k p e R s m args below meth c H locs cells slots G lc C hH hS hc hs hl hL (okS.cn (okV.int _ _) hSt) hret)
theorem z_aload_n {k : Fin 4} {i : Nat} {r : aR} (hd : decode M.2.1 pc = .ok (.aload_n k, 1)) (hi : (k : Nat) = i) (hv : ls[i]? = some (some (.inr r))) (k : Tot l E M d bc bs (pc + 1) ls (.inr r :: st) h Q) : Tot l E M d bc bs pc ls st h Q := by
  intro p e R s m args below meth c H locs cells slots G lc C hH hS hc hs hl hL hSt hret
  have w := k p e R s m args below meth c H locs cells slots G lc C hH hS hc hs hl hL (okS.cn (hL.at hv) hSt) hret
  cases r with
  | none => exact lv_aload_nN C.1 C.2.1 hd hi (hl.2.2 i _ hv) w
  | some q => exact lv_aload_n C.1 C.2.1 hd hi (hl.2.2 i _ hv) w
theorem z_aload {i : Nat} {r : aR} (hd : decode M.2.1 pc = .ok (.aload i, 2)) (hv : ls[i]? = some (some (.inr r))) (k : Tot l E M d bc bs (pc + 2) ls (.inr r :: st) h Q) : Tot l E M d bc bs pc ls st h Q := by
  intro p e R s m args below meth c H locs cells slots G lc C hH hS hc hs hl hL hSt hret
  have w := k p e R s m args below meth c H locs cells slots G lc C hH hS hc hs hl hL (okS.cn (hL.at hv) hSt) hret
  cases r with
  | none => exact lv_aloadN C.1 C.2.1 hd (hl.2.2 i _ hv) w
  | some q => exact lv_aload C.1 C.2.1 hd (hl.2.2 i _ hv) w
theorem z_istore_n {k : Fin 4} {i : Nat} {x : Int32} {ls' : List (Option aV)} (hd : decode M.2.1 pc = .ok (.istore_n k, 1)) (hi : (k : Nat) = i) (hn : Nat.blt i ls.length = true) (hls : ls.set i (some (.inl x)) = ls') (k : Tot l E M d bc bs (pc + 1) ls' st h Q) : Tot l E M d bc bs pc ls (.inl x :: st) h Q := by
  subst hls
  intro p e R s m args below meth c H locs cells slots G lc C hH hS hc hs hl hL hSt hret
  have hlt : i < M.2.2.1 := by rw [← hl.1.2]; exact Nat.le_of_ble_eq_true hn
  exact lv_istore_n C.1 C.2.1 hd hi hl.has hlt rfl (fun lc' hl' => k p e R s m args below meth c H locs cells slots G lc' C hH hS hc hs (lsOK.set (v := .inl x) hl.1.2 hl') (hL.set (okV.int _ _)) hSt.tl hret)
theorem z_istore {i : Nat} {x : Int32} {ls' : List (Option aV)} (hd : decode M.2.1 pc = .ok (.istore i, 2)) (hn : Nat.blt i ls.length = true) (hls : ls.set i (some (.inl x)) = ls') (k : Tot l E M d bc bs (pc + 2) ls' st h Q) : Tot l E M d bc bs pc ls (.inl x :: st) h Q := by
  subst hls
  intro p e R s m args below meth c H locs cells slots G lc C hH hS hc hs hl hL hSt hret
  have hlt : i < M.2.2.1 := by rw [← hl.1.2]; exact Nat.le_of_ble_eq_true hn
  exact lv_istore C.1 C.2.1 hd hl.has hlt rfl (fun lc' hl' => k p e R s m args below meth c H locs cells slots G lc' C hH hS hc hs (lsOK.set (v := .inl x) hl.1.2 hl') (hL.set (okV.int _ _)) hSt.tl hret)
theorem z_astore_n {k : Fin 4} {i : Nat} {r : aR} {ls' : List (Option aV)} (hd : decode M.2.1 pc = .ok (.astore_n k, 1)) (hi : (k : Nat) = i) (hn : Nat.blt i ls.length = true) (hls : ls.set i (some (.inr r)) = ls') (k : Tot l E M d bc bs (pc + 1) ls' st h Q) : Tot l E M d bc bs pc ls (.inr r :: st) h Q := by
  subst hls
  intro p e R s m args below meth c H locs cells slots G lc C hH hS hc hs hl hL hSt hret
  have hlt : i < M.2.2.1 := by rw [← hl.1.2]; exact Nat.le_of_ble_eq_true hn
  cases r with
  | none => exact lv_astore_nN C.1 C.2.1 hd hi hl.has hlt rfl (fun lc' hl' => k p e R s m args below meth c H locs cells slots G lc' C hH hS hc hs (lsOK.set (v := .inr none) hl.1.2 hl') (hL.set hSt.hd) hSt.tl hret)
  | some q => exact lv_astore_n C.1 C.2.1 hd hi hl.has hlt rfl (fun lc' hl' => k p e R s m args below meth c H locs cells slots G lc' C hH hS hc hs (lsOK.set (v := .inr (some q)) hl.1.2 hl') (hL.set hSt.hd) hSt.tl hret)
theorem z_astore {i : Nat} {r : aR} {ls' : List (Option aV)} (hd : decode M.2.1 pc = .ok (.astore i, 2)) (hn : Nat.blt i ls.length = true) (hls : ls.set i (some (.inr r)) = ls') (k : Tot l E M d bc bs (pc + 2) ls' st h Q) : Tot l E M d bc bs pc ls (.inr r :: st) h Q := by
  subst hls
  intro p e R s m args below meth c H locs cells slots G lc C hH hS hc hs hl hL hSt hret
  have hlt : i < M.2.2.1 := by rw [← hl.1.2]; exact Nat.le_of_ble_eq_true hn
  cases r with
  | none => exact lv_astoreN C.1 C.2.1 hd hl.has hlt rfl (fun lc' hl' => k p e R s m args below meth c H locs cells slots G lc' C hH hS hc hs (lsOK.set (v := .inr none) hl.1.2 hl') (hL.set hSt.hd) hSt.tl hret)
  | some q => exact lv_astore C.1 C.2.1 hd hl.has hlt rfl (fun lc' hl' => k p e R s m args below meth c H locs cells slots G lc' C hH hS hc hs (lsOK.set (v := .inr (some q)) hl.1.2 hl') (hL.set hSt.hd) hSt.tl hret)
theorem z_iinc {i : Nat} {n : Int} {x v : Int32} {ls' : List (Option aV)} (hd : decode M.2.1 pc = .ok (.iinc i n, 3)) (hx : ls[i]? = some (some (.inl x))) (hv : x + Int32.ofInt n = v) (hls : ls.set i (some (.inl v)) = ls') (k : Tot l E M d bc bs (pc + 3) ls' st h Q) : Tot l E M d bc bs pc ls st h Q := by
  subst hls
  intro p e R s m args below meth c H locs cells slots G lc C hH hS hc hs hl hL hSt hret
  have hlt : i < M.2.2.1 := by rw [← hl.1.2]; exact (List.getElem?_eq_some_iff.mp hx).1
  obtain ⟨j, hj⟩ := List.getElem?_of_mem (lvl_of (E := E) hx)
  exact lv_iinc C.1 C.2.1 hd hl.has hj hv hlt rfl (fun lc' hl' => k p e R s m args below meth c H locs cells slots G lc' C hH hS hc hs (lsOK.set (v := .inl v) hl.1.2 hl') (hL.set (okV.int _ _)) hSt hret)
/-! returns -/
theorem z_iret {x : Int32} {ty : FieldType} (hd : decode M.2.1 pc = .ok (.ireturn, 1)) (hr : M.2.2.2 = some ty) (hn : narrow ty (.int x) = .int x) (k : Q (some (.inl x)) h) : Tot l E M d bc bs pc ls [.inl x] h Q := by
  intro p e R s m args below meth c H locs cells slots G lc C hH hS hc hs hl hL hSt hret
  exact hret _ h H locs cells slots pc lc k hH hS (by omega) (by omega) (exH.rf h) (fun v e => by cases e; exact okV.int _ _) (Or.inr (Or.inl ⟨x, ty, rfl, hr, hn, hd⟩))
theorem z_aret {r : aR} {C : String} (hd : decode M.2.1 pc = .ok (.areturn, 1)) (hr : M.2.2.2 = some (.object C)) (k : Q (some (.inr r)) h) : Tot l E M d bc bs pc ls [.inr r] h Q := by
  intro p e R s m args below meth c H locs cells slots G lc Cc hH hS hc hs hl hL hSt hret
  exact hret _ h H locs cells slots pc lc k hH hS (by omega) (by omega) (exH.rf h) (fun v e => by cases e; exact hSt.hd) (Or.inr (Or.inr ⟨r, C, rfl, hr, hd⟩))
theorem z_ret (hd : decode M.2.1 pc = .ok (.return_, 1)) (hr : M.2.2.2 = none) (k : Q none h) : Tot l E M d bc bs pc ls [] h Q := by
  intro p e R s m args below meth c H locs cells slots G lc C hH hS hc hs hl hL hSt hret
  exact hret _ h H locs cells slots pc lc k hH hS (by omega) (by omega) (exH.rf h) (fun v e => by cases e) (Or.inl ⟨rfl, hr, hd⟩)
end RULES
