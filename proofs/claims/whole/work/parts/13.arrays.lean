/-! ===== arrays ===== -/
def kpos (k : Nat) : Nat := match k with
  | 1 => 0 | 2 => 1 | 3 => 2 | 12 => 3 | 14 => 4 | 16 => 5 | 17 => 6 | _ => 7
theorem tyE_at {E : eE} {k : Nat} (hk : kinds[kpos k]? = some k) : (tyE E)[kpos k]? = some (eK E k, kty k) := by
  simp [tyE, hk]
theorem arr_put {cA : ClassId} {n a k : Nat} {F : Nat → Nat → Int32} {x : Int32} {v : Value} (hv : v = .int x) : (arrV cA n (fun j => .int (F a j))).setSlot k v = arrV cA n (fun j => .int (up2 F a k x a j)) := by
  subst hv
  rw [arrV_store]
  congr 1
  funext q
  by_cases hq : q = k
  · subst hq
    simp [updV, up2]
  · simp [updV, up2, hq]
section RULES3
variable {l : Launch} {E : eE} {M : aM} {d bc bs pc : Nat} {ls : List (Option aV)} {st : List aV} {h : aH} {Q : Option aV → aH → Prop}
theorem RepH.arr {H : Heap} (hH : RepH E h H) {a k n : Nat} (ho : a < hN h) (ht : hT h a = (k, n)) (h0 : k ≠ 0) (h8 : k < 8) : (wl E h)[a]? = some (eZ E + a, .inl (eK E k, n, .inl (hA h a))) := by rw [wl_at E h ho, cel_arr ht h0 h8]
theorem RepH.cellA {H : Heap} (hH : RepH E h H) {a k n : Nat} (ho : a < hN h) (ht : hT h a = (k, n)) (h0 : k ≠ 0) (h8 : k < 8) : H[eZ E + a]? = some (arrV (eK E k) n (fun j => .int (hA h a j))) := hH.2.1 a _ (hH.arr ho ht h0 h8)
theorem RepH.putA {H H1 : Heap} (hH : RepH E h H) {a k n j : Nat} {x : Int32} {v : Value} (ho : a < hN h) (ht : hT h a = (k, n)) (h0 : k ≠ 0) (h8 : k < 8) (hv : v = .int x) (e1 : H1[eZ E + a]? = some ((arrV (eK E k) n (fun j => .int (hA h a j))).setSlot j v)) (hz : H1.size = H.size) (hq : ∀ q, q ≠ eZ E + a → H1[q]? = H[q]?) : RepH E (stA h a j x) H1 := by
  refine hH.set (i := a) rfl stA_cel hH.2.2.stA hz hq (fun _ => ?_)
  have e : hT (stA h a j x) a = (k, n) := ht
  rw [cel_arr e h0 h8]
  show H1[eZ E + a]? = some (vp_cell _ _)
  rw [vp_cell_i, e1, arr_put hv]
  rfl
theorem z_iald {n a : Nat} {i : Int32} (hd : decode M.2.1 pc = .ok (.iaload, 1)) (hin : vp_in i n) (kk : Tot l E M d bc bs (pc + 1) ls (.inl (hA h a i.toNatClampNeg) :: st) h Q) : Tot l E M d bc bs pc ls (.inl i :: .inr (some (1, n, a)) :: st) h Q := by
  intro p e R s m args below meth co H locs cells slots G lc Cc hH hS hce hsl hl hL hSt hret
  obtain ⟨ho, ht⟩ := hSt.tl.obj (by decide)
  obtain ⟨hx, hb, hml, hown, hts, hnm, hV, hz, hfr, hlo⟩ := id Cc
  exact va_iald (D := eD E) hx hb hV.1 hH.2.1 a 0 (hH.arr ho ht (by decide) (by decide)) rfl hin hd (kk p e R s m args below meth co H locs cells slots G lc Cc hH hS hce hsl hl hL (okS.cn (okV.int _ _) hSt.tl.tl) hret)
theorem z_zald {n a : Nat} {i : Int32} (hd : decode M.2.1 pc = .ok (.baload, 1)) (hin : vp_in i n) (kk : Tot l E M d bc bs (pc + 1) ls (.inl (hA h a i.toNatClampNeg) :: st) h Q) : Tot l E M d bc bs pc ls (.inl i :: .inr (some (2, n, a)) :: st) h Q := by
  intro p e R s m args below meth co H locs cells slots G lc Cc hH hS hce hsl hl hL hSt hret
  obtain ⟨ho, ht⟩ := hSt.tl.obj (by decide)
  obtain ⟨hx, hb, hml, hown, hts, hnm, hV, hz, hfr, hlo⟩ := id Cc
  exact va_zald (D := eD E) hx hb hV.1 hH.2.1 a 1 (hH.arr ho ht (by decide) (by decide)) rfl hin hd (kk p e R s m args below meth co H locs cells slots G lc Cc hH hS hce hsl hl hL (okS.cn (okV.int _ _) hSt.tl.tl) hret)
theorem z_bald {n a : Nat} {i : Int32} (hd : decode M.2.1 pc = .ok (.baload, 1)) (hin : vp_in i n) (kk : Tot l E M d bc bs (pc + 1) ls (.inl (hA h a i.toNatClampNeg) :: st) h Q) : Tot l E M d bc bs pc ls (.inl i :: .inr (some (3, n, a)) :: st) h Q := by
  intro p e R s m args below meth co H locs cells slots G lc Cc hH hS hce hsl hl hL hSt hret
  obtain ⟨ho, ht⟩ := hSt.tl.obj (by decide)
  obtain ⟨hx, hb, hml, hown, hts, hnm, hV, hz, hfr, hlo⟩ := id Cc
  exact va_bald (D := eD E) hx hb hV.1 hH.2.1 a 2 (hH.arr ho ht (by decide) (by decide)) rfl hin hd (kk p e R s m args below meth co H locs cells slots G lc Cc hH hS hce hsl hl hL (okS.cn (okV.int _ _) hSt.tl.tl) hret)
theorem z_xald {w z : Nat} {i : Int32} (hd : decode M.2.1 pc = .ok (.iaload, 1)) (hw : Nat.blt w 3 = true) (hin : vp_in i (exL E w)) (kk : Tot l E M d bc bs (pc + 1) ls (.inl (exF E w i.toNatClampNeg) :: st) h Q) : Tot l E M d bc bs pc ls (.inl i :: .inr (some (5, w, z)) :: st) h Q := by
  intro p e R s m args below meth co H locs cells slots G lc Cc hH hS hce hsl hl hL hSt hret
  obtain ⟨hx, hb, hml, hown, hts, hnm, hV, hz, hfr, hlo⟩ := id Cc
  exact va_ti hx hb (hV.2.2.2.2.1 w (Nat.le_of_ble_eq_true hw)) hS hin rfl hd (kk p e R s m args below meth co H locs cells slots G lc Cc hH hS hce hsl hl hL (okS.cn (okV.int _ _) hSt.tl.tl) hret)
theorem z_xlen {w z : Nat} (hd : decode M.2.1 pc = .ok (.arraylength, 1)) (hw : Nat.blt w 3 = true) (kk : Tot l E M d bc bs (pc + 1) ls (.inl (nI (exL E w)) :: st) h Q) : Tot l E M d bc bs pc ls (.inr (some (5, w, z)) :: st) h Q := by
  intro p e R s m args below meth co H locs cells slots G lc Cc hH hS hce hsl hl hL hSt hret
  obtain ⟨hx, hb, hml, hown, hts, hnm, hV, hz, hfr, hlo⟩ := id Cc
  exact va_tlen hx hb (hV.2.2.2.2.1 w (Nat.le_of_ble_eq_true hw)) hS rfl hd (kk p e R s m args below meth co H locs cells slots G lc Cc hH hS hce hsl hl hL (okS.cn (okV.int _ _) hSt.tl) hret)
theorem z_alen {k n a : Nat} (hd : decode M.2.1 pc = .ok (.arraylength, 1)) (hk : kinds[kpos k]? = some k) (kk : Tot l E M d bc bs (pc + 1) ls (.inl (nI n) :: st) h Q) : Tot l E M d bc bs pc ls (.inr (some (k, n, a)) :: st) h Q := by
  intro p e R s m args below meth co H locs cells slots G lc Cc hH hS hce hsl hl hL hSt hret
  have hk5 : k ≠ 5 := by rintro rfl; revert hk; decide
  have hk0 : k ≠ 0 := by rintro rfl; revert hk; decide
  obtain ⟨ho, ht⟩ := hSt.obj hk5
  obtain ⟨hx, hb, hml, hown, hts, hnm, hV, hz, hfr, hlo⟩ := id Cc
  have ea : cv E (.inr (some (k, n, a))) = .ref (eZ E + a) := by simp [cv, cvA, adr, hk5, va_rf]
  rw [List.map_cons, ea]
  have w := kk p e R s m args below meth co H locs cells slots G lc Cc hH hS hce hsl hl hL (okS.cn (okV.int _ _) hSt.tl) hret
  rcases Nat.lt_or_ge k 8 with g | g
  · exact va_alen (D := eD E) hx hb hV.1 hH.2.1 a (kpos k) (hH.arr ho ht hk0 g) (tyE_at hk) rfl hd w
  · have he : (wl E h)[a]? = some (eZ E + a, .inl (eK E k, n, .inr (.inr (.inr (.inr (fun j => cvA E (hQ h a j))))))) := by rw [wl_at E h ho, cel_refs ht g]
    exact va_alen (D := eD E) hx hb hV.1 hH.2.1 a (kpos k) he (tyE_at hk) rfl hd w
theorem z_iast {n a : Nat} {i x : Int32} (hd : decode M.2.1 pc = .ok (.iastore, 1)) (hin : vp_in i n) (kk : Tot l E M d bc bs (pc + 1) ls st (stA h a i.toNatClampNeg x) Q) : Tot l E M d bc bs pc ls (.inl x :: .inl i :: .inr (some (1, n, a)) :: st) h Q := by
  intro p e R s m args below meth co H locs cells slots G lc Cc hH hS hce hsl hl hL hSt hret
  obtain ⟨ho, ht⟩ := hSt.tl.tl.obj (by decide)
  obtain ⟨hx, hb, hml, hown, hts, hnm, hV, hz, hfr, hlo⟩ := id Cc
  refine W.iast (a := eZ E + a) hx hb (hH.cellA ho ht (by decide) (by decide)) ((hV.1.2 0 _ rfl).1 n _) (fun q => by cases q) (by rw [arrV_size]; exact hin) rfl rfl hd fun H1 e1 z1 q1 => ?_
  exact kk p e R s m args below meth co H1 _ cells slots G lc Cc (hH.putA ho ht (by decide) (by decide) rfl e1 z1 q1) (hS.put z1 q1 (show eZ E ≤ eZ E + a by omega)) hce hsl hl hL hSt.tl.tl.tl hret
theorem z_zast {n a : Nat} {i x : Int32} (hd : decode M.2.1 pc = .ok (.bastore, 1)) (hin : vp_in i n) (kk : Tot l E M d bc bs (pc + 1) ls st (stA h a i.toNatClampNeg (vp_nar .boolean x)) Q) : Tot l E M d bc bs pc ls (.inl x :: .inl i :: .inr (some (2, n, a)) :: st) h Q := by
  intro p e R s m args below meth co H locs cells slots G lc Cc hH hS hce hsl hl hL hSt hret
  obtain ⟨ho, ht⟩ := hSt.tl.tl.obj (by decide)
  obtain ⟨hx, hb, hml, hown, hts, hnm, hV, hz, hfr, hlo⟩ := id Cc
  refine W.zast (a := eZ E + a) hx hb (hH.cellA ho ht (by decide) (by decide)) ((hV.1.2 1 _ rfl).1 n _) (fun q => by cases q) (by rw [arrV_size]; exact hin) rfl rfl hd fun H1 e1 z1 q1 => ?_
  exact kk p e R s m args below meth co H1 _ cells slots G lc Cc (hH.putA ho ht (by decide) (by decide) rfl e1 z1 q1) (hS.put z1 q1 (show eZ E ≤ eZ E + a by omega)) hce hsl hl hL hSt.tl.tl.tl hret
theorem z_bast {n a : Nat} {i x : Int32} (hd : decode M.2.1 pc = .ok (.bastore, 1)) (hin : vp_in i n) (kk : Tot l E M d bc bs (pc + 1) ls st (stA h a i.toNatClampNeg (vp_nar .byte x)) Q) : Tot l E M d bc bs pc ls (.inl x :: .inl i :: .inr (some (3, n, a)) :: st) h Q := by
  intro p e R s m args below meth co H locs cells slots G lc Cc hH hS hce hsl hl hL hSt hret
  obtain ⟨ho, ht⟩ := hSt.tl.tl.obj (by decide)
  obtain ⟨hx, hb, hml, hown, hts, hnm, hV, hz, hfr, hlo⟩ := id Cc
  refine W.bast (a := eZ E + a) hx hb (hH.cellA ho ht (by decide) (by decide)) ((hV.1.2 2 _ rfl).1 n _) (fun q => by cases q) (by rw [arrV_size]; exact hin) rfl rfl hd fun H1 e1 z1 q1 => ?_
  exact kk p e R s m args below meth co H1 _ cells slots G lc Cc (hH.putA ho ht (by decide) (by decide) rfl e1 z1 q1) (hS.put z1 q1 (show eZ E ≤ eZ E + a by omega)) hce hsl hl hL hSt.tl.tl.tl hret
theorem z_aald {k n a : Nat} {i : Int32} {C : String} (hd : decode M.2.1 pc = .ok (.aaload, 1)) (hk : kinds[kpos k]? = some k) (h8 : Nat.ble 8 k = true) (hC : kty k = .object C) (hin : vp_in i n) (kk : Tot l E M d bc bs (pc + 1) ls (.inr (hQ h a i.toNatClampNeg) :: st) h Q) : Tot l E M d bc bs pc ls (.inl i :: .inr (some (k, n, a)) :: st) h Q := by
  intro p e R s m args below meth co H locs cells slots G lc Cc hH hS hce hsl hl hL hSt hret
  have h8 := Nat.le_of_ble_eq_true h8
  have hk5 : k ≠ 5 := by omega
  obtain ⟨ho, ht⟩ := hSt.tl.obj hk5
  obtain ⟨hx, hb, hml, hown, hts, hnm, hV, hz, hfr, hlo⟩ := id Cc
  have ea : cv E (.inr (some (k, n, a))) = .ref (eZ E + a) := by simp [cv, cvA, adr, hk5, va_rf]
  rw [List.map_cons, List.map_cons, ea]
  exact va_aldq (D := eD E) (C := C) (f := fun j => cvA E (hQ h a j)) hx hb hV.1 hH.2.1 a (kpos k) (by rw [wl_at E h ho, cel_refs ht h8]) (by rw [tyE_at hk, hC]) hin hd (kk p e R s m args below meth co H locs cells slots G lc Cc hH hS hce hsl hl hL (okS.cn (fun r hr => by cases hr; exact hH.2.2.2 a _) hSt.tl.tl) hret)
theorem z_aast {k n a c o : Nat} {i : Int32} {r : vw_C} (hd : decode M.2.1 pc = .ok (.aastore, 1)) (hk : kinds[kpos k]? = some k) (h8 : Nat.ble 8 k = true) (hc : vwCl[c]? = some r) (hC : kty k = .object r.1) (hin : vp_in i n) (kk : Tot l E M d bc bs (pc + 1) ls st (stQ h a i.toNatClampNeg (some (0, c, o))) Q) : Tot l E M d bc bs pc ls (.inr (some (0, c, o)) :: .inl i :: .inr (some (k, n, a)) :: st) h Q := by
  intro p e R s m args below meth co H locs cells slots G lc Cc hH hS hce hsl hl hL hSt hret
  have h8 := Nat.le_of_ble_eq_true h8
  have hk5 : k ≠ 5 := by omega
  obtain ⟨ho, ht⟩ := hSt.tl.tl.obj hk5
  obtain ⟨ho', ht'⟩ := hSt.obj (by decide)
  obtain ⟨hx, hb, hml, hown, hts, hnm, hV, hz, hfr, hlo⟩ := id Cc
  have ea : cv E (.inr (some (k, n, a))) = .ref (eZ E + a) := by simp [cv, cvA, adr, hk5, va_rf]
  rw [List.map_cons, List.map_cons, List.map_cons, ea]
  have hcl := hH.2.1 a _ (wl_at E h ho)
  rw [cel_refs ht h8] at hcl
  have hcv := hH.2.1 o _ (wl_at E h ho')
  rw [cel_obj ht'] at hcv
  obtain ⟨r', hr', cellV, g1, g2, g3, -⟩ := hcv
  have hcls := (hV.1.1 c r hc).2
  have hRA := (hV.1.2 (kpos k) _ (tyE_at hk)).2
  rw [hC] at hRA
  obtain ⟨kA, comp, k1, k2, k3, -⟩ := hRA
  have hcomp : comp = (eD E).1 c := Option.some.inj (k3.symm.trans hcls.1)
  subst hcomp
  obtain ⟨kC, hkC, -⟩ := hcls.2
  have hlt : i.toNatClampNeg < n := Nat.not_le.mp fun q => hin (Or.inr q)
  refine W.aast (a := eZ E + a) hx hb hcl (fun q h => by cases h) (fun h => by cases h) k1 k2 rfl hkC ⟨fun q => hin (Or.inl q), by show _ < (arrV _ _ _).slots.size; rw [arrV_size]; exact hlt⟩ g1 (fun q h => by rw [g3] at h; cases h) (by rw [g2]; exact hkC) (by rw [g2]; exact va_assign hcls) rfl rfl hd fun H1 e1 z1 q1 => ?_
  have hR1 : RepH E (stQ h a i.toNatClampNeg (some (0, c, o))) H1 := by
    refine hH.set (i := a) rfl stQ_cel (hH.2.2.stQ (hSt.hd _ rfl)) z1 q1 (fun _ => ?_)
    have e : hT (stQ h a i.toNatClampNeg (some (0, c, o))) a = (k, n) := ht
    rw [cel_refs e h8]
    show H1[eZ E + a]? = some (vp_cell _ _)
    rw [e1, vp_cell_q, vp_cell_q, arrV_store]
    congr 2
    funext q
    by_cases hq : q = i.toNatClampNeg
    · subst hq
      simp [updV, stQ, up2, hQ, va_rf, cvA, adr]
    · simp [updV, stQ, up2, hQ, hq]
  exact kk p e R s m args below meth co H1 _ cells slots G lc Cc hR1 (hS.put z1 q1 (show eZ E ≤ eZ E + a by omega)) hce hsl hl hL hSt.tl.tl.tl hret
/-! making -/
theorem exH.new (h : aH) (t : Nat × Nat) : exH h (stN h t) := ⟨Nat.le_succ _, fun i hi => up1_ne (by omega)⟩
theorem okV.new (h : aH) (k n : Nat) : okV (stN h (k, n)) (.inr (some (k, n, hN h))) := fun r hr q hq => by
  cases hr
  cases hq
  exact Or.inr ⟨Nat.lt_succ_self _, by simp [stN, up1, hT, hN]⟩
theorem z_new {idx c N : Nat} {C : String} {T : u_T} (hd : decode M.2.1 pc = .ok (.new idx, 3)) (hc : vwCl[c]? = some (C, T, N)) (h1 : Cond.classLink M.1.cls idx C ∈ tsG) (h2 : Cond.instantiable C N ∈ tsG) (h3 : Cond.initialized C ∈ tsG) (kk : Tot l E M d bc bs (pc + 3) ls (.inr (some (0, c, hN h)) :: st) (stN h (0, c)) Q) : Tot l E M d (bc + 1) (bs + N) pc ls st h Q := by
  intro p e R s m args below meth co H locs cells slots G lc Cc hH hS hce hsl hl hL hSt hret
  obtain ⟨hx, hb, hml, hown, hts, hnm, hV, hz, hfr, hlo⟩ := id Cc
  have hKn := hV.1.1 c _ hc
  have hnf : nfC c = N := by simp [nfC, hc]
  refine W.newcK hx hb hown (hts _ h1) (hts _ h2) (hts _ h3) rfl hd (by omega) (by omega) hKn.2.1 hH.1 fun H1 kC hkC e1 z1 o1 => ?_
  have hR1 : RepH E (stN h (0, c)) H1 := by
    refine hH.new (by rw [z1, hH.1]) (fun q hq => o1 q (by rw [← hH.1]; exact hq)) ?_
    have e : hT (stN h (0, c)) (hN h) = (0, c) := by simp [stN, up1, hT, hN]
    rw [cel_obj e]
    refine ⟨_, hc, (u_born (tyC c) hts (cl_in hc) hKn hkC e1 (cl_ty hc)).to ?_⟩
    intro k hk
    have hc13 : c < 13 := by
      have := (List.getElem?_eq_some_iff.mp hc).1
      simpa [vwCl] using this
    rw [cl_df hc13 k (by rw [hnf]; exact hk)]
    show _ = (fls E (stN h (0, c)) (hN h) c).getD k .null
    rw [List.getD_eq_getElem?_getD, fls_at (by rw [hnf]; exact hk)]
    cases fkR c k <;> simp [stN, up1, hI, hR, hN, cvA, va_rf]
  have hS1 : va_S (eA E) s.heap H1 locs := ⟨Nat.le_trans hS.1 (by rw [z1, hH.1]; omega), fun q g1 g2 => (o1 q (by rw [← hH.1]; exact Nat.lt_of_lt_of_le g1 hS.1)).trans (hS.2.1 q g1 g2), hS.2.2⟩
  refine W.eq (g2 := F0 m (pc + 3) lc ((.inr (some (0, c, hN h)) :: st : List aV).map (cv E))) rfl ?_
  exact kk p e R s m args below meth co H1 locs (cells + 1) (slots + N) G lc Cc hR1 hS1 (by omega) (by omega) hl (hL.ex (exH.new h _)) (okS.cn (okV.new h _ _) (hSt.ex (exH.new h _))) (fun r h' H' locs' cells' slots' pc' lc' q1 q2 q3 q4 q5 q6 q7 q8 => hret r h' H' locs' cells' slots' pc' lc' q1 q2 q3 q4 q5 ((exH.new h _).tr q6) q7 q8)
theorem z_newa {k n : Nat} {x : Int32} {aty : ArrayType} (hd : decode M.2.1 pc = .ok (.newarray aty, 2)) (hty : newarray.typeOf aty = kty k) (hk : kinds[kpos k]? = some k) (h8 : Nat.blt k 8 = true) (hw : Cond.arrayClass (kty k) ∈ tsG) (hx0 : ¬ x < 0) (hxn : x.toNatClampNeg = n) (hby : n * componentBytes (kty k) ≤ 536870912) (hdf : defaultValue (kty k) = .int 0) (kk : Tot l E M d bc bs (pc + 2) ls (.inr (some (k, n, hN h)) :: st) (stN h (k, n)) Q) : Tot l E M d (bc + 1) (bs + n) pc ls (.inl x :: st) h Q := by
  intro p e R s m args below meth co H locs cells slots G lc Cc hH hS hce hsl hl hL hSt hret
  have h8 : k < 8 := Nat.le_of_ble_eq_true h8
  have hk5 : k ≠ 5 := by rintro rfl; revert hk; decide
  have hk0 : k ≠ 0 := by rintro rfl; revert hk; decide
  obtain ⟨hx, hb, hml, hown, hts, hnm, hV, hz, hfr, hlo⟩ := id Cc
  refine va_newaK hx hb (atype := aty) (by rw [hty]; exact hts _ hw) rfl hd rfl hx0 hxn (by rw [hty]; exact hby) (by omega) (by omega) hH.1 fun H1 cA e1 z1 o1 hAr hNm => ?_
  rw [hty] at e1 hNm
  have hcA : cA = eK E k := by
    have hRA := (hV.1.2 (kpos k) _ (tyE_at hk)).2
    have h123 : k = 1 ∨ k = 2 ∨ k = 3 := by
      have : k ∈ kinds := List.mem_of_getElem? hk
      simp [kinds] at this
      omega
    rcases h123 with rfl | rfl | rfl <;> exact Option.some.inj (hNm.symm.trans hRA)
  subst hcA
  have hR1 : RepH E (stN h (k, n)) H1 := by
    refine hH.new (by rw [z1, hH.1]) (fun q hq => o1 q (by rw [← hH.1]; exact hq)) ?_
    have e : hT (stN h (k, n)) (hN h) = (k, n) := by simp [stN, up1, hT, hN]
    rw [cel_arr e hk0 h8]
    show H1[eZ E + hN h]? = some (vp_cell _ _)
    rw [vp_cell_i, e1, hdf]
    congr 2
    funext j
    simp [stN, up1, hA, hN]
  have hS1 : va_S (eA E) s.heap H1 locs := ⟨Nat.le_trans hS.1 (by rw [z1, hH.1]; omega), fun q g1 g2 => (o1 q (by rw [← hH.1]; exact Nat.lt_of_lt_of_le g1 hS.1)).trans (hS.2.1 q g1 g2), hS.2.2⟩
  have ea : cv E (.inr (some (k, n, hN h))) = .ref (eZ E + hN h) := by simp [cv, cvA, adr, hk5, va_rf]
  have w := kk p e R s m args below meth co H1 locs (cells + 1) (slots + n) G lc Cc hR1 hS1 (by omega) (by omega) hl (hL.ex (exH.new h _)) (okS.cn (okV.new h _ _) (hSt.tl.ex (exH.new h _))) (fun r h' H' locs' cells' slots' pc' lc' q1 q2 q3 q4 q5 q6 q7 q8 => hret r h' H' locs' cells' slots' pc' lc' q1 q2 q3 q4 q5 ((exH.new h _).tr q6) q7 q8)
  rw [List.map_cons, ea] at w
  exact w
theorem z_anew {k n idx : Nat} {x : Int32} {C : String} (hd : decode M.2.1 pc = .ok (.anewarray idx, 3)) (hk : kinds[kpos k]? = some k) (h8 : Nat.ble 8 k = true) (hC : kty k = .object C) (h1 : Cond.classLink M.1.cls idx C ∈ tsG) (h2 : Cond.arrayOver (.object C) ∈ lw_tbl) (hx0 : ¬ x < 0) (hxn : x.toNatClampNeg = n) (hby : n * 4 ≤ 536870912) (kk : Tot l E M d bc bs (pc + 3) ls (.inr (some (k, n, hN h)) :: st) (stN h (k, n)) Q) : Tot l E M d (bc + 1) (bs + n) pc ls (.inl x :: st) h Q := by
  intro p e R s m args below meth co H locs cells slots G lc Cc hH hS hce hsl hl hL hSt hret
  have h8 := Nat.le_of_ble_eq_true h8
  have hk5 : k ≠ 5 := by omega
  obtain ⟨hx, hb, hml, hown, hts, hnm, hV, hz, hfr, hlo⟩ := id Cc
  subst hxn
  refine W.anew hx hb hown (hts _ h1) (va_AO.use (hV.2.2.2.1 C h2)) rfl hd rfl hx0 hby (by omega) (by omega) fun cA kA comp f1 f2 f3 f4 => ?_
  generalize hH1 : H.push ({ cls := cA, slots := Array.replicate x.toNatClampNeg .null, vm := .none } : Cell) = H1
  have z1 : H1.size = H.size + 1 := by rw [← hH1, Array.size_push]
  have e1 : H1[H.size]? = some (arrV cA x.toNatClampNeg (fun _ => .null)) := by rw [← hH1, Array.getElem?_push_size, ← arrV_new]
  have o1 : ∀ q : Nat, q < H.size → H1[q]? = H[q]? := fun q hq => by rw [← hH1, Array.getElem?_push, if_neg (Nat.ne_of_lt hq)]
  have hcA : cA = eK E k := by
    have hRA := (hV.1.2 (kpos k) _ (tyE_at hk)).2
    rw [hC] at hRA
    obtain ⟨_, _, -, -, -, k4⟩ := hRA
    exact Option.some.inj (f1.symm.trans k4)
  subst hcA
  have hR1 : RepH E (stN h (k, x.toNatClampNeg)) H1 := by
    refine hH.new z1 o1 ?_
    have e : hT (stN h (k, x.toNatClampNeg)) (hN h) = (k, x.toNatClampNeg) := by simp [stN, up1, hT, hN]
    rw [cel_refs e h8]
    show H1[eZ E + hN h]? = some (vp_cell _ _)
    rw [vp_cell_q, ← hH.1, e1]
    congr 2
    funext j
    simp [stN, up1, hQ, hN, cvA, va_rf]
  have hS1 : va_S (eA E) s.heap H1 locs := ⟨Nat.le_trans hS.1 (by omega), fun q g1 g2 => (o1 q (Nat.lt_of_lt_of_le g1 hS.1)).trans (hS.2.1 q g1 g2), hS.2.2⟩
  have ea : cv E (.inr (some (k, x.toNatClampNeg, hN h))) = .ref H.size := by simp [cv, cvA, adr, hk5, va_rf, hH.1]
  have w := kk p e R s m args below meth co H1 locs (cells + 1) (slots + x.toNatClampNeg) G lc Cc hR1 hS1 (by omega) (by omega) hl (hL.ex (exH.new h _)) (okS.cn (okV.new h _ _) (hSt.tl.ex (exH.new h _))) (fun r h' H' locs' cells' slots' pc' lc' q1 q2 q3 q4 q5 q6 q7 q8 => hret r h' H' locs' cells' slots' pc' lc' q1 q2 q3 q4 q5 ((exH.new h _).tr q6) q7 q8)
  rw [List.map_cons, ea] at w
  exact w
end RULES3
