/-! ===== the constructors, with known numbers ===== -/
section CTOR
variable {l : Launch} {E : eE} {M : aM} {d bc bs pc : Nat} {ls : List (Option aV)} {st : List aV} {h : aH} {Q : Option aV → aH → Prop}
theorem zz_new {idx c N n : Nat} {g : aH} {C : String} {T : u_T} (hd : decode M.2.1 pc = .ok (.new idx, 3)) (hc : vwCl[c]? = some (C, T, N)) (h1 : Cond.classLink M.1.cls idx C ∈ tsG) (h2 : Cond.instantiable C N ∈ tsG) (h3 : Cond.initialized C ∈ tsG) (hn : hN h = n) (hg : g = stN h (0, c)) (kk : Tot l E M d bc bs (pc + 3) ls (.inr (some (0, c, n)) :: st) g Q) : Tot l E M d (bc + 1) (bs + N) pc ls st h Q :=
  z_new hd hc h1 h2 h3 (by rw [hn, ← hg]; exact kk)
theorem zz_newa {k n m : Nat} {g : aH} {x : Int32} {aty : ArrayType} (hd : decode M.2.1 pc = .ok (.newarray aty, 2)) (hty : newarray.typeOf aty = kty k) (hk : kinds[kpos k]? = some k) (h8 : Nat.blt k 8 = true) (hw : Cond.arrayClass (kty k) ∈ tsG) (hx0 : ¬ x < 0) (hxn : x.toNatClampNeg = n) (hby : n * componentBytes (kty k) ≤ 536870912) (hdf : defaultValue (kty k) = .int 0) (hn : hN h = m) (hg : g = stN h (k, n)) (kk : Tot l E M d bc bs (pc + 2) ls (.inr (some (k, n, m)) :: st) g Q) : Tot l E M d (bc + 1) (bs + n) pc ls (.inl x :: st) h Q :=
  z_newa hd hty hk h8 hw hx0 hxn hby hdf (by rw [hn, ← hg]; exact kk)
theorem zz_anew {k n m idx : Nat} {g : aH} {x : Int32} {C : String} (hd : decode M.2.1 pc = .ok (.anewarray idx, 3)) (hk : kinds[kpos k]? = some k) (h8 : Nat.ble 8 k = true) (hC : kty k = .object C) (h1 : Cond.classLink M.1.cls idx C ∈ tsG) (h2 : Cond.arrayOver (.object C) ∈ lw_tbl) (hx0 : ¬ x < 0) (hxn : x.toNatClampNeg = n) (hby : n * 4 ≤ 536870912) (hn : hN h = m) (hg : g = stN h (k, n)) (kk : Tot l E M d bc bs (pc + 3) ls (.inr (some (k, n, m)) :: st) g Q) : Tot l E M d (bc + 1) (bs + n) pc ls (.inl x :: st) h Q :=
  z_anew hd hk h8 hC h1 h2 hx0 hxn hby (by rw [hn, ← hg]; exact kk)
theorem zz_putr {idx c k o : Nat} {r : aR} {g : aH} (hd : decode M.2.1 pc = .ok (.putfield idx, 3)) (hf : fOK M.1.cls idx c k) (hwr : fWr M c k) (hk : fkR c k = true) (hn : ∀ v : Option Nat, narrow (tyC c k) (va_rf v) = va_rf v ∧ fits (tyC c k) (va_rf v) = true) (hg : g = stR h o k r) (kk : Tot l E M d bc bs (pc + 3) ls st g Q) : Tot l E M d bc bs pc ls (.inr r :: .inr (some (0, c, o)) :: st) h Q :=
  z_putr hd hf hwr hk hn (by rw [← hg]; exact kk)
theorem zz_aast {k n a c o j : Nat} {i : Int32} {r : vw_C} {g : aH} (hd : decode M.2.1 pc = .ok (.aastore, 1)) (hk : kinds[kpos k]? = some k) (h8 : Nat.ble 8 k = true) (hc : vwCl[c]? = some r) (hC : kty k = .object r.1) (hin : vp_in i n) (hj : i.toNatClampNeg = j) (hg : g = stQ h a j (some (0, c, o))) (kk : Tot l E M d bc bs (pc + 1) ls st g Q) : Tot l E M d bc bs pc ls (.inr (some (0, c, o)) :: .inl i :: .inr (some (k, n, a)) :: st) h Q :=
  z_aast hd hk h8 hc hC hin (by rw [hj, ← hg]; exact kk)
end CTOR
theorem nh_R (h : aH) (o k : Nat) (v : aR) : hN (stR h o k v) = hN h := rfl
theorem nh_Q (h : aH) (o k : Nat) (v : aR) : hN (stQ h o k v) = hN h := rfl
theorem nh_N (h : aH) (t : Nat × Nat) : hN (stN h t) = hN h + 1 := rfl
/-- all numbers are 0 -/
def az (h : aH) : Prop := hA h = (fun _ _ => 0) ∧ hI h = (fun _ _ => 0)
theorem az_R {h : aH} {o k : Nat} {v : aR} (e : az h) : az (stR h o k v) := e
theorem az_Q {h : aH} {o k : Nat} {v : aR} (e : az h) : az (stQ h o k v) := e
theorem az_N {h : aH} {t : Nat × Nat} (e : az h) : az (stN h t) := by
  obtain ⟨e1, e2⟩ := e
  refine ⟨?_, ?_⟩
  · show up1 (hA h) (hN h) (fun _ => 0) = _
    rw [e1]
    funext a b
    unfold up1
    split <;> rfl
  · show up1 (hI h) (hN h) (fun _ => 0) = _
    rw [e2]
    funext a b
    unfold up1
    split <;> rfl
def gh_0 : aH := h00
theorem nh_0 : hN gh_0 = 0 := rfl
theorem az_0 : az gh_0 := ⟨rfl, rfl⟩

def gh_1 : aH := stN gh_0 (0, 11)
theorem nh_1 : hN gh_1 = 1 := by rw [gh_1, nh_N, nh_0]
theorem az_1 : az gh_1 := by rw [gh_1]; exact az_N az_0
def gh_2 : aH := stN gh_1 (12, 8)
theorem nh_2 : hN gh_2 = 2 := by rw [gh_2, nh_N, nh_1]
theorem az_2 : az gh_2 := by rw [gh_2]; exact az_N az_1
def gh_3 : aH := stR gh_2 0 0 (some (12, 8, 1))
theorem nh_3 : hN gh_3 = 2 := by rw [gh_3, nh_R, nh_2]
theorem az_3 : az gh_3 := by rw [gh_3]; exact az_R az_2
def gh_4 : aH := stN gh_3 (14, 12)
theorem nh_4 : hN gh_4 = 3 := by rw [gh_4, nh_N, nh_3]
theorem az_4 : az gh_4 := by rw [gh_4]; exact az_N az_3
def gh_5 : aH := stR gh_4 0 1 (some (14, 12, 2))
theorem nh_5 : hN gh_5 = 3 := by rw [gh_5, nh_R, nh_4]
theorem az_5 : az gh_5 := by rw [gh_5]; exact az_R az_4
def gh_6 : aH := stN gh_5 (17, 4)
theorem nh_6 : hN gh_6 = 4 := by rw [gh_6, nh_N, nh_5]
theorem az_6 : az gh_6 := by rw [gh_6]; exact az_N az_5
def gh_7 : aH := stR gh_6 0 2 (some (17, 4, 3))
theorem nh_7 : hN gh_7 = 4 := by rw [gh_7, nh_R, nh_6]
theorem az_7 : az gh_7 := by rw [gh_7]; exact az_R az_6
def gh_8 : aH := stN gh_7 (18, 4)
theorem nh_8 : hN gh_8 = 5 := by rw [gh_8, nh_N, nh_7]
theorem az_8 : az gh_8 := by rw [gh_8]; exact az_N az_7
def gh_9 : aH := stR gh_8 0 3 (some (18, 4, 4))
theorem nh_9 : hN gh_9 = 5 := by rw [gh_9, nh_R, nh_8]
theorem az_9 : az gh_9 := by rw [gh_9]; exact az_R az_8
def gh_10 : aH := stN gh_9 (0, 10)
theorem nh_10 : hN gh_10 = 6 := by rw [gh_10, nh_N, nh_9]
theorem az_10 : az gh_10 := by rw [gh_10]; exact az_N az_9
def gh_11 : aH := stN gh_10 (1, 6)
theorem nh_11 : hN gh_11 = 7 := by rw [gh_11, nh_N, nh_10]
theorem az_11 : az gh_11 := by rw [gh_11]; exact az_N az_10
def gh_12 : aH := stR gh_11 5 0 (some (1, 6, 6))
theorem nh_12 : hN gh_12 = 7 := by rw [gh_12, nh_R, nh_11]
theorem az_12 : az gh_12 := by rw [gh_12]; exact az_R az_11
def gh_13 : aH := stN gh_12 (1, 6)
theorem nh_13 : hN gh_13 = 8 := by rw [gh_13, nh_N, nh_12]
theorem az_13 : az gh_13 := by rw [gh_13]; exact az_N az_12
def gh_14 : aH := stR gh_13 5 1 (some (1, 6, 7))
theorem nh_14 : hN gh_14 = 8 := by rw [gh_14, nh_R, nh_13]
theorem az_14 : az gh_14 := by rw [gh_14]; exact az_R az_13
def gh_15 : aH := stN gh_14 (1, 72)
theorem nh_15 : hN gh_15 = 9 := by rw [gh_15, nh_N, nh_14]
theorem az_15 : az gh_15 := by rw [gh_15]; exact az_N az_14
def gh_16 : aH := stR gh_15 5 2 (some (1, 72, 8))
theorem nh_16 : hN gh_16 = 9 := by rw [gh_16, nh_R, nh_15]
theorem az_16 : az gh_16 := by rw [gh_16]; exact az_R az_15
set_option maxRecDepth 20000 in
theorem i_1_X10_init {l : Launch} {E : eE} {d : Nat} {K : aH → Prop} (k : K gh_16) : CV l E (d + 1) 3 84 mX10_init [.inr (some (0, 10, 5))] gh_10 K := by
  refine CV.of (by decide) rfl ?_
  show TV l E mX10_init (d + 1) 3 84 0 [some (.inr (some (0, 10, 5)))] [] gh_10 K
  refine z_aload_n (pc := 0) dX10_init_0 rfl rfl ?_
  refine z_obj (pc := 1) dX10_init_1 lX10_3 l_obj2 l_obj3 rfl ?_
  refine z_aload_n (pc := 4) dX10_init_4 rfl rfl ?_
  refine z_bipush (pc := 5) (v := (nI 6)) dX10_init_5 (by decide) ?_
  refine zz_newa (pc := 7) (bc := 2) (bs := 78) (k := 1) (n := 6) (m := 6) (g := gh_11) dX10_init_7 rfl rfl rfl w_arr1 (by decide) (by decide) (by decide) rfl nh_10 rfl ?_
  refine zz_putr (pc := 9) (g := gh_12) dX10_init_9 fX10_9 uX10_0 rfl (fun v => by cases v <;> exact ⟨rfl, rfl⟩) rfl ?_
  refine z_aload_n (pc := 12) dX10_init_12 rfl rfl ?_
  refine z_bipush (pc := 13) (v := (nI 6)) dX10_init_13 (by decide) ?_
  refine zz_newa (pc := 15) (bc := 1) (bs := 72) (k := 1) (n := 6) (m := 7) (g := gh_13) dX10_init_15 rfl rfl rfl w_arr1 (by decide) (by decide) (by decide) rfl nh_12 rfl ?_
  refine zz_putr (pc := 17) (g := gh_14) dX10_init_17 fX10_15 uX10_1 rfl (fun v => by cases v <;> exact ⟨rfl, rfl⟩) rfl ?_
  refine z_aload_n (pc := 20) dX10_init_20 rfl rfl ?_
  refine z_bipush (pc := 21) (v := (nI 72)) dX10_init_21 (by decide) ?_
  refine zz_newa (pc := 23) (bc := 0) (bs := 0) (k := 1) (n := 72) (m := 8) (g := gh_15) dX10_init_23 rfl rfl rfl w_arr1 (by decide) (by decide) (by decide) rfl nh_14 rfl ?_
  refine zz_putr (pc := 25) (g := gh_16) dX10_init_25 fX10_18 uX10_2 rfl (fun v => by cases v <;> exact ⟨rfl, rfl⟩) rfl ?_
  exact z_ret (pc := 28) dX10_init_28 rfl ⟨rfl, k⟩

def gh_17 : aH := stQ gh_16 4 0 (some (0, 10, 5))
theorem nh_17 : hN gh_17 = 9 := by rw [gh_17, nh_Q, nh_16]
theorem az_17 : az gh_17 := by rw [gh_17]; exact az_Q az_16
def gh_18 : aH := stN gh_17 (0, 10)
theorem nh_18 : hN gh_18 = 10 := by rw [gh_18, nh_N, nh_17]
theorem az_18 : az gh_18 := by rw [gh_18]; exact az_N az_17
def gh_19 : aH := stN gh_18 (1, 6)
theorem nh_19 : hN gh_19 = 11 := by rw [gh_19, nh_N, nh_18]
theorem az_19 : az gh_19 := by rw [gh_19]; exact az_N az_18
def gh_20 : aH := stR gh_19 9 0 (some (1, 6, 10))
theorem nh_20 : hN gh_20 = 11 := by rw [gh_20, nh_R, nh_19]
theorem az_20 : az gh_20 := by rw [gh_20]; exact az_R az_19
def gh_21 : aH := stN gh_20 (1, 6)
theorem nh_21 : hN gh_21 = 12 := by rw [gh_21, nh_N, nh_20]
theorem az_21 : az gh_21 := by rw [gh_21]; exact az_N az_20
def gh_22 : aH := stR gh_21 9 1 (some (1, 6, 11))
theorem nh_22 : hN gh_22 = 12 := by rw [gh_22, nh_R, nh_21]
theorem az_22 : az gh_22 := by rw [gh_22]; exact az_R az_21
def gh_23 : aH := stN gh_22 (1, 72)
theorem nh_23 : hN gh_23 = 13 := by rw [gh_23, nh_N, nh_22]
theorem az_23 : az gh_23 := by rw [gh_23]; exact az_N az_22
def gh_24 : aH := stR gh_23 9 2 (some (1, 72, 12))
theorem nh_24 : hN gh_24 = 13 := by rw [gh_24, nh_R, nh_23]
theorem az_24 : az gh_24 := by rw [gh_24]; exact az_R az_23
set_option maxRecDepth 20000 in
theorem i_2_X10_init {l : Launch} {E : eE} {d : Nat} {K : aH → Prop} (k : K gh_24) : CV l E (d + 1) 3 84 mX10_init [.inr (some (0, 10, 9))] gh_18 K := by
  refine CV.of (by decide) rfl ?_
  show TV l E mX10_init (d + 1) 3 84 0 [some (.inr (some (0, 10, 9)))] [] gh_18 K
  refine z_aload_n (pc := 0) dX10_init_0 rfl rfl ?_
  refine z_obj (pc := 1) dX10_init_1 lX10_3 l_obj2 l_obj3 rfl ?_
  refine z_aload_n (pc := 4) dX10_init_4 rfl rfl ?_
  refine z_bipush (pc := 5) (v := (nI 6)) dX10_init_5 (by decide) ?_
  refine zz_newa (pc := 7) (bc := 2) (bs := 78) (k := 1) (n := 6) (m := 10) (g := gh_19) dX10_init_7 rfl rfl rfl w_arr1 (by decide) (by decide) (by decide) rfl nh_18 rfl ?_
  refine zz_putr (pc := 9) (g := gh_20) dX10_init_9 fX10_9 uX10_0 rfl (fun v => by cases v <;> exact ⟨rfl, rfl⟩) rfl ?_
  refine z_aload_n (pc := 12) dX10_init_12 rfl rfl ?_
  refine z_bipush (pc := 13) (v := (nI 6)) dX10_init_13 (by decide) ?_
  refine zz_newa (pc := 15) (bc := 1) (bs := 72) (k := 1) (n := 6) (m := 11) (g := gh_21) dX10_init_15 rfl rfl rfl w_arr1 (by decide) (by decide) (by decide) rfl nh_20 rfl ?_
  refine zz_putr (pc := 17) (g := gh_22) dX10_init_17 fX10_15 uX10_1 rfl (fun v => by cases v <;> exact ⟨rfl, rfl⟩) rfl ?_
  refine z_aload_n (pc := 20) dX10_init_20 rfl rfl ?_
  refine z_bipush (pc := 21) (v := (nI 72)) dX10_init_21 (by decide) ?_
  refine zz_newa (pc := 23) (bc := 0) (bs := 0) (k := 1) (n := 72) (m := 12) (g := gh_23) dX10_init_23 rfl rfl rfl w_arr1 (by decide) (by decide) (by decide) rfl nh_22 rfl ?_
  refine zz_putr (pc := 25) (g := gh_24) dX10_init_25 fX10_18 uX10_2 rfl (fun v => by cases v <;> exact ⟨rfl, rfl⟩) rfl ?_
  exact z_ret (pc := 28) dX10_init_28 rfl ⟨rfl, k⟩

def gh_25 : aH := stQ gh_24 4 1 (some (0, 10, 9))
theorem nh_25 : hN gh_25 = 13 := by rw [gh_25, nh_Q, nh_24]
theorem az_25 : az gh_25 := by rw [gh_25]; exact az_Q az_24
def gh_26 : aH := stN gh_25 (0, 10)
theorem nh_26 : hN gh_26 = 14 := by rw [gh_26, nh_N, nh_25]
theorem az_26 : az gh_26 := by rw [gh_26]; exact az_N az_25
def gh_27 : aH := stN gh_26 (1, 6)
theorem nh_27 : hN gh_27 = 15 := by rw [gh_27, nh_N, nh_26]
theorem az_27 : az gh_27 := by rw [gh_27]; exact az_N az_26
def gh_28 : aH := stR gh_27 13 0 (some (1, 6, 14))
theorem nh_28 : hN gh_28 = 15 := by rw [gh_28, nh_R, nh_27]
theorem az_28 : az gh_28 := by rw [gh_28]; exact az_R az_27
def gh_29 : aH := stN gh_28 (1, 6)
theorem nh_29 : hN gh_29 = 16 := by rw [gh_29, nh_N, nh_28]
theorem az_29 : az gh_29 := by rw [gh_29]; exact az_N az_28
def gh_30 : aH := stR gh_29 13 1 (some (1, 6, 15))
theorem nh_30 : hN gh_30 = 16 := by rw [gh_30, nh_R, nh_29]
theorem az_30 : az gh_30 := by rw [gh_30]; exact az_R az_29
def gh_31 : aH := stN gh_30 (1, 72)
theorem nh_31 : hN gh_31 = 17 := by rw [gh_31, nh_N, nh_30]
theorem az_31 : az gh_31 := by rw [gh_31]; exact az_N az_30
def gh_32 : aH := stR gh_31 13 2 (some (1, 72, 16))
theorem nh_32 : hN gh_32 = 17 := by rw [gh_32, nh_R, nh_31]
theorem az_32 : az gh_32 := by rw [gh_32]; exact az_R az_31
set_option maxRecDepth 20000 in
theorem i_3_X10_init {l : Launch} {E : eE} {d : Nat} {K : aH → Prop} (k : K gh_32) : CV l E (d + 1) 3 84 mX10_init [.inr (some (0, 10, 13))] gh_26 K := by
  refine CV.of (by decide) rfl ?_
  show TV l E mX10_init (d + 1) 3 84 0 [some (.inr (some (0, 10, 13)))] [] gh_26 K
  refine z_aload_n (pc := 0) dX10_init_0 rfl rfl ?_
  refine z_obj (pc := 1) dX10_init_1 lX10_3 l_obj2 l_obj3 rfl ?_
  refine z_aload_n (pc := 4) dX10_init_4 rfl rfl ?_
  refine z_bipush (pc := 5) (v := (nI 6)) dX10_init_5 (by decide) ?_
  refine zz_newa (pc := 7) (bc := 2) (bs := 78) (k := 1) (n := 6) (m := 14) (g := gh_27) dX10_init_7 rfl rfl rfl w_arr1 (by decide) (by decide) (by decide) rfl nh_26 rfl ?_
  refine zz_putr (pc := 9) (g := gh_28) dX10_init_9 fX10_9 uX10_0 rfl (fun v => by cases v <;> exact ⟨rfl, rfl⟩) rfl ?_
  refine z_aload_n (pc := 12) dX10_init_12 rfl rfl ?_
  refine z_bipush (pc := 13) (v := (nI 6)) dX10_init_13 (by decide) ?_
  refine zz_newa (pc := 15) (bc := 1) (bs := 72) (k := 1) (n := 6) (m := 15) (g := gh_29) dX10_init_15 rfl rfl rfl w_arr1 (by decide) (by decide) (by decide) rfl nh_28 rfl ?_
  refine zz_putr (pc := 17) (g := gh_30) dX10_init_17 fX10_15 uX10_1 rfl (fun v => by cases v <;> exact ⟨rfl, rfl⟩) rfl ?_
  refine z_aload_n (pc := 20) dX10_init_20 rfl rfl ?_
  refine z_bipush (pc := 21) (v := (nI 72)) dX10_init_21 (by decide) ?_
  refine zz_newa (pc := 23) (bc := 0) (bs := 0) (k := 1) (n := 72) (m := 16) (g := gh_31) dX10_init_23 rfl rfl rfl w_arr1 (by decide) (by decide) (by decide) rfl nh_30 rfl ?_
  refine zz_putr (pc := 25) (g := gh_32) dX10_init_25 fX10_18 uX10_2 rfl (fun v => by cases v <;> exact ⟨rfl, rfl⟩) rfl ?_
  exact z_ret (pc := 28) dX10_init_28 rfl ⟨rfl, k⟩

def gh_33 : aH := stQ gh_32 4 2 (some (0, 10, 13))
theorem nh_33 : hN gh_33 = 17 := by rw [gh_33, nh_Q, nh_32]
theorem az_33 : az gh_33 := by rw [gh_33]; exact az_Q az_32
def gh_34 : aH := stN gh_33 (0, 10)
theorem nh_34 : hN gh_34 = 18 := by rw [gh_34, nh_N, nh_33]
theorem az_34 : az gh_34 := by rw [gh_34]; exact az_N az_33
def gh_35 : aH := stN gh_34 (1, 6)
theorem nh_35 : hN gh_35 = 19 := by rw [gh_35, nh_N, nh_34]
theorem az_35 : az gh_35 := by rw [gh_35]; exact az_N az_34
def gh_36 : aH := stR gh_35 17 0 (some (1, 6, 18))
theorem nh_36 : hN gh_36 = 19 := by rw [gh_36, nh_R, nh_35]
theorem az_36 : az gh_36 := by rw [gh_36]; exact az_R az_35
def gh_37 : aH := stN gh_36 (1, 6)
theorem nh_37 : hN gh_37 = 20 := by rw [gh_37, nh_N, nh_36]
theorem az_37 : az gh_37 := by rw [gh_37]; exact az_N az_36
def gh_38 : aH := stR gh_37 17 1 (some (1, 6, 19))
theorem nh_38 : hN gh_38 = 20 := by rw [gh_38, nh_R, nh_37]
theorem az_38 : az gh_38 := by rw [gh_38]; exact az_R az_37
def gh_39 : aH := stN gh_38 (1, 72)
theorem nh_39 : hN gh_39 = 21 := by rw [gh_39, nh_N, nh_38]
theorem az_39 : az gh_39 := by rw [gh_39]; exact az_N az_38
def gh_40 : aH := stR gh_39 17 2 (some (1, 72, 20))
theorem nh_40 : hN gh_40 = 21 := by rw [gh_40, nh_R, nh_39]
theorem az_40 : az gh_40 := by rw [gh_40]; exact az_R az_39
set_option maxRecDepth 20000 in
theorem i_4_X10_init {l : Launch} {E : eE} {d : Nat} {K : aH → Prop} (k : K gh_40) : CV l E (d + 1) 3 84 mX10_init [.inr (some (0, 10, 17))] gh_34 K := by
  refine CV.of (by decide) rfl ?_
  show TV l E mX10_init (d + 1) 3 84 0 [some (.inr (some (0, 10, 17)))] [] gh_34 K
  refine z_aload_n (pc := 0) dX10_init_0 rfl rfl ?_
  refine z_obj (pc := 1) dX10_init_1 lX10_3 l_obj2 l_obj3 rfl ?_
  refine z_aload_n (pc := 4) dX10_init_4 rfl rfl ?_
  refine z_bipush (pc := 5) (v := (nI 6)) dX10_init_5 (by decide) ?_
  refine zz_newa (pc := 7) (bc := 2) (bs := 78) (k := 1) (n := 6) (m := 18) (g := gh_35) dX10_init_7 rfl rfl rfl w_arr1 (by decide) (by decide) (by decide) rfl nh_34 rfl ?_
  refine zz_putr (pc := 9) (g := gh_36) dX10_init_9 fX10_9 uX10_0 rfl (fun v => by cases v <;> exact ⟨rfl, rfl⟩) rfl ?_
  refine z_aload_n (pc := 12) dX10_init_12 rfl rfl ?_
  refine z_bipush (pc := 13) (v := (nI 6)) dX10_init_13 (by decide) ?_
  refine zz_newa (pc := 15) (bc := 1) (bs := 72) (k := 1) (n := 6) (m := 19) (g := gh_37) dX10_init_15 rfl rfl rfl w_arr1 (by decide) (by decide) (by decide) rfl nh_36 rfl ?_
  refine zz_putr (pc := 17) (g := gh_38) dX10_init_17 fX10_15 uX10_1 rfl (fun v => by cases v <;> exact ⟨rfl, rfl⟩) rfl ?_
  refine z_aload_n (pc := 20) dX10_init_20 rfl rfl ?_
  refine z_bipush (pc := 21) (v := (nI 72)) dX10_init_21 (by decide) ?_
  refine zz_newa (pc := 23) (bc := 0) (bs := 0) (k := 1) (n := 72) (m := 20) (g := gh_39) dX10_init_23 rfl rfl rfl w_arr1 (by decide) (by decide) (by decide) rfl nh_38 rfl ?_
  refine zz_putr (pc := 25) (g := gh_40) dX10_init_25 fX10_18 uX10_2 rfl (fun v => by cases v <;> exact ⟨rfl, rfl⟩) rfl ?_
  exact z_ret (pc := 28) dX10_init_28 rfl ⟨rfl, k⟩

def gh_41 : aH := stQ gh_40 4 3 (some (0, 10, 17))
theorem nh_41 : hN gh_41 = 21 := by rw [gh_41, nh_Q, nh_40]
theorem az_41 : az gh_41 := by rw [gh_41]; exact az_Q az_40
def gh_42 : aH := stN gh_41 (0, 1)
theorem nh_42 : hN gh_42 = 22 := by rw [gh_42, nh_N, nh_41]
theorem az_42 : az gh_42 := by rw [gh_42]; exact az_N az_41
def gh_43 : aH := stN gh_42 (1, 8)
theorem nh_43 : hN gh_43 = 23 := by rw [gh_43, nh_N, nh_42]
theorem az_43 : az gh_43 := by rw [gh_43]; exact az_N az_42
def gh_44 : aH := stR gh_43 21 0 (some (1, 8, 22))
theorem nh_44 : hN gh_44 = 23 := by rw [gh_44, nh_R, nh_43]
theorem az_44 : az gh_44 := by rw [gh_44]; exact az_R az_43
def gh_45 : aH := stN gh_44 (1, 8)
theorem nh_45 : hN gh_45 = 24 := by rw [gh_45, nh_N, nh_44]
theorem az_45 : az gh_45 := by rw [gh_45]; exact az_N az_44
def gh_46 : aH := stR gh_45 21 1 (some (1, 8, 23))
theorem nh_46 : hN gh_46 = 24 := by rw [gh_46, nh_R, nh_45]
theorem az_46 : az gh_46 := by rw [gh_46]; exact az_R az_45
def gh_47 : aH := stN gh_46 (1, 8)
theorem nh_47 : hN gh_47 = 25 := by rw [gh_47, nh_N, nh_46]
theorem az_47 : az gh_47 := by rw [gh_47]; exact az_N az_46
def gh_48 : aH := stR gh_47 21 2 (some (1, 8, 24))
theorem nh_48 : hN gh_48 = 25 := by rw [gh_48, nh_R, nh_47]
theorem az_48 : az gh_48 := by rw [gh_48]; exact az_R az_47
def gh_49 : aH := stN gh_48 (1, 4)
theorem nh_49 : hN gh_49 = 26 := by rw [gh_49, nh_N, nh_48]
theorem az_49 : az gh_49 := by rw [gh_49]; exact az_N az_48
def gh_50 : aH := stR gh_49 21 3 (some (1, 4, 25))
theorem nh_50 : hN gh_50 = 26 := by rw [gh_50, nh_R, nh_49]
theorem az_50 : az gh_50 := by rw [gh_50]; exact az_R az_49
set_option maxRecDepth 20000 in
theorem i_5_X1_init {l : Launch} {E : eE} {d : Nat} {K : aH → Prop} (k : K gh_50) : CV l E (d + 1) 4 28 mX1_init [.inr (some (0, 1, 21))] gh_42 K := by
  refine CV.of (by decide) rfl ?_
  show TV l E mX1_init (d + 1) 4 28 0 [some (.inr (some (0, 1, 21)))] [] gh_42 K
  refine z_aload_n (pc := 0) dX1_init_0 rfl rfl ?_
  refine z_obj (pc := 1) dX1_init_1 lX1_3 l_obj2 l_obj3 rfl ?_
  refine z_aload_n (pc := 4) dX1_init_4 rfl rfl ?_
  refine z_bipush (pc := 5) (v := (nI 8)) dX1_init_5 (by decide) ?_
  refine zz_newa (pc := 7) (bc := 3) (bs := 20) (k := 1) (n := 8) (m := 22) (g := gh_43) dX1_init_7 rfl rfl rfl w_arr1 (by decide) (by decide) (by decide) rfl nh_42 rfl ?_
  refine zz_putr (pc := 9) (g := gh_44) dX1_init_9 fX1_9 uX1_0 rfl (fun v => by cases v <;> exact ⟨rfl, rfl⟩) rfl ?_
  refine z_aload_n (pc := 12) dX1_init_12 rfl rfl ?_
  refine z_bipush (pc := 13) (v := (nI 8)) dX1_init_13 (by decide) ?_
  refine zz_newa (pc := 15) (bc := 2) (bs := 12) (k := 1) (n := 8) (m := 23) (g := gh_45) dX1_init_15 rfl rfl rfl w_arr1 (by decide) (by decide) (by decide) rfl nh_44 rfl ?_
  refine zz_putr (pc := 17) (g := gh_46) dX1_init_17 fX1_15 uX1_1 rfl (fun v => by cases v <;> exact ⟨rfl, rfl⟩) rfl ?_
  refine z_aload_n (pc := 20) dX1_init_20 rfl rfl ?_
  refine z_bipush (pc := 21) (v := (nI 8)) dX1_init_21 (by decide) ?_
  refine zz_newa (pc := 23) (bc := 1) (bs := 4) (k := 1) (n := 8) (m := 24) (g := gh_47) dX1_init_23 rfl rfl rfl w_arr1 (by decide) (by decide) (by decide) rfl nh_46 rfl ?_
  refine zz_putr (pc := 25) (g := gh_48) dX1_init_25 fX1_18 uX1_2 rfl (fun v => by cases v <;> exact ⟨rfl, rfl⟩) rfl ?_
  refine z_aload_n (pc := 28) dX1_init_28 rfl rfl ?_
  refine z_iconst (pc := 29) (v := (nI 4)) dX1_init_29 (by decide) ?_
  refine zz_newa (pc := 30) (bc := 0) (bs := 0) (k := 1) (n := 4) (m := 25) (g := gh_49) dX1_init_30 rfl rfl rfl w_arr1 (by decide) (by decide) (by decide) rfl nh_48 rfl ?_
  refine zz_putr (pc := 32) (g := gh_50) dX1_init_32 fX1_21 uX1_3 rfl (fun v => by cases v <;> exact ⟨rfl, rfl⟩) rfl ?_
  exact z_ret (pc := 35) dX1_init_35 rfl ⟨rfl, k⟩

def gh_51 : aH := stR gh_50 0 4 (some (0, 1, 21))
theorem nh_51 : hN gh_51 = 26 := by rw [gh_51, nh_R, nh_50]
theorem az_51 : az gh_51 := by rw [gh_51]; exact az_R az_50
def gh_52 : aH := stN gh_51 (0, 8)
theorem nh_52 : hN gh_52 = 27 := by rw [gh_52, nh_N, nh_51]
theorem az_52 : az gh_52 := by rw [gh_52]; exact az_N az_51
set_option maxRecDepth 20000 in
theorem i_6_X8_init {l : Launch} {E : eE} {d : Nat} {K : aH → Prop} (k : K gh_52) : CV l E (d + 1) 0 0 mX8_init [.inr (some (0, 8, 26))] gh_52 K := by
  refine CV.of (by decide) rfl ?_
  show TV l E mX8_init (d + 1) 0 0 0 [some (.inr (some (0, 8, 26)))] [] gh_52 K
  refine z_aload_n (pc := 0) dX8_init_0 rfl rfl ?_
  refine z_obj (pc := 1) dX8_init_1 lX8_3 l_obj2 l_obj3 rfl ?_
  exact z_ret (pc := 4) dX8_init_4 rfl ⟨rfl, k⟩

def gh_53 : aH := stR gh_52 0 5 (some (0, 8, 26))
theorem nh_53 : hN gh_53 = 27 := by rw [gh_53, nh_R, nh_52]
theorem az_53 : az gh_53 := by rw [gh_53]; exact az_R az_52
def gh_54 : aH := stN gh_53 (0, 7)
theorem nh_54 : hN gh_54 = 28 := by rw [gh_54, nh_N, nh_53]
theorem az_54 : az gh_54 := by rw [gh_54]; exact az_N az_53
def gh_55 : aH := stN gh_54 (0, 2)
theorem nh_55 : hN gh_55 = 29 := by rw [gh_55, nh_N, nh_54]
theorem az_55 : az gh_55 := by rw [gh_55]; exact az_N az_54
def gh_56 : aH := stN gh_55 (1, 12)
theorem nh_56 : hN gh_56 = 30 := by rw [gh_56, nh_N, nh_55]
theorem az_56 : az gh_56 := by rw [gh_56]; exact az_N az_55
def gh_57 : aH := stR gh_56 28 0 (some (1, 12, 29))
theorem nh_57 : hN gh_57 = 30 := by rw [gh_57, nh_R, nh_56]
theorem az_57 : az gh_57 := by rw [gh_57]; exact az_R az_56
def gh_58 : aH := stN gh_57 (1, 12)
theorem nh_58 : hN gh_58 = 31 := by rw [gh_58, nh_N, nh_57]
theorem az_58 : az gh_58 := by rw [gh_58]; exact az_N az_57
def gh_59 : aH := stR gh_58 28 1 (some (1, 12, 30))
theorem nh_59 : hN gh_59 = 31 := by rw [gh_59, nh_R, nh_58]
theorem az_59 : az gh_59 := by rw [gh_59]; exact az_R az_58
set_option maxRecDepth 20000 in
theorem i_7_X2_init {l : Launch} {E : eE} {d : Nat} {K : aH → Prop} (k : K gh_59) : CV l E (d + 1) 2 24 mX2_init [.inr (some (0, 2, 28))] gh_55 K := by
  refine CV.of (by decide) rfl ?_
  show TV l E mX2_init (d + 1) 2 24 0 [some (.inr (some (0, 2, 28)))] [] gh_55 K
  refine z_aload_n (pc := 0) dX2_init_0 rfl rfl ?_
  refine z_obj (pc := 1) dX2_init_1 lX2_3 l_obj2 l_obj3 rfl ?_
  refine z_aload_n (pc := 4) dX2_init_4 rfl rfl ?_
  refine z_bipush (pc := 5) (v := (nI 12)) dX2_init_5 (by decide) ?_
  refine zz_newa (pc := 7) (bc := 1) (bs := 12) (k := 1) (n := 12) (m := 29) (g := gh_56) dX2_init_7 rfl rfl rfl w_arr1 (by decide) (by decide) (by decide) rfl nh_55 rfl ?_
  refine zz_putr (pc := 9) (g := gh_57) dX2_init_9 fX2_9 uX2_0 rfl (fun v => by cases v <;> exact ⟨rfl, rfl⟩) rfl ?_
  refine z_aload_n (pc := 12) dX2_init_12 rfl rfl ?_
  refine z_bipush (pc := 13) (v := (nI 12)) dX2_init_13 (by decide) ?_
  refine zz_newa (pc := 15) (bc := 0) (bs := 0) (k := 1) (n := 12) (m := 30) (g := gh_58) dX2_init_15 rfl rfl rfl w_arr1 (by decide) (by decide) (by decide) rfl nh_57 rfl ?_
  refine zz_putr (pc := 17) (g := gh_59) dX2_init_17 fX2_15 uX2_1 rfl (fun v => by cases v <;> exact ⟨rfl, rfl⟩) rfl ?_
  exact z_ret (pc := 20) dX2_init_20 rfl ⟨rfl, k⟩

def gh_60 : aH := stR gh_59 27 0 (some (0, 2, 28))
theorem nh_60 : hN gh_60 = 31 := by rw [gh_60, nh_R, nh_59]
theorem az_60 : az gh_60 := by rw [gh_60]; exact az_R az_59
def gh_61 : aH := stN gh_60 (0, 8)
theorem nh_61 : hN gh_61 = 32 := by rw [gh_61, nh_N, nh_60]
theorem az_61 : az gh_61 := by rw [gh_61]; exact az_N az_60
set_option maxRecDepth 20000 in
theorem i_8_X8_init {l : Launch} {E : eE} {d : Nat} {K : aH → Prop} (k : K gh_61) : CV l E (d + 1) 0 0 mX8_init [.inr (some (0, 8, 31))] gh_61 K := by
  refine CV.of (by decide) rfl ?_
  show TV l E mX8_init (d + 1) 0 0 0 [some (.inr (some (0, 8, 31)))] [] gh_61 K
  refine z_aload_n (pc := 0) dX8_init_0 rfl rfl ?_
  refine z_obj (pc := 1) dX8_init_1 lX8_3 l_obj2 l_obj3 rfl ?_
  exact z_ret (pc := 4) dX8_init_4 rfl ⟨rfl, k⟩

def gh_62 : aH := stR gh_61 27 1 (some (0, 8, 31))
theorem nh_62 : hN gh_62 = 32 := by rw [gh_62, nh_R, nh_61]
theorem az_62 : az gh_62 := by rw [gh_62]; exact az_R az_61
def gh_63 : aH := stN gh_62 (1, 6)
theorem nh_63 : hN gh_63 = 33 := by rw [gh_63, nh_N, nh_62]
theorem az_63 : az gh_63 := by rw [gh_63]; exact az_N az_62
def gh_64 : aH := stR gh_63 27 2 (some (1, 6, 32))
theorem nh_64 : hN gh_64 = 33 := by rw [gh_64, nh_R, nh_63]
theorem az_64 : az gh_64 := by rw [gh_64]; exact az_R az_63
def gh_65 : aH := stN gh_64 (1, 6)
theorem nh_65 : hN gh_65 = 34 := by rw [gh_65, nh_N, nh_64]
theorem az_65 : az gh_65 := by rw [gh_65]; exact az_N az_64
def gh_66 : aH := stR gh_65 27 3 (some (1, 6, 33))
theorem nh_66 : hN gh_66 = 34 := by rw [gh_66, nh_R, nh_65]
theorem az_66 : az gh_66 := by rw [gh_66]; exact az_R az_65
def gh_67 : aH := stN gh_66 (1, 6)
theorem nh_67 : hN gh_67 = 35 := by rw [gh_67, nh_N, nh_66]
theorem az_67 : az gh_67 := by rw [gh_67]; exact az_N az_66
def gh_68 : aH := stR gh_67 27 4 (some (1, 6, 34))
theorem nh_68 : hN gh_68 = 35 := by rw [gh_68, nh_R, nh_67]
theorem az_68 : az gh_68 := by rw [gh_68]; exact az_R az_67
def gh_69 : aH := stN gh_68 (1, 1080)
theorem nh_69 : hN gh_69 = 36 := by rw [gh_69, nh_N, nh_68]
theorem az_69 : az gh_69 := by rw [gh_69]; exact az_N az_68
def gh_70 : aH := stR gh_69 27 5 (some (1, 1080, 35))
theorem nh_70 : hN gh_70 = 36 := by rw [gh_70, nh_R, nh_69]
theorem az_70 : az gh_70 := by rw [gh_70]; exact az_R az_69
def gh_71 : aH := stN gh_70 (1, 84)
theorem nh_71 : hN gh_71 = 37 := by rw [gh_71, nh_N, nh_70]
theorem az_71 : az gh_71 := by rw [gh_71]; exact az_N az_70
def gh_72 : aH := stR gh_71 27 6 (some (1, 84, 36))
theorem nh_72 : hN gh_72 = 37 := by rw [gh_72, nh_R, nh_71]
theorem az_72 : az gh_72 := by rw [gh_72]; exact az_R az_71
def gh_73 : aH := stN gh_72 (1, 12)
theorem nh_73 : hN gh_73 = 38 := by rw [gh_73, nh_N, nh_72]
theorem az_73 : az gh_73 := by rw [gh_73]; exact az_N az_72
def gh_74 : aH := stR gh_73 27 7 (some (1, 12, 37))
theorem nh_74 : hN gh_74 = 38 := by rw [gh_74, nh_R, nh_73]
theorem az_74 : az gh_74 := by rw [gh_74]; exact az_R az_73
def gh_75 : aH := stN gh_74 (1, 12)
theorem nh_75 : hN gh_75 = 39 := by rw [gh_75, nh_N, nh_74]
theorem az_75 : az gh_75 := by rw [gh_75]; exact az_N az_74
def gh_76 : aH := stR gh_75 27 8 (some (1, 12, 38))
theorem nh_76 : hN gh_76 = 39 := by rw [gh_76, nh_R, nh_75]
theorem az_76 : az gh_76 := by rw [gh_76]; exact az_R az_75
set_option maxRecDepth 20000 in
theorem i_9_X7_init {l : Launch} {E : eE} {d : Nat} {K : aH → Prop} (k : K gh_76) : CV l E (d + 2) 11 1240 mX7_init [.inr (some (0, 7, 27))] gh_54 K := by
  refine CV.of (by decide) rfl ?_
  show TV l E mX7_init (d + 2) 11 1240 0 [some (.inr (some (0, 7, 27)))] [] gh_54 K
  refine z_aload_n (pc := 0) dX7_init_0 rfl rfl ?_
  refine z_obj (pc := 1) dX7_init_1 lX7_3 l_obj2 l_obj3 rfl ?_
  refine z_aload_n (pc := 4) dX7_init_4 rfl rfl ?_
  refine zz_new (pc := 5) (bc := 10) (bs := 1236) (c := 2) (C := RX2) (T := TX2) (N := 4) (n := 28) (g := gh_55) dX7_init_5 rfl nX7_9 iX2 jX2 nh_54 rfl ?_
  refine z_dup (pc := 8) dX7_init_8 ?_
  refine y_D (pc := 9) (bc := 8) (bs := 1212) (mc := 2) (ms := 24) (As := []) (rest := [.inr (some (0, 2, 28)), .inr (some (0, 7, 27))]) dX7_init_9 kX2_init lX7_11 rfl rfl rfl rfl (i_7_X2_init ?_)
  refine zz_putr (pc := 12) (g := gh_60) dX7_init_12 fX7_12 uX7_0 rfl (fun v => by cases v <;> exact ⟨rfl, rfl⟩) rfl ?_
  refine z_aload_n (pc := 15) dX7_init_15 rfl rfl ?_
  refine zz_new (pc := 16) (bc := 7) (bs := 1206) (c := 8) (C := RX8) (T := TX8) (N := 6) (n := 31) (g := gh_61) dX7_init_16 rfl nX7_18 iX8 jX8 nh_60 rfl ?_
  refine z_dup (pc := 19) dX7_init_19 ?_
  refine y_D (pc := 20) (bc := 7) (bs := 1206) (mc := 0) (ms := 0) (As := []) (rest := [.inr (some (0, 8, 31)), .inr (some (0, 7, 27))]) dX7_init_20 kX8_init lX7_20 rfl rfl rfl rfl (i_8_X8_init ?_)
  refine zz_putr (pc := 23) (g := gh_62) dX7_init_23 fX7_21 uX7_1 rfl (fun v => by cases v <;> exact ⟨rfl, rfl⟩) rfl ?_
  refine z_aload_n (pc := 26) dX7_init_26 rfl rfl ?_
  refine z_bipush (pc := 27) (v := (nI 6)) dX7_init_27 (by decide) ?_
  refine zz_newa (pc := 29) (bc := 6) (bs := 1200) (k := 1) (n := 6) (m := 32) (g := gh_63) dX7_init_29 rfl rfl rfl w_arr1 (by decide) (by decide) (by decide) rfl nh_62 rfl ?_
  refine zz_putr (pc := 31) (g := gh_64) dX7_init_31 fX7_25 uX7_2 rfl (fun v => by cases v <;> exact ⟨rfl, rfl⟩) rfl ?_
  refine z_aload_n (pc := 34) dX7_init_34 rfl rfl ?_
  refine z_bipush (pc := 35) (v := (nI 6)) dX7_init_35 (by decide) ?_
  refine zz_newa (pc := 37) (bc := 5) (bs := 1194) (k := 1) (n := 6) (m := 33) (g := gh_65) dX7_init_37 rfl rfl rfl w_arr1 (by decide) (by decide) (by decide) rfl nh_64 rfl ?_
  refine zz_putr (pc := 39) (g := gh_66) dX7_init_39 fX7_29 uX7_3 rfl (fun v => by cases v <;> exact ⟨rfl, rfl⟩) rfl ?_
  refine z_aload_n (pc := 42) dX7_init_42 rfl rfl ?_
  refine z_bipush (pc := 43) (v := (nI 6)) dX7_init_43 (by decide) ?_
  refine zz_newa (pc := 45) (bc := 4) (bs := 1188) (k := 1) (n := 6) (m := 34) (g := gh_67) dX7_init_45 rfl rfl rfl w_arr1 (by decide) (by decide) (by decide) rfl nh_66 rfl ?_
  refine zz_putr (pc := 47) (g := gh_68) dX7_init_47 fX7_32 uX7_4 rfl (fun v => by cases v <;> exact ⟨rfl, rfl⟩) rfl ?_
  refine z_aload_n (pc := 50) dX7_init_50 rfl rfl ?_
  refine z_sipush (pc := 51) (v := (nI 1080)) dX7_init_51 (by decide) ?_
  refine zz_newa (pc := 54) (bc := 3) (bs := 108) (k := 1) (n := 1080) (m := 35) (g := gh_69) dX7_init_54 rfl rfl rfl w_arr1 (by decide) (by decide) (by decide) rfl nh_68 rfl ?_
  refine zz_putr (pc := 56) (g := gh_70) dX7_init_56 fX7_35 uX7_5 rfl (fun v => by cases v <;> exact ⟨rfl, rfl⟩) rfl ?_
  refine z_aload_n (pc := 59) dX7_init_59 rfl rfl ?_
  refine z_bipush (pc := 60) (v := (nI 84)) dX7_init_60 (by decide) ?_
  refine zz_newa (pc := 62) (bc := 2) (bs := 24) (k := 1) (n := 84) (m := 36) (g := gh_71) dX7_init_62 rfl rfl rfl w_arr1 (by decide) (by decide) (by decide) rfl nh_70 rfl ?_
  refine zz_putr (pc := 64) (g := gh_72) dX7_init_64 fX7_38 uX7_6 rfl (fun v => by cases v <;> exact ⟨rfl, rfl⟩) rfl ?_
  refine z_aload_n (pc := 67) dX7_init_67 rfl rfl ?_
  refine z_bipush (pc := 68) (v := (nI 12)) dX7_init_68 (by decide) ?_
  refine zz_newa (pc := 70) (bc := 1) (bs := 12) (k := 1) (n := 12) (m := 37) (g := gh_73) dX7_init_70 rfl rfl rfl w_arr1 (by decide) (by decide) (by decide) rfl nh_72 rfl ?_
  refine zz_putr (pc := 72) (g := gh_74) dX7_init_72 fX7_41 uX7_7 rfl (fun v => by cases v <;> exact ⟨rfl, rfl⟩) rfl ?_
  refine z_aload_n (pc := 75) dX7_init_75 rfl rfl ?_
  refine z_bipush (pc := 76) (v := (nI 12)) dX7_init_76 (by decide) ?_
  refine zz_newa (pc := 78) (bc := 0) (bs := 0) (k := 1) (n := 12) (m := 38) (g := gh_75) dX7_init_78 rfl rfl rfl w_arr1 (by decide) (by decide) (by decide) rfl nh_74 rfl ?_
  refine zz_putr (pc := 80) (g := gh_76) dX7_init_80 fX7_44 uX7_8 rfl (fun v => by cases v <;> exact ⟨rfl, rfl⟩) rfl ?_
  exact z_ret (pc := 83) dX7_init_83 rfl ⟨rfl, k⟩

def gh_77 : aH := stR gh_76 0 6 (some (0, 7, 27))
theorem nh_77 : hN gh_77 = 39 := by rw [gh_77, nh_R, nh_76]
theorem az_77 : az gh_77 := by rw [gh_77]; exact az_R az_76
def gh_78 : aH := stN gh_77 (0, 5)
theorem nh_78 : hN gh_78 = 40 := by rw [gh_78, nh_N, nh_77]
theorem az_78 : az gh_78 := by rw [gh_78]; exact az_N az_77
def gh_79 : aH := stN gh_78 (0, 2)
theorem nh_79 : hN gh_79 = 41 := by rw [gh_79, nh_N, nh_78]
theorem az_79 : az gh_79 := by rw [gh_79]; exact az_N az_78
def gh_80 : aH := stN gh_79 (1, 12)
theorem nh_80 : hN gh_80 = 42 := by rw [gh_80, nh_N, nh_79]
theorem az_80 : az gh_80 := by rw [gh_80]; exact az_N az_79
def gh_81 : aH := stR gh_80 40 0 (some (1, 12, 41))
theorem nh_81 : hN gh_81 = 42 := by rw [gh_81, nh_R, nh_80]
theorem az_81 : az gh_81 := by rw [gh_81]; exact az_R az_80
def gh_82 : aH := stN gh_81 (1, 12)
theorem nh_82 : hN gh_82 = 43 := by rw [gh_82, nh_N, nh_81]
theorem az_82 : az gh_82 := by rw [gh_82]; exact az_N az_81
def gh_83 : aH := stR gh_82 40 1 (some (1, 12, 42))
theorem nh_83 : hN gh_83 = 43 := by rw [gh_83, nh_R, nh_82]
theorem az_83 : az gh_83 := by rw [gh_83]; exact az_R az_82
set_option maxRecDepth 20000 in
theorem i_10_X2_init {l : Launch} {E : eE} {d : Nat} {K : aH → Prop} (k : K gh_83) : CV l E (d + 1) 2 24 mX2_init [.inr (some (0, 2, 40))] gh_79 K := by
  refine CV.of (by decide) rfl ?_
  show TV l E mX2_init (d + 1) 2 24 0 [some (.inr (some (0, 2, 40)))] [] gh_79 K
  refine z_aload_n (pc := 0) dX2_init_0 rfl rfl ?_
  refine z_obj (pc := 1) dX2_init_1 lX2_3 l_obj2 l_obj3 rfl ?_
  refine z_aload_n (pc := 4) dX2_init_4 rfl rfl ?_
  refine z_bipush (pc := 5) (v := (nI 12)) dX2_init_5 (by decide) ?_
  refine zz_newa (pc := 7) (bc := 1) (bs := 12) (k := 1) (n := 12) (m := 41) (g := gh_80) dX2_init_7 rfl rfl rfl w_arr1 (by decide) (by decide) (by decide) rfl nh_79 rfl ?_
  refine zz_putr (pc := 9) (g := gh_81) dX2_init_9 fX2_9 uX2_0 rfl (fun v => by cases v <;> exact ⟨rfl, rfl⟩) rfl ?_
  refine z_aload_n (pc := 12) dX2_init_12 rfl rfl ?_
  refine z_bipush (pc := 13) (v := (nI 12)) dX2_init_13 (by decide) ?_
  refine zz_newa (pc := 15) (bc := 0) (bs := 0) (k := 1) (n := 12) (m := 42) (g := gh_82) dX2_init_15 rfl rfl rfl w_arr1 (by decide) (by decide) (by decide) rfl nh_81 rfl ?_
  refine zz_putr (pc := 17) (g := gh_83) dX2_init_17 fX2_15 uX2_1 rfl (fun v => by cases v <;> exact ⟨rfl, rfl⟩) rfl ?_
  exact z_ret (pc := 20) dX2_init_20 rfl ⟨rfl, k⟩

def gh_84 : aH := stR gh_83 39 0 (some (0, 2, 40))
theorem nh_84 : hN gh_84 = 43 := by rw [gh_84, nh_R, nh_83]
theorem az_84 : az gh_84 := by rw [gh_84]; exact az_R az_83
def gh_85 : aH := stN gh_84 (0, 1)
theorem nh_85 : hN gh_85 = 44 := by rw [gh_85, nh_N, nh_84]
theorem az_85 : az gh_85 := by rw [gh_85]; exact az_N az_84
def gh_86 : aH := stN gh_85 (1, 8)
theorem nh_86 : hN gh_86 = 45 := by rw [gh_86, nh_N, nh_85]
theorem az_86 : az gh_86 := by rw [gh_86]; exact az_N az_85
def gh_87 : aH := stR gh_86 43 0 (some (1, 8, 44))
theorem nh_87 : hN gh_87 = 45 := by rw [gh_87, nh_R, nh_86]
theorem az_87 : az gh_87 := by rw [gh_87]; exact az_R az_86
def gh_88 : aH := stN gh_87 (1, 8)
theorem nh_88 : hN gh_88 = 46 := by rw [gh_88, nh_N, nh_87]
theorem az_88 : az gh_88 := by rw [gh_88]; exact az_N az_87
def gh_89 : aH := stR gh_88 43 1 (some (1, 8, 45))
theorem nh_89 : hN gh_89 = 46 := by rw [gh_89, nh_R, nh_88]
theorem az_89 : az gh_89 := by rw [gh_89]; exact az_R az_88
def gh_90 : aH := stN gh_89 (1, 8)
theorem nh_90 : hN gh_90 = 47 := by rw [gh_90, nh_N, nh_89]
theorem az_90 : az gh_90 := by rw [gh_90]; exact az_N az_89
def gh_91 : aH := stR gh_90 43 2 (some (1, 8, 46))
theorem nh_91 : hN gh_91 = 47 := by rw [gh_91, nh_R, nh_90]
theorem az_91 : az gh_91 := by rw [gh_91]; exact az_R az_90
def gh_92 : aH := stN gh_91 (1, 4)
theorem nh_92 : hN gh_92 = 48 := by rw [gh_92, nh_N, nh_91]
theorem az_92 : az gh_92 := by rw [gh_92]; exact az_N az_91
def gh_93 : aH := stR gh_92 43 3 (some (1, 4, 47))
theorem nh_93 : hN gh_93 = 48 := by rw [gh_93, nh_R, nh_92]
theorem az_93 : az gh_93 := by rw [gh_93]; exact az_R az_92
set_option maxRecDepth 20000 in
theorem i_11_X1_init {l : Launch} {E : eE} {d : Nat} {K : aH → Prop} (k : K gh_93) : CV l E (d + 1) 4 28 mX1_init [.inr (some (0, 1, 43))] gh_85 K := by
  refine CV.of (by decide) rfl ?_
  show TV l E mX1_init (d + 1) 4 28 0 [some (.inr (some (0, 1, 43)))] [] gh_85 K
  refine z_aload_n (pc := 0) dX1_init_0 rfl rfl ?_
  refine z_obj (pc := 1) dX1_init_1 lX1_3 l_obj2 l_obj3 rfl ?_
  refine z_aload_n (pc := 4) dX1_init_4 rfl rfl ?_
  refine z_bipush (pc := 5) (v := (nI 8)) dX1_init_5 (by decide) ?_
  refine zz_newa (pc := 7) (bc := 3) (bs := 20) (k := 1) (n := 8) (m := 44) (g := gh_86) dX1_init_7 rfl rfl rfl w_arr1 (by decide) (by decide) (by decide) rfl nh_85 rfl ?_
  refine zz_putr (pc := 9) (g := gh_87) dX1_init_9 fX1_9 uX1_0 rfl (fun v => by cases v <;> exact ⟨rfl, rfl⟩) rfl ?_
  refine z_aload_n (pc := 12) dX1_init_12 rfl rfl ?_
  refine z_bipush (pc := 13) (v := (nI 8)) dX1_init_13 (by decide) ?_
  refine zz_newa (pc := 15) (bc := 2) (bs := 12) (k := 1) (n := 8) (m := 45) (g := gh_88) dX1_init_15 rfl rfl rfl w_arr1 (by decide) (by decide) (by decide) rfl nh_87 rfl ?_
  refine zz_putr (pc := 17) (g := gh_89) dX1_init_17 fX1_15 uX1_1 rfl (fun v => by cases v <;> exact ⟨rfl, rfl⟩) rfl ?_
  refine z_aload_n (pc := 20) dX1_init_20 rfl rfl ?_
  refine z_bipush (pc := 21) (v := (nI 8)) dX1_init_21 (by decide) ?_
  refine zz_newa (pc := 23) (bc := 1) (bs := 4) (k := 1) (n := 8) (m := 46) (g := gh_90) dX1_init_23 rfl rfl rfl w_arr1 (by decide) (by decide) (by decide) rfl nh_89 rfl ?_
  refine zz_putr (pc := 25) (g := gh_91) dX1_init_25 fX1_18 uX1_2 rfl (fun v => by cases v <;> exact ⟨rfl, rfl⟩) rfl ?_
  refine z_aload_n (pc := 28) dX1_init_28 rfl rfl ?_
  refine z_iconst (pc := 29) (v := (nI 4)) dX1_init_29 (by decide) ?_
  refine zz_newa (pc := 30) (bc := 0) (bs := 0) (k := 1) (n := 4) (m := 47) (g := gh_92) dX1_init_30 rfl rfl rfl w_arr1 (by decide) (by decide) (by decide) rfl nh_91 rfl ?_
  refine zz_putr (pc := 32) (g := gh_93) dX1_init_32 fX1_21 uX1_3 rfl (fun v => by cases v <;> exact ⟨rfl, rfl⟩) rfl ?_
  exact z_ret (pc := 35) dX1_init_35 rfl ⟨rfl, k⟩

def gh_94 : aH := stR gh_93 39 1 (some (0, 1, 43))
theorem nh_94 : hN gh_94 = 48 := by rw [gh_94, nh_R, nh_93]
theorem az_94 : az gh_94 := by rw [gh_94]; exact az_R az_93
def gh_95 : aH := stN gh_94 (17, 4)
theorem nh_95 : hN gh_95 = 49 := by rw [gh_95, nh_N, nh_94]
theorem az_95 : az gh_95 := by rw [gh_95]; exact az_N az_94
def gh_96 : aH := stR gh_95 39 2 (some (17, 4, 48))
theorem nh_96 : hN gh_96 = 49 := by rw [gh_96, nh_R, nh_95]
theorem az_96 : az gh_96 := by rw [gh_96]; exact az_R az_95
def gh_97 : aH := stN gh_96 (18, 4)
theorem nh_97 : hN gh_97 = 50 := by rw [gh_97, nh_N, nh_96]
theorem az_97 : az gh_97 := by rw [gh_97]; exact az_N az_96
def gh_98 : aH := stR gh_97 39 3 (some (18, 4, 49))
theorem nh_98 : hN gh_98 = 50 := by rw [gh_98, nh_R, nh_97]
theorem az_98 : az gh_98 := by rw [gh_98]; exact az_R az_97
def gh_99 : aH := stN gh_98 (16, 4)
theorem nh_99 : hN gh_99 = 51 := by rw [gh_99, nh_N, nh_98]
theorem az_99 : az gh_99 := by rw [gh_99]; exact az_N az_98
def gh_100 : aH := stR gh_99 39 4 (some (16, 4, 50))
theorem nh_100 : hN gh_100 = 51 := by rw [gh_100, nh_R, nh_99]
theorem az_100 : az gh_100 := by rw [gh_100]; exact az_R az_99
def gh_101 : aH := stN gh_100 (1, 4)
theorem nh_101 : hN gh_101 = 52 := by rw [gh_101, nh_N, nh_100]
theorem az_101 : az gh_101 := by rw [gh_101]; exact az_N az_100
def gh_102 : aH := stR gh_101 39 5 (some (1, 4, 51))
theorem nh_102 : hN gh_102 = 52 := by rw [gh_102, nh_R, nh_101]
theorem az_102 : az gh_102 := by rw [gh_102]; exact az_R az_101
def gh_103 : aH := stN gh_102 (1, 4)
theorem nh_103 : hN gh_103 = 53 := by rw [gh_103, nh_N, nh_102]
theorem az_103 : az gh_103 := by rw [gh_103]; exact az_N az_102
def gh_104 : aH := stR gh_103 39 6 (some (1, 4, 52))
theorem nh_104 : hN gh_104 = 53 := by rw [gh_104, nh_R, nh_103]
theorem az_104 : az gh_104 := by rw [gh_104]; exact az_R az_103
def gh_105 : aH := stN gh_104 (1, 4)
theorem nh_105 : hN gh_105 = 54 := by rw [gh_105, nh_N, nh_104]
theorem az_105 : az gh_105 := by rw [gh_105]; exact az_N az_104
def gh_106 : aH := stR gh_105 39 7 (some (1, 4, 53))
theorem nh_106 : hN gh_106 = 54 := by rw [gh_106, nh_R, nh_105]
theorem az_106 : az gh_106 := by rw [gh_106]; exact az_R az_105
def gh_107 : aH := stN gh_106 (1, 12)
theorem nh_107 : hN gh_107 = 55 := by rw [gh_107, nh_N, nh_106]
theorem az_107 : az gh_107 := by rw [gh_107]; exact az_N az_106
def gh_108 : aH := stR gh_107 39 8 (some (1, 12, 54))
theorem nh_108 : hN gh_108 = 55 := by rw [gh_108, nh_R, nh_107]
theorem az_108 : az gh_108 := by rw [gh_108]; exact az_R az_107
def gh_109 : aH := stN gh_108 (0, 8)
theorem nh_109 : hN gh_109 = 56 := by rw [gh_109, nh_N, nh_108]
theorem az_109 : az gh_109 := by rw [gh_109]; exact az_N az_108
set_option maxRecDepth 20000 in
theorem i_12_X8_init {l : Launch} {E : eE} {d : Nat} {K : aH → Prop} (k : K gh_109) : CV l E (d + 1) 0 0 mX8_init [.inr (some (0, 8, 55))] gh_109 K := by
  refine CV.of (by decide) rfl ?_
  show TV l E mX8_init (d + 1) 0 0 0 [some (.inr (some (0, 8, 55)))] [] gh_109 K
  refine z_aload_n (pc := 0) dX8_init_0 rfl rfl ?_
  refine z_obj (pc := 1) dX8_init_1 lX8_3 l_obj2 l_obj3 rfl ?_
  exact z_ret (pc := 4) dX8_init_4 rfl ⟨rfl, k⟩

def gh_110 : aH := stQ gh_109 50 0 (some (0, 8, 55))
theorem nh_110 : hN gh_110 = 56 := by rw [gh_110, nh_Q, nh_109]
theorem az_110 : az gh_110 := by rw [gh_110]; exact az_Q az_109
def gh_111 : aH := stN gh_110 (0, 8)
theorem nh_111 : hN gh_111 = 57 := by rw [gh_111, nh_N, nh_110]
theorem az_111 : az gh_111 := by rw [gh_111]; exact az_N az_110
set_option maxRecDepth 20000 in
theorem i_13_X8_init {l : Launch} {E : eE} {d : Nat} {K : aH → Prop} (k : K gh_111) : CV l E (d + 1) 0 0 mX8_init [.inr (some (0, 8, 56))] gh_111 K := by
  refine CV.of (by decide) rfl ?_
  show TV l E mX8_init (d + 1) 0 0 0 [some (.inr (some (0, 8, 56)))] [] gh_111 K
  refine z_aload_n (pc := 0) dX8_init_0 rfl rfl ?_
  refine z_obj (pc := 1) dX8_init_1 lX8_3 l_obj2 l_obj3 rfl ?_
  exact z_ret (pc := 4) dX8_init_4 rfl ⟨rfl, k⟩

def gh_112 : aH := stQ gh_111 50 1 (some (0, 8, 56))
theorem nh_112 : hN gh_112 = 57 := by rw [gh_112, nh_Q, nh_111]
theorem az_112 : az gh_112 := by rw [gh_112]; exact az_Q az_111
def gh_113 : aH := stN gh_112 (0, 8)
theorem nh_113 : hN gh_113 = 58 := by rw [gh_113, nh_N, nh_112]
theorem az_113 : az gh_113 := by rw [gh_113]; exact az_N az_112
set_option maxRecDepth 20000 in
theorem i_14_X8_init {l : Launch} {E : eE} {d : Nat} {K : aH → Prop} (k : K gh_113) : CV l E (d + 1) 0 0 mX8_init [.inr (some (0, 8, 57))] gh_113 K := by
  refine CV.of (by decide) rfl ?_
  show TV l E mX8_init (d + 1) 0 0 0 [some (.inr (some (0, 8, 57)))] [] gh_113 K
  refine z_aload_n (pc := 0) dX8_init_0 rfl rfl ?_
  refine z_obj (pc := 1) dX8_init_1 lX8_3 l_obj2 l_obj3 rfl ?_
  exact z_ret (pc := 4) dX8_init_4 rfl ⟨rfl, k⟩

def gh_114 : aH := stQ gh_113 50 2 (some (0, 8, 57))
theorem nh_114 : hN gh_114 = 58 := by rw [gh_114, nh_Q, nh_113]
theorem az_114 : az gh_114 := by rw [gh_114]; exact az_Q az_113
def gh_115 : aH := stN gh_114 (0, 8)
theorem nh_115 : hN gh_115 = 59 := by rw [gh_115, nh_N, nh_114]
theorem az_115 : az gh_115 := by rw [gh_115]; exact az_N az_114
set_option maxRecDepth 20000 in
theorem i_15_X8_init {l : Launch} {E : eE} {d : Nat} {K : aH → Prop} (k : K gh_115) : CV l E (d + 1) 0 0 mX8_init [.inr (some (0, 8, 58))] gh_115 K := by
  refine CV.of (by decide) rfl ?_
  show TV l E mX8_init (d + 1) 0 0 0 [some (.inr (some (0, 8, 58)))] [] gh_115 K
  refine z_aload_n (pc := 0) dX8_init_0 rfl rfl ?_
  refine z_obj (pc := 1) dX8_init_1 lX8_3 l_obj2 l_obj3 rfl ?_
  exact z_ret (pc := 4) dX8_init_4 rfl ⟨rfl, k⟩

def gh_116 : aH := stQ gh_115 50 3 (some (0, 8, 58))
theorem nh_116 : hN gh_116 = 59 := by rw [gh_116, nh_Q, nh_115]
theorem az_116 : az gh_116 := by rw [gh_116]; exact az_Q az_115
set_option maxRecDepth 20000 in
theorem i_16_X5_init {l : Launch} {E : eE} {d : Nat} {K : aH → Prop} (k : K gh_116) : CV l E (d + 2) 19 121 mX5_init [.inr (some (0, 5, 39))] gh_78 K := by
  refine CV.of (by decide) rfl ?_
  show TV l E mX5_init (d + 2) 19 121 0 [some (.inr (some (0, 5, 39))), none] [] gh_78 K
  refine z_aload_n (pc := 0) dX5_init_0 rfl rfl ?_
  refine z_obj (pc := 1) dX5_init_1 lX5_3 l_obj2 l_obj3 rfl ?_
  refine z_aload_n (pc := 4) dX5_init_4 rfl rfl ?_
  refine zz_new (pc := 5) (bc := 18) (bs := 117) (c := 2) (C := RX2) (T := TX2) (N := 4) (n := 40) (g := gh_79) dX5_init_5 rfl nX5_9 iX2 jX2 nh_78 rfl ?_
  refine z_dup (pc := 8) dX5_init_8 ?_
  refine y_D (pc := 9) (bc := 16) (bs := 93) (mc := 2) (ms := 24) (As := []) (rest := [.inr (some (0, 2, 40)), .inr (some (0, 5, 39))]) dX5_init_9 kX2_init lX5_11 rfl rfl rfl rfl (i_10_X2_init ?_)
  refine zz_putr (pc := 12) (g := gh_84) dX5_init_12 fX5_12 uX5_0 rfl (fun v => by cases v <;> exact ⟨rfl, rfl⟩) rfl ?_
  refine z_aload_n (pc := 15) dX5_init_15 rfl rfl ?_
  refine zz_new (pc := 16) (bc := 15) (bs := 88) (c := 1) (C := RX1) (T := TX1) (N := 5) (n := 43) (g := gh_85) dX5_init_16 rfl nX5_18 iX1 jX1 nh_84 rfl ?_
  refine z_dup (pc := 19) dX5_init_19 ?_
  refine y_D (pc := 20) (bc := 11) (bs := 60) (mc := 4) (ms := 28) (As := []) (rest := [.inr (some (0, 1, 43)), .inr (some (0, 5, 39))]) dX5_init_20 kX1_init lX5_20 rfl rfl rfl rfl (i_11_X1_init ?_)
  refine zz_putr (pc := 23) (g := gh_94) dX5_init_23 fX5_21 uX5_1 rfl (fun v => by cases v <;> exact ⟨rfl, rfl⟩) rfl ?_
  refine z_aload_n (pc := 26) dX5_init_26 rfl rfl ?_
  refine z_iconst (pc := 27) (v := (nI 4)) dX5_init_27 (by decide) ?_
  refine zz_anew (pc := 28) (bc := 10) (bs := 56) (k := 17) (n := 4) (m := 48) (g := gh_95) dX5_init_28 rfl rfl rfl nX5_25 w_arr17 (by decide) (by decide) (by decide) nh_94 rfl ?_
  refine zz_putr (pc := 31) (g := gh_96) dX5_init_31 fX5_27 uX5_2 rfl (fun v => by cases v <;> exact ⟨rfl, rfl⟩) rfl ?_
  refine z_aload_n (pc := 34) dX5_init_34 rfl rfl ?_
  refine z_iconst (pc := 35) (v := (nI 4)) dX5_init_35 (by decide) ?_
  refine zz_anew (pc := 36) (bc := 9) (bs := 52) (k := 18) (n := 4) (m := 49) (g := gh_97) dX5_init_36 rfl rfl rfl nX5_31 w_arr18 (by decide) (by decide) (by decide) nh_96 rfl ?_
  refine zz_putr (pc := 39) (g := gh_98) dX5_init_39 fX5_33 uX5_3 rfl (fun v => by cases v <;> exact ⟨rfl, rfl⟩) rfl ?_
  refine z_aload_n (pc := 42) dX5_init_42 rfl rfl ?_
  refine z_iconst (pc := 43) (v := (nI 4)) dX5_init_43 (by decide) ?_
  refine zz_anew (pc := 44) (bc := 8) (bs := 48) (k := 16) (n := 4) (m := 50) (g := gh_99) dX5_init_44 rfl rfl rfl nX5_37 w_arr16 (by decide) (by decide) (by decide) nh_98 rfl ?_
  refine zz_putr (pc := 47) (g := gh_100) dX5_init_47 fX5_39 uX5_4 rfl (fun v => by cases v <;> exact ⟨rfl, rfl⟩) rfl ?_
  refine z_aload_n (pc := 50) dX5_init_50 rfl rfl ?_
  refine z_iconst (pc := 51) (v := (nI 4)) dX5_init_51 (by decide) ?_
  refine zz_newa (pc := 52) (bc := 7) (bs := 44) (k := 1) (n := 4) (m := 51) (g := gh_101) dX5_init_52 rfl rfl rfl w_arr1 (by decide) (by decide) (by decide) rfl nh_100 rfl ?_
  refine zz_putr (pc := 54) (g := gh_102) dX5_init_54 fX5_43 uX5_5 rfl (fun v => by cases v <;> exact ⟨rfl, rfl⟩) rfl ?_
  refine z_aload_n (pc := 57) dX5_init_57 rfl rfl ?_
  refine z_iconst (pc := 58) (v := (nI 4)) dX5_init_58 (by decide) ?_
  refine zz_newa (pc := 59) (bc := 6) (bs := 40) (k := 1) (n := 4) (m := 52) (g := gh_103) dX5_init_59 rfl rfl rfl w_arr1 (by decide) (by decide) (by decide) rfl nh_102 rfl ?_
  refine zz_putr (pc := 61) (g := gh_104) dX5_init_61 fX5_47 uX5_6 rfl (fun v => by cases v <;> exact ⟨rfl, rfl⟩) rfl ?_
  refine z_aload_n (pc := 64) dX5_init_64 rfl rfl ?_
  refine z_iconst (pc := 65) (v := (nI 4)) dX5_init_65 (by decide) ?_
  refine zz_newa (pc := 66) (bc := 5) (bs := 36) (k := 1) (n := 4) (m := 53) (g := gh_105) dX5_init_66 rfl rfl rfl w_arr1 (by decide) (by decide) (by decide) rfl nh_104 rfl ?_
  refine zz_putr (pc := 68) (g := gh_106) dX5_init_68 fX5_50 uX5_7 rfl (fun v => by cases v <;> exact ⟨rfl, rfl⟩) rfl ?_
  refine z_aload_n (pc := 71) dX5_init_71 rfl rfl ?_
  refine z_bipush (pc := 72) (v := (nI 12)) dX5_init_72 (by decide) ?_
  refine zz_newa (pc := 74) (bc := 4) (bs := 24) (k := 1) (n := 12) (m := 54) (g := gh_107) dX5_init_74 rfl rfl rfl w_arr1 (by decide) (by decide) (by decide) rfl nh_106 rfl ?_
  refine zz_putr (pc := 76) (g := gh_108) dX5_init_76 fX5_53 uX5_8 rfl (fun v => by cases v <;> exact ⟨rfl, rfl⟩) rfl ?_
  refine z_iconst (pc := 79) (v := (nI 0)) dX5_init_79 (by decide) ?_
  refine z_istore_n (pc := 80) (ls' := [some (.inr (some (0, 5, 39))), some (.inl (nI 0))]) dX5_init_80 rfl rfl rfl ?_
  refine z_iload_n (pc := 81) dX5_init_81 rfl rfl ?_
  refine z_iconst (pc := 82) (v := (nI 4)) dX5_init_82 (by decide) ?_
  refine z_icmp_ge (pc := 83) (tgt := 105) dX5_init_83 (by decide) (fun c => absurd c (by decide)) (fun _ => ?_)
  refine z_aload_n (pc := 86) dX5_init_86 rfl rfl ?_
  refine z_getk (pc := 87) (r := (some (16, 4, 50))) dX5_init_87 fX5_39 rfl (show hR gh_108 39 4 = _ by decide +kernel) ?_
  refine z_iload_n (pc := 90) dX5_init_90 rfl rfl ?_
  refine zz_new (pc := 91) (bc := 3) (bs := 18) (c := 8) (C := RX8) (T := TX8) (N := 6) (n := 55) (g := gh_109) dX5_init_91 rfl nX5_37 iX8 jX8 nh_108 rfl ?_
  refine z_dup (pc := 94) dX5_init_94 ?_
  refine y_D (pc := 95) (bc := 3) (bs := 18) (mc := 0) (ms := 0) (As := []) (rest := [.inr (some (0, 8, 55)), .inl (nI 0), .inr (some (16, 4, 50))]) dX5_init_95 kX8_init lX5_56 rfl rfl rfl rfl (i_12_X8_init ?_)
  refine zz_aast (pc := 98) (g := gh_110) (r := (RX8, TX8, 6)) dX5_init_98 rfl rfl rfl rfl (vp_in_nI (by decide) (by decide)) (nI_clamp (by decide)) rfl ?_
  refine z_iinc (pc := 99) (v := (nI 1)) (ls' := [some (.inr (some (0, 5, 39))), some (.inl (nI 1))]) dX5_init_99 rfl (by decide) rfl ?_
  refine z_goto (pc := 102) (tgt := 81) dX5_init_102 (by decide) ?_
  refine z_iload_n (pc := 81) dX5_init_81 rfl rfl ?_
  refine z_iconst (pc := 82) (v := (nI 4)) dX5_init_82 (by decide) ?_
  refine z_icmp_ge (pc := 83) (tgt := 105) dX5_init_83 (by decide) (fun c => absurd c (by decide)) (fun _ => ?_)
  refine z_aload_n (pc := 86) dX5_init_86 rfl rfl ?_
  refine z_getk (pc := 87) (r := (some (16, 4, 50))) dX5_init_87 fX5_39 rfl (show hR gh_110 39 4 = _ by decide +kernel) ?_
  refine z_iload_n (pc := 90) dX5_init_90 rfl rfl ?_
  refine zz_new (pc := 91) (bc := 2) (bs := 12) (c := 8) (C := RX8) (T := TX8) (N := 6) (n := 56) (g := gh_111) dX5_init_91 rfl nX5_37 iX8 jX8 nh_110 rfl ?_
  refine z_dup (pc := 94) dX5_init_94 ?_
  refine y_D (pc := 95) (bc := 2) (bs := 12) (mc := 0) (ms := 0) (As := []) (rest := [.inr (some (0, 8, 56)), .inl (nI 1), .inr (some (16, 4, 50))]) dX5_init_95 kX8_init lX5_56 rfl rfl rfl rfl (i_13_X8_init ?_)
  refine zz_aast (pc := 98) (g := gh_112) (r := (RX8, TX8, 6)) dX5_init_98 rfl rfl rfl rfl (vp_in_nI (by decide) (by decide)) (nI_clamp (by decide)) rfl ?_
  refine z_iinc (pc := 99) (v := (nI 2)) (ls' := [some (.inr (some (0, 5, 39))), some (.inl (nI 2))]) dX5_init_99 rfl (by decide) rfl ?_
  refine z_goto (pc := 102) (tgt := 81) dX5_init_102 (by decide) ?_
  refine z_iload_n (pc := 81) dX5_init_81 rfl rfl ?_
  refine z_iconst (pc := 82) (v := (nI 4)) dX5_init_82 (by decide) ?_
  refine z_icmp_ge (pc := 83) (tgt := 105) dX5_init_83 (by decide) (fun c => absurd c (by decide)) (fun _ => ?_)
  refine z_aload_n (pc := 86) dX5_init_86 rfl rfl ?_
  refine z_getk (pc := 87) (r := (some (16, 4, 50))) dX5_init_87 fX5_39 rfl (show hR gh_112 39 4 = _ by decide +kernel) ?_
  refine z_iload_n (pc := 90) dX5_init_90 rfl rfl ?_
  refine zz_new (pc := 91) (bc := 1) (bs := 6) (c := 8) (C := RX8) (T := TX8) (N := 6) (n := 57) (g := gh_113) dX5_init_91 rfl nX5_37 iX8 jX8 nh_112 rfl ?_
  refine z_dup (pc := 94) dX5_init_94 ?_
  refine y_D (pc := 95) (bc := 1) (bs := 6) (mc := 0) (ms := 0) (As := []) (rest := [.inr (some (0, 8, 57)), .inl (nI 2), .inr (some (16, 4, 50))]) dX5_init_95 kX8_init lX5_56 rfl rfl rfl rfl (i_14_X8_init ?_)
  refine zz_aast (pc := 98) (g := gh_114) (r := (RX8, TX8, 6)) dX5_init_98 rfl rfl rfl rfl (vp_in_nI (by decide) (by decide)) (nI_clamp (by decide)) rfl ?_
  refine z_iinc (pc := 99) (v := (nI 3)) (ls' := [some (.inr (some (0, 5, 39))), some (.inl (nI 3))]) dX5_init_99 rfl (by decide) rfl ?_
  refine z_goto (pc := 102) (tgt := 81) dX5_init_102 (by decide) ?_
  refine z_iload_n (pc := 81) dX5_init_81 rfl rfl ?_
  refine z_iconst (pc := 82) (v := (nI 4)) dX5_init_82 (by decide) ?_
  refine z_icmp_ge (pc := 83) (tgt := 105) dX5_init_83 (by decide) (fun c => absurd c (by decide)) (fun _ => ?_)
  refine z_aload_n (pc := 86) dX5_init_86 rfl rfl ?_
  refine z_getk (pc := 87) (r := (some (16, 4, 50))) dX5_init_87 fX5_39 rfl (show hR gh_114 39 4 = _ by decide +kernel) ?_
  refine z_iload_n (pc := 90) dX5_init_90 rfl rfl ?_
  refine zz_new (pc := 91) (bc := 0) (bs := 0) (c := 8) (C := RX8) (T := TX8) (N := 6) (n := 58) (g := gh_115) dX5_init_91 rfl nX5_37 iX8 jX8 nh_114 rfl ?_
  refine z_dup (pc := 94) dX5_init_94 ?_
  refine y_D (pc := 95) (bc := 0) (bs := 0) (mc := 0) (ms := 0) (As := []) (rest := [.inr (some (0, 8, 58)), .inl (nI 3), .inr (some (16, 4, 50))]) dX5_init_95 kX8_init lX5_56 rfl rfl rfl rfl (i_15_X8_init ?_)
  refine zz_aast (pc := 98) (g := gh_116) (r := (RX8, TX8, 6)) dX5_init_98 rfl rfl rfl rfl (vp_in_nI (by decide) (by decide)) (nI_clamp (by decide)) rfl ?_
  refine z_iinc (pc := 99) (v := (nI 4)) (ls' := [some (.inr (some (0, 5, 39))), some (.inl (nI 4))]) dX5_init_99 rfl (by decide) rfl ?_
  refine z_goto (pc := 102) (tgt := 81) dX5_init_102 (by decide) ?_
  refine z_iload_n (pc := 81) dX5_init_81 rfl rfl ?_
  refine z_iconst (pc := 82) (v := (nI 4)) dX5_init_82 (by decide) ?_
  refine z_icmp_ge (pc := 83) (tgt := 105) dX5_init_83 (by decide) (fun _ => ?_) (fun c => absurd (by decide) c)
  exact z_ret (pc := 105) dX5_init_105 rfl ⟨rfl, k⟩

def gh_117 : aH := stR gh_116 0 7 (some (0, 5, 39))
theorem nh_117 : hN gh_117 = 59 := by rw [gh_117, nh_R, nh_116]
theorem az_117 : az gh_117 := by rw [gh_117]; exact az_R az_116
def gh_118 : aH := stN gh_117 (0, 0)
theorem nh_118 : hN gh_118 = 60 := by rw [gh_118, nh_N, nh_117]
theorem az_118 : az gh_118 := by rw [gh_118]; exact az_N az_117
def gh_119 : aH := stN gh_118 (0, 8)
theorem nh_119 : hN gh_119 = 61 := by rw [gh_119, nh_N, nh_118]
theorem az_119 : az gh_119 := by rw [gh_119]; exact az_N az_118
set_option maxRecDepth 20000 in
theorem i_17_X8_init {l : Launch} {E : eE} {d : Nat} {K : aH → Prop} (k : K gh_119) : CV l E (d + 1) 0 0 mX8_init [.inr (some (0, 8, 60))] gh_119 K := by
  refine CV.of (by decide) rfl ?_
  show TV l E mX8_init (d + 1) 0 0 0 [some (.inr (some (0, 8, 60)))] [] gh_119 K
  refine z_aload_n (pc := 0) dX8_init_0 rfl rfl ?_
  refine z_obj (pc := 1) dX8_init_1 lX8_3 l_obj2 l_obj3 rfl ?_
  exact z_ret (pc := 4) dX8_init_4 rfl ⟨rfl, k⟩

def gh_120 : aH := stR gh_119 59 0 (some (0, 8, 60))
theorem nh_120 : hN gh_120 = 61 := by rw [gh_120, nh_R, nh_119]
theorem az_120 : az gh_120 := by rw [gh_120]; exact az_R az_119
def gh_121 : aH := stN gh_120 (1, 12)
theorem nh_121 : hN gh_121 = 62 := by rw [gh_121, nh_N, nh_120]
theorem az_121 : az gh_121 := by rw [gh_121]; exact az_N az_120
def gh_122 : aH := stR gh_121 59 1 (some (1, 12, 61))
theorem nh_122 : hN gh_122 = 62 := by rw [gh_122, nh_R, nh_121]
theorem az_122 : az gh_122 := by rw [gh_122]; exact az_R az_121
def gh_123 : aH := stN gh_122 (1, 12)
theorem nh_123 : hN gh_123 = 63 := by rw [gh_123, nh_N, nh_122]
theorem az_123 : az gh_123 := by rw [gh_123]; exact az_N az_122
def gh_124 : aH := stR gh_123 59 2 (some (1, 12, 62))
theorem nh_124 : hN gh_124 = 63 := by rw [gh_124, nh_R, nh_123]
theorem az_124 : az gh_124 := by rw [gh_124]; exact az_R az_123
set_option maxRecDepth 20000 in
theorem i_18_X0_init {l : Launch} {E : eE} {d : Nat} {K : aH → Prop} (k : K gh_124) : CV l E (d + 2) 3 30 mX0_init [.inr (some (0, 0, 59))] gh_118 K := by
  refine CV.of (by decide) rfl ?_
  show TV l E mX0_init (d + 2) 3 30 0 [some (.inr (some (0, 0, 59)))] [] gh_118 K
  refine z_aload_n (pc := 0) dX0_init_0 rfl rfl ?_
  refine z_obj (pc := 1) dX0_init_1 lX0_3 l_obj2 l_obj3 rfl ?_
  refine z_aload_n (pc := 4) dX0_init_4 rfl rfl ?_
  refine zz_new (pc := 5) (bc := 2) (bs := 24) (c := 8) (C := RX8) (T := TX8) (N := 6) (n := 60) (g := gh_119) dX0_init_5 rfl nX0_9 iX8 jX8 nh_118 rfl ?_
  refine z_dup (pc := 8) dX0_init_8 ?_
  refine y_D (pc := 9) (bc := 2) (bs := 24) (mc := 0) (ms := 0) (As := []) (rest := [.inr (some (0, 8, 60)), .inr (some (0, 0, 59))]) dX0_init_9 kX8_init lX0_11 rfl rfl rfl rfl (i_17_X8_init ?_)
  refine zz_putr (pc := 12) (g := gh_120) dX0_init_12 fX0_12 uX0_0 rfl (fun v => by cases v <;> exact ⟨rfl, rfl⟩) rfl ?_
  refine z_aload_n (pc := 15) dX0_init_15 rfl rfl ?_
  refine z_bipush (pc := 16) (v := (nI 12)) dX0_init_16 (by decide) ?_
  refine zz_newa (pc := 18) (bc := 1) (bs := 12) (k := 1) (n := 12) (m := 61) (g := gh_121) dX0_init_18 rfl rfl rfl w_arr1 (by decide) (by decide) (by decide) rfl nh_120 rfl ?_
  refine zz_putr (pc := 20) (g := gh_122) dX0_init_20 fX0_18 uX0_1 rfl (fun v => by cases v <;> exact ⟨rfl, rfl⟩) rfl ?_
  refine z_aload_n (pc := 23) dX0_init_23 rfl rfl ?_
  refine z_bipush (pc := 24) (v := (nI 12)) dX0_init_24 (by decide) ?_
  refine zz_newa (pc := 26) (bc := 0) (bs := 0) (k := 1) (n := 12) (m := 62) (g := gh_123) dX0_init_26 rfl rfl rfl w_arr1 (by decide) (by decide) (by decide) rfl nh_122 rfl ?_
  refine zz_putr (pc := 28) (g := gh_124) dX0_init_28 fX0_22 uX0_2 rfl (fun v => by cases v <;> exact ⟨rfl, rfl⟩) rfl ?_
  exact z_ret (pc := 31) dX0_init_31 rfl ⟨rfl, k⟩

def gh_125 : aH := stR gh_124 0 8 (some (0, 0, 59))
theorem nh_125 : hN gh_125 = 63 := by rw [gh_125, nh_R, nh_124]
theorem az_125 : az gh_125 := by rw [gh_125]; exact az_R az_124
set_option maxRecDepth 20000 in
theorem i_19_X11_init {l : Launch} {E : eE} {d : Nat} {K : aH → Prop} (k : K gh_125) : CV l E (d + 3) 62 1832 mX11_init [.inr (some (0, 11, 0))] gh_1 K := by
  refine CV.of (by decide) rfl ?_
  show TV l E mX11_init (d + 3) 62 1832 0 [some (.inr (some (0, 11, 0))), none] [] gh_1 K
  refine z_aload_n (pc := 0) dX11_init_0 rfl rfl ?_
  refine z_obj (pc := 1) dX11_init_1 lX11_1 l_obj2 l_obj3 rfl ?_
  refine z_aload_n (pc := 4) dX11_init_4 rfl rfl ?_
  refine z_bipush (pc := 5) (v := (nI 8)) dX11_init_5 (by decide) ?_
  refine zz_anew (pc := 7) (bc := 61) (bs := 1824) (k := 12) (n := 8) (m := 1) (g := gh_2) dX11_init_7 rfl rfl rfl nX11_9 w_arr12 (by decide) (by decide) (by decide) nh_1 rfl ?_
  refine zz_putr (pc := 10) (g := gh_3) dX11_init_10 fX11_11 uX11_0 rfl (fun v => by cases v <;> exact ⟨rfl, rfl⟩) rfl ?_
  refine z_aload_n (pc := 13) dX11_init_13 rfl rfl ?_
  refine z_bipush (pc := 14) (v := (nI 12)) dX11_init_14 (by decide) ?_
  refine zz_anew (pc := 16) (bc := 60) (bs := 1812) (k := 14) (n := 12) (m := 2) (g := gh_4) dX11_init_16 rfl rfl rfl nX11_15 w_arr14 (by decide) (by decide) (by decide) nh_3 rfl ?_
  refine zz_putr (pc := 19) (g := gh_5) dX11_init_19 fX11_17 uX11_1 rfl (fun v => by cases v <;> exact ⟨rfl, rfl⟩) rfl ?_
  refine z_aload_n (pc := 22) dX11_init_22 rfl rfl ?_
  refine z_iconst (pc := 23) (v := (nI 4)) dX11_init_23 (by decide) ?_
  refine zz_anew (pc := 24) (bc := 59) (bs := 1808) (k := 17) (n := 4) (m := 3) (g := gh_6) dX11_init_24 rfl rfl rfl nX11_21 w_arr17 (by decide) (by decide) (by decide) nh_5 rfl ?_
  refine zz_putr (pc := 27) (g := gh_7) dX11_init_27 fX11_23 uX11_2 rfl (fun v => by cases v <;> exact ⟨rfl, rfl⟩) rfl ?_
  refine z_aload_n (pc := 30) dX11_init_30 rfl rfl ?_
  refine z_iconst (pc := 31) (v := (nI 4)) dX11_init_31 (by decide) ?_
  refine zz_anew (pc := 32) (bc := 58) (bs := 1804) (k := 18) (n := 4) (m := 4) (g := gh_8) dX11_init_32 rfl rfl rfl nX11_27 w_arr18 (by decide) (by decide) (by decide) nh_7 rfl ?_
  refine zz_putr (pc := 35) (g := gh_9) dX11_init_35 fX11_29 uX11_3 rfl (fun v => by cases v <;> exact ⟨rfl, rfl⟩) rfl ?_
  refine z_iconst (pc := 38) (v := (nI 0)) dX11_init_38 (by decide) ?_
  refine z_istore_n (pc := 39) (ls' := [some (.inr (some (0, 11, 0))), some (.inl (nI 0))]) dX11_init_39 rfl rfl rfl ?_
  refine z_iload_n (pc := 40) dX11_init_40 rfl rfl ?_
  refine z_iconst (pc := 41) (v := (nI 4)) dX11_init_41 (by decide) ?_
  refine z_icmp_ge (pc := 42) (tgt := 64) dX11_init_42 (by decide) (fun c => absurd c (by decide)) (fun _ => ?_)
  refine z_aload_n (pc := 45) dX11_init_45 rfl rfl ?_
  refine z_getk (pc := 46) (r := (some (18, 4, 4))) dX11_init_46 fX11_29 rfl (show hR gh_9 0 3 = _ by decide +kernel) ?_
  refine z_iload_n (pc := 49) dX11_init_49 rfl rfl ?_
  refine zz_new (pc := 50) (bc := 57) (bs := 1801) (c := 10) (C := RX10) (T := TX10) (N := 3) (n := 5) (g := gh_10) dX11_init_50 rfl nX11_27 iX10 jX10 nh_9 rfl ?_
  refine z_dup (pc := 53) dX11_init_53 ?_
  refine y_D (pc := 54) (bc := 54) (bs := 1717) (mc := 3) (ms := 84) (As := []) (rest := [.inr (some (0, 10, 5)), .inl (nI 0), .inr (some (18, 4, 4))]) dX11_init_54 kX10_init lX11_33 rfl rfl rfl rfl (i_1_X10_init ?_)
  refine zz_aast (pc := 57) (g := gh_17) (r := (RX10, TX10, 3)) dX11_init_57 rfl rfl rfl rfl (vp_in_nI (by decide) (by decide)) (nI_clamp (by decide)) rfl ?_
  refine z_iinc (pc := 58) (v := (nI 1)) (ls' := [some (.inr (some (0, 11, 0))), some (.inl (nI 1))]) dX11_init_58 rfl (by decide) rfl ?_
  refine z_goto (pc := 61) (tgt := 40) dX11_init_61 (by decide) ?_
  refine z_iload_n (pc := 40) dX11_init_40 rfl rfl ?_
  refine z_iconst (pc := 41) (v := (nI 4)) dX11_init_41 (by decide) ?_
  refine z_icmp_ge (pc := 42) (tgt := 64) dX11_init_42 (by decide) (fun c => absurd c (by decide)) (fun _ => ?_)
  refine z_aload_n (pc := 45) dX11_init_45 rfl rfl ?_
  refine z_getk (pc := 46) (r := (some (18, 4, 4))) dX11_init_46 fX11_29 rfl (show hR gh_17 0 3 = _ by decide +kernel) ?_
  refine z_iload_n (pc := 49) dX11_init_49 rfl rfl ?_
  refine zz_new (pc := 50) (bc := 53) (bs := 1714) (c := 10) (C := RX10) (T := TX10) (N := 3) (n := 9) (g := gh_18) dX11_init_50 rfl nX11_27 iX10 jX10 nh_17 rfl ?_
  refine z_dup (pc := 53) dX11_init_53 ?_
  refine y_D (pc := 54) (bc := 50) (bs := 1630) (mc := 3) (ms := 84) (As := []) (rest := [.inr (some (0, 10, 9)), .inl (nI 1), .inr (some (18, 4, 4))]) dX11_init_54 kX10_init lX11_33 rfl rfl rfl rfl (i_2_X10_init ?_)
  refine zz_aast (pc := 57) (g := gh_25) (r := (RX10, TX10, 3)) dX11_init_57 rfl rfl rfl rfl (vp_in_nI (by decide) (by decide)) (nI_clamp (by decide)) rfl ?_
  refine z_iinc (pc := 58) (v := (nI 2)) (ls' := [some (.inr (some (0, 11, 0))), some (.inl (nI 2))]) dX11_init_58 rfl (by decide) rfl ?_
  refine z_goto (pc := 61) (tgt := 40) dX11_init_61 (by decide) ?_
  refine z_iload_n (pc := 40) dX11_init_40 rfl rfl ?_
  refine z_iconst (pc := 41) (v := (nI 4)) dX11_init_41 (by decide) ?_
  refine z_icmp_ge (pc := 42) (tgt := 64) dX11_init_42 (by decide) (fun c => absurd c (by decide)) (fun _ => ?_)
  refine z_aload_n (pc := 45) dX11_init_45 rfl rfl ?_
  refine z_getk (pc := 46) (r := (some (18, 4, 4))) dX11_init_46 fX11_29 rfl (show hR gh_25 0 3 = _ by decide +kernel) ?_
  refine z_iload_n (pc := 49) dX11_init_49 rfl rfl ?_
  refine zz_new (pc := 50) (bc := 49) (bs := 1627) (c := 10) (C := RX10) (T := TX10) (N := 3) (n := 13) (g := gh_26) dX11_init_50 rfl nX11_27 iX10 jX10 nh_25 rfl ?_
  refine z_dup (pc := 53) dX11_init_53 ?_
  refine y_D (pc := 54) (bc := 46) (bs := 1543) (mc := 3) (ms := 84) (As := []) (rest := [.inr (some (0, 10, 13)), .inl (nI 2), .inr (some (18, 4, 4))]) dX11_init_54 kX10_init lX11_33 rfl rfl rfl rfl (i_3_X10_init ?_)
  refine zz_aast (pc := 57) (g := gh_33) (r := (RX10, TX10, 3)) dX11_init_57 rfl rfl rfl rfl (vp_in_nI (by decide) (by decide)) (nI_clamp (by decide)) rfl ?_
  refine z_iinc (pc := 58) (v := (nI 3)) (ls' := [some (.inr (some (0, 11, 0))), some (.inl (nI 3))]) dX11_init_58 rfl (by decide) rfl ?_
  refine z_goto (pc := 61) (tgt := 40) dX11_init_61 (by decide) ?_
  refine z_iload_n (pc := 40) dX11_init_40 rfl rfl ?_
  refine z_iconst (pc := 41) (v := (nI 4)) dX11_init_41 (by decide) ?_
  refine z_icmp_ge (pc := 42) (tgt := 64) dX11_init_42 (by decide) (fun c => absurd c (by decide)) (fun _ => ?_)
  refine z_aload_n (pc := 45) dX11_init_45 rfl rfl ?_
  refine z_getk (pc := 46) (r := (some (18, 4, 4))) dX11_init_46 fX11_29 rfl (show hR gh_33 0 3 = _ by decide +kernel) ?_
  refine z_iload_n (pc := 49) dX11_init_49 rfl rfl ?_
  refine zz_new (pc := 50) (bc := 45) (bs := 1540) (c := 10) (C := RX10) (T := TX10) (N := 3) (n := 17) (g := gh_34) dX11_init_50 rfl nX11_27 iX10 jX10 nh_33 rfl ?_
  refine z_dup (pc := 53) dX11_init_53 ?_
  refine y_D (pc := 54) (bc := 42) (bs := 1456) (mc := 3) (ms := 84) (As := []) (rest := [.inr (some (0, 10, 17)), .inl (nI 3), .inr (some (18, 4, 4))]) dX11_init_54 kX10_init lX11_33 rfl rfl rfl rfl (i_4_X10_init ?_)
  refine zz_aast (pc := 57) (g := gh_41) (r := (RX10, TX10, 3)) dX11_init_57 rfl rfl rfl rfl (vp_in_nI (by decide) (by decide)) (nI_clamp (by decide)) rfl ?_
  refine z_iinc (pc := 58) (v := (nI 4)) (ls' := [some (.inr (some (0, 11, 0))), some (.inl (nI 4))]) dX11_init_58 rfl (by decide) rfl ?_
  refine z_goto (pc := 61) (tgt := 40) dX11_init_61 (by decide) ?_
  refine z_iload_n (pc := 40) dX11_init_40 rfl rfl ?_
  refine z_iconst (pc := 41) (v := (nI 4)) dX11_init_41 (by decide) ?_
  refine z_icmp_ge (pc := 42) (tgt := 64) dX11_init_42 (by decide) (fun _ => ?_) (fun c => absurd (by decide) c)
  refine z_aload_n (pc := 64) dX11_init_64 rfl rfl ?_
  refine zz_new (pc := 65) (bc := 41) (bs := 1451) (c := 1) (C := RX1) (T := TX1) (N := 5) (n := 21) (g := gh_42) dX11_init_65 rfl nX11_34 iX1 jX1 nh_41 rfl ?_
  refine z_dup (pc := 68) dX11_init_68 ?_
  refine y_D (pc := 69) (bc := 37) (bs := 1423) (mc := 4) (ms := 28) (As := []) (rest := [.inr (some (0, 1, 21)), .inr (some (0, 11, 0))]) dX11_init_69 kX1_init lX11_36 rfl rfl rfl rfl (i_5_X1_init ?_)
  refine zz_putr (pc := 72) (g := gh_51) dX11_init_72 fX11_37 uX11_4 rfl (fun v => by cases v <;> exact ⟨rfl, rfl⟩) rfl ?_
  refine z_aload_n (pc := 75) dX11_init_75 rfl rfl ?_
  refine zz_new (pc := 76) (bc := 36) (bs := 1417) (c := 8) (C := RX8) (T := TX8) (N := 6) (n := 26) (g := gh_52) dX11_init_76 rfl nX11_41 iX8 jX8 nh_51 rfl ?_
  refine z_dup (pc := 79) dX11_init_79 ?_
  refine y_D (pc := 80) (bc := 36) (bs := 1417) (mc := 0) (ms := 0) (As := []) (rest := [.inr (some (0, 8, 26)), .inr (some (0, 11, 0))]) dX11_init_80 kX8_init lX11_43 rfl rfl rfl rfl (i_6_X8_init ?_)
  refine zz_putr (pc := 83) (g := gh_53) dX11_init_83 fX11_44 uX11_5 rfl (fun v => by cases v <;> exact ⟨rfl, rfl⟩) rfl ?_
  refine z_aload_n (pc := 86) dX11_init_86 rfl rfl ?_
  refine zz_new (pc := 87) (bc := 35) (bs := 1406) (c := 7) (C := RX7) (T := TX7) (N := 11) (n := 27) (g := gh_54) dX11_init_87 rfl nX11_48 iX7 jX7 nh_53 rfl ?_
  refine z_dup (pc := 90) dX11_init_90 ?_
  refine y_D (pc := 91) (bc := 24) (bs := 166) (mc := 11) (ms := 1240) (As := []) (rest := [.inr (some (0, 7, 27)), .inr (some (0, 11, 0))]) dX11_init_91 kX7_init lX11_50 rfl rfl rfl rfl (i_9_X7_init ?_)
  refine zz_putr (pc := 94) (g := gh_77) dX11_init_94 fX11_51 uX11_6 rfl (fun v => by cases v <;> exact ⟨rfl, rfl⟩) rfl ?_
  refine z_aload_n (pc := 97) dX11_init_97 rfl rfl ?_
  refine zz_new (pc := 98) (bc := 23) (bs := 155) (c := 5) (C := RX5) (T := TX5) (N := 11) (n := 39) (g := gh_78) dX11_init_98 rfl nX11_55 iX5 jX5 nh_77 rfl ?_
  refine z_dup (pc := 101) dX11_init_101 ?_
  refine y_C (pc := 102) (bc := 4) (bs := 34) (mc := 19) (ms := 121) (As := []) (rest := [.inr (some (0, 5, 39)), .inr (some (0, 11, 0))]) dX11_init_102 kX5_init lX11_57 rfl rfl rfl rfl (i_16_X5_init ?_)
  refine zz_putr (pc := 105) (g := gh_117) dX11_init_105 fX11_58 uX11_7 rfl (fun v => by cases v <;> exact ⟨rfl, rfl⟩) rfl ?_
  refine z_aload_n (pc := 108) dX11_init_108 rfl rfl ?_
  refine zz_new (pc := 109) (bc := 3) (bs := 30) (c := 0) (C := RX0) (T := TX0) (N := 4) (n := 59) (g := gh_118) dX11_init_109 rfl nX11_62 iX0 jX0 nh_117 rfl ?_
  refine z_dup (pc := 112) dX11_init_112 ?_
  refine y_D (pc := 113) (bc := 0) (bs := 0) (mc := 3) (ms := 30) (As := []) (rest := [.inr (some (0, 0, 59)), .inr (some (0, 11, 0))]) dX11_init_113 kX0_init lX11_64 rfl rfl rfl rfl (i_18_X0_init ?_)
  refine zz_putr (pc := 116) (g := gh_125) dX11_init_116 fX11_65 uX11_8 rfl (fun v => by cases v <;> exact ⟨rfl, rfl⟩) rfl ?_
  exact z_ret (pc := 119) dX11_init_119 rfl ⟨rfl, k⟩

def gh_126 : aH := stN gh_125 (0, 12)
theorem nh_126 : hN gh_126 = 64 := by rw [gh_126, nh_N, nh_125]
theorem az_126 : az gh_126 := by rw [gh_126]; exact az_N az_125
def gh_127 : aH := stN gh_126 (1, 8)
theorem nh_127 : hN gh_127 = 65 := by rw [gh_127, nh_N, nh_126]
theorem az_127 : az gh_127 := by rw [gh_127]; exact az_N az_126
def gh_128 : aH := stR gh_127 63 2 (some (1, 8, 64))
theorem nh_128 : hN gh_128 = 65 := by rw [gh_128, nh_R, nh_127]
theorem az_128 : az gh_128 := by rw [gh_128]; exact az_R az_127
def gh_129 : aH := stN gh_128 (1, 12)
theorem nh_129 : hN gh_129 = 66 := by rw [gh_129, nh_N, nh_128]
theorem az_129 : az gh_129 := by rw [gh_129]; exact az_N az_128
def gh_130 : aH := stR gh_129 63 4 (some (1, 12, 65))
theorem nh_130 : hN gh_130 = 66 := by rw [gh_130, nh_R, nh_129]
theorem az_130 : az gh_130 := by rw [gh_130]; exact az_R az_129
def gh_131 : aH := stN gh_130 (1, 12)
theorem nh_131 : hN gh_131 = 67 := by rw [gh_131, nh_N, nh_130]
theorem az_131 : az gh_131 := by rw [gh_131]; exact az_N az_130
def gh_132 : aH := stR gh_131 63 5 (some (1, 12, 66))
theorem nh_132 : hN gh_132 = 67 := by rw [gh_132, nh_R, nh_131]
theorem az_132 : az gh_132 := by rw [gh_132]; exact az_R az_131
def gh_133 : aH := stN gh_132 (1, 12)
theorem nh_133 : hN gh_133 = 68 := by rw [gh_133, nh_N, nh_132]
theorem az_133 : az gh_133 := by rw [gh_133]; exact az_N az_132
def gh_134 : aH := stR gh_133 63 6 (some (1, 12, 67))
theorem nh_134 : hN gh_134 = 68 := by rw [gh_134, nh_R, nh_133]
theorem az_134 : az gh_134 := by rw [gh_134]; exact az_R az_133
def gh_135 : aH := stN gh_134 (1, 576)
theorem nh_135 : hN gh_135 = 69 := by rw [gh_135, nh_N, nh_134]
theorem az_135 : az gh_135 := by rw [gh_135]; exact az_N az_134
def gh_136 : aH := stR gh_135 63 7 (some (1, 576, 68))
theorem nh_136 : hN gh_136 = 69 := by rw [gh_136, nh_R, nh_135]
theorem az_136 : az gh_136 := by rw [gh_136]; exact az_R az_135
def gh_137 : aH := stN gh_136 (1, 400)
theorem nh_137 : hN gh_137 = 70 := by rw [gh_137, nh_N, nh_136]
theorem az_137 : az gh_137 := by rw [gh_137]; exact az_N az_136
def gh_138 : aH := stR gh_137 63 9 (some (1, 400, 69))
theorem nh_138 : hN gh_138 = 70 := by rw [gh_138, nh_R, nh_137]
theorem az_138 : az gh_138 := by rw [gh_138]; exact az_R az_137
def gh_139 : aH := stN gh_138 (1, 400)
theorem nh_139 : hN gh_139 = 71 := by rw [gh_139, nh_N, nh_138]
theorem az_139 : az gh_139 := by rw [gh_139]; exact az_N az_138
def gh_140 : aH := stR gh_139 63 10 (some (1, 400, 70))
theorem nh_140 : hN gh_140 = 71 := by rw [gh_140, nh_R, nh_139]
theorem az_140 : az gh_140 := by rw [gh_140]; exact az_R az_139
def gh_141 : aH := stN gh_140 (1, 400)
theorem nh_141 : hN gh_141 = 72 := by rw [gh_141, nh_N, nh_140]
theorem az_141 : az gh_141 := by rw [gh_141]; exact az_N az_140
def gh_142 : aH := stR gh_141 63 11 (some (1, 400, 71))
theorem nh_142 : hN gh_142 = 72 := by rw [gh_142, nh_R, nh_141]
theorem az_142 : az gh_142 := by rw [gh_142]; exact az_R az_141
def gh_143 : aH := stN gh_142 (1, 400)
theorem nh_143 : hN gh_143 = 73 := by rw [gh_143, nh_N, nh_142]
theorem az_143 : az gh_143 := by rw [gh_143]; exact az_N az_142
def gh_144 : aH := stR gh_143 63 12 (some (1, 400, 72))
theorem nh_144 : hN gh_144 = 73 := by rw [gh_144, nh_R, nh_143]
theorem az_144 : az gh_144 := by rw [gh_144]; exact az_R az_143
def gh_145 : aH := stN gh_144 (2, 400)
theorem nh_145 : hN gh_145 = 74 := by rw [gh_145, nh_N, nh_144]
theorem az_145 : az gh_145 := by rw [gh_145]; exact az_N az_144
def gh_146 : aH := stR gh_145 63 13 (some (2, 400, 73))
theorem nh_146 : hN gh_146 = 74 := by rw [gh_146, nh_R, nh_145]
theorem az_146 : az gh_146 := by rw [gh_146]; exact az_R az_145
def gh_147 : aH := stN gh_146 (1, 4)
theorem nh_147 : hN gh_147 = 75 := by rw [gh_147, nh_N, nh_146]
theorem az_147 : az gh_147 := by rw [gh_147]; exact az_N az_146
def gh_148 : aH := stR gh_147 63 15 (some (1, 4, 74))
theorem nh_148 : hN gh_148 = 75 := by rw [gh_148, nh_R, nh_147]
theorem az_148 : az gh_148 := by rw [gh_148]; exact az_R az_147
def gh_149 : aH := stN gh_148 (1, 4)
theorem nh_149 : hN gh_149 = 76 := by rw [gh_149, nh_N, nh_148]
theorem az_149 : az gh_149 := by rw [gh_149]; exact az_N az_148
def gh_150 : aH := stR gh_149 63 16 (some (1, 4, 75))
theorem nh_150 : hN gh_150 = 76 := by rw [gh_150, nh_R, nh_149]
theorem az_150 : az gh_150 := by rw [gh_150]; exact az_R az_149
def gh_151 : aH := stN gh_150 (1, 4)
theorem nh_151 : hN gh_151 = 77 := by rw [gh_151, nh_N, nh_150]
theorem az_151 : az gh_151 := by rw [gh_151]; exact az_N az_150
def gh_152 : aH := stR gh_151 63 17 (some (1, 4, 76))
theorem nh_152 : hN gh_152 = 77 := by rw [gh_152, nh_R, nh_151]
theorem az_152 : az gh_152 := by rw [gh_152]; exact az_R az_151
def gh_153 : aH := stN gh_152 (1, 4)
theorem nh_153 : hN gh_153 = 78 := by rw [gh_153, nh_N, nh_152]
theorem az_153 : az gh_153 := by rw [gh_153]; exact az_N az_152
def gh_154 : aH := stR gh_153 63 18 (some (1, 4, 77))
theorem nh_154 : hN gh_154 = 78 := by rw [gh_154, nh_R, nh_153]
theorem az_154 : az gh_154 := by rw [gh_154]; exact az_R az_153
def gh_155 : aH := stN gh_154 (1, 24)
theorem nh_155 : hN gh_155 = 79 := by rw [gh_155, nh_N, nh_154]
theorem az_155 : az gh_155 := by rw [gh_155]; exact az_N az_154
def gh_156 : aH := stR gh_155 63 19 (some (1, 24, 78))
theorem nh_156 : hN gh_156 = 79 := by rw [gh_156, nh_R, nh_155]
theorem az_156 : az gh_156 := by rw [gh_156]; exact az_R az_155
def gh_157 : aH := stN gh_156 (1, 48)
theorem nh_157 : hN gh_157 = 80 := by rw [gh_157, nh_N, nh_156]
theorem az_157 : az gh_157 := by rw [gh_157]; exact az_N az_156
def gh_158 : aH := stR gh_157 63 20 (some (1, 48, 79))
theorem nh_158 : hN gh_158 = 80 := by rw [gh_158, nh_R, nh_157]
theorem az_158 : az gh_158 := by rw [gh_158]; exact az_R az_157
def gh_159 : aH := stN gh_158 (1, 416)
theorem nh_159 : hN gh_159 = 81 := by rw [gh_159, nh_N, nh_158]
theorem az_159 : az gh_159 := by rw [gh_159]; exact az_N az_158
def gh_160 : aH := stR gh_159 63 21 (some (1, 416, 80))
theorem nh_160 : hN gh_160 = 81 := by rw [gh_160, nh_R, nh_159]
theorem az_160 : az gh_160 := by rw [gh_160]; exact az_R az_159
def gh_161 : aH := stN gh_160 (1, 4)
theorem nh_161 : hN gh_161 = 82 := by rw [gh_161, nh_N, nh_160]
theorem az_161 : az gh_161 := by rw [gh_161]; exact az_N az_160
def gh_162 : aH := stR gh_161 63 24 (some (1, 4, 81))
theorem nh_162 : hN gh_162 = 82 := by rw [gh_162, nh_R, nh_161]
theorem az_162 : az gh_162 := by rw [gh_162]; exact az_R az_161
def gh_163 : aH := stN gh_162 (1, 4)
theorem nh_163 : hN gh_163 = 83 := by rw [gh_163, nh_N, nh_162]
theorem az_163 : az gh_163 := by rw [gh_163]; exact az_N az_162
def gh_164 : aH := stR gh_163 63 25 (some (1, 4, 82))
theorem nh_164 : hN gh_164 = 83 := by rw [gh_164, nh_R, nh_163]
theorem az_164 : az gh_164 := by rw [gh_164]; exact az_R az_163
def gh_165 : aH := stN gh_164 (1, 48)
theorem nh_165 : hN gh_165 = 84 := by rw [gh_165, nh_N, nh_164]
theorem az_165 : az gh_165 := by rw [gh_165]; exact az_N az_164
def gh_166 : aH := stR gh_165 63 26 (some (1, 48, 83))
theorem nh_166 : hN gh_166 = 84 := by rw [gh_166, nh_R, nh_165]
theorem az_166 : az gh_166 := by rw [gh_166]; exact az_R az_165
def gh_167 : aH := stN gh_166 (2, 72)
theorem nh_167 : hN gh_167 = 85 := by rw [gh_167, nh_N, nh_166]
theorem az_167 : az gh_167 := by rw [gh_167]; exact az_N az_166
def gh_168 : aH := stR gh_167 63 27 (some (2, 72, 84))
theorem nh_168 : hN gh_168 = 85 := by rw [gh_168, nh_R, nh_167]
theorem az_168 : az gh_168 := by rw [gh_168]; exact az_R az_167
def gh_169 : aH := stN gh_168 (1, 60)
theorem nh_169 : hN gh_169 = 86 := by rw [gh_169, nh_N, nh_168]
theorem az_169 : az gh_169 := by rw [gh_169]; exact az_N az_168
def gh_170 : aH := stR gh_169 63 28 (some (1, 60, 85))
theorem nh_170 : hN gh_170 = 86 := by rw [gh_170, nh_R, nh_169]
theorem az_170 : az gh_170 := by rw [gh_170]; exact az_R az_169
def gh_171 : aH := stN gh_170 (1, 60)
theorem nh_171 : hN gh_171 = 87 := by rw [gh_171, nh_N, nh_170]
theorem az_171 : az gh_171 := by rw [gh_171]; exact az_N az_170
def gh_172 : aH := stR gh_171 63 29 (some (1, 60, 86))
theorem nh_172 : hN gh_172 = 87 := by rw [gh_172, nh_R, nh_171]
theorem az_172 : az gh_172 := by rw [gh_172]; exact az_R az_171
def gh_173 : aH := stN gh_172 (1, 4)
theorem nh_173 : hN gh_173 = 88 := by rw [gh_173, nh_N, nh_172]
theorem az_173 : az gh_173 := by rw [gh_173]; exact az_N az_172
def gh_174 : aH := stR gh_173 63 30 (some (1, 4, 87))
theorem nh_174 : hN gh_174 = 88 := by rw [gh_174, nh_R, nh_173]
theorem az_174 : az gh_174 := by rw [gh_174]; exact az_R az_173
def gh_175 : aH := stN gh_174 (1, 12)
theorem nh_175 : hN gh_175 = 89 := by rw [gh_175, nh_N, nh_174]
theorem az_175 : az gh_175 := by rw [gh_175]; exact az_N az_174
def gh_176 : aH := stR gh_175 63 31 (some (1, 12, 88))
theorem nh_176 : hN gh_176 = 89 := by rw [gh_176, nh_R, nh_175]
theorem az_176 : az gh_176 := by rw [gh_176]; exact az_R az_175
def gh_177 : aH := stN gh_176 (1, 12)
theorem nh_177 : hN gh_177 = 90 := by rw [gh_177, nh_N, nh_176]
theorem az_177 : az gh_177 := by rw [gh_177]; exact az_N az_176
def gh_178 : aH := stR gh_177 63 32 (some (1, 12, 89))
theorem nh_178 : hN gh_178 = 90 := by rw [gh_178, nh_R, nh_177]
theorem az_178 : az gh_178 := by rw [gh_178]; exact az_R az_177
def gh_179 : aH := stN gh_178 (1, 12)
theorem nh_179 : hN gh_179 = 91 := by rw [gh_179, nh_N, nh_178]
theorem az_179 : az gh_179 := by rw [gh_179]; exact az_N az_178
def gh_180 : aH := stR gh_179 63 33 (some (1, 12, 90))
theorem nh_180 : hN gh_180 = 91 := by rw [gh_180, nh_R, nh_179]
theorem az_180 : az gh_180 := by rw [gh_180]; exact az_R az_179
def gh_181 : aH := stN gh_180 (2, 90)
theorem nh_181 : hN gh_181 = 92 := by rw [gh_181, nh_N, nh_180]
theorem az_181 : az gh_181 := by rw [gh_181]; exact az_N az_180
def gh_182 : aH := stR gh_181 63 34 (some (2, 90, 91))
theorem nh_182 : hN gh_182 = 92 := by rw [gh_182, nh_R, nh_181]
theorem az_182 : az gh_182 := by rw [gh_182]; exact az_R az_181
def gh_183 : aH := stN gh_182 (1, 1080)
theorem nh_183 : hN gh_183 = 93 := by rw [gh_183, nh_N, nh_182]
theorem az_183 : az gh_183 := by rw [gh_183]; exact az_N az_182
def gh_184 : aH := stR gh_183 63 35 (some (1, 1080, 92))
theorem nh_184 : hN gh_184 = 93 := by rw [gh_184, nh_R, nh_183]
theorem az_184 : az gh_184 := by rw [gh_184]; exact az_R az_183
def gh_185 : aH := stN gh_184 (1, 6)
theorem nh_185 : hN gh_185 = 94 := by rw [gh_185, nh_N, nh_184]
theorem az_185 : az gh_185 := by rw [gh_185]; exact az_N az_184
def gh_186 : aH := stR gh_185 63 36 (some (1, 6, 93))
theorem nh_186 : hN gh_186 = 94 := by rw [gh_186, nh_R, nh_185]
theorem az_186 : az gh_186 := by rw [gh_186]; exact az_R az_185
def gh_187 : aH := stN gh_186 (1, 6)
theorem nh_187 : hN gh_187 = 95 := by rw [gh_187, nh_N, nh_186]
theorem az_187 : az gh_187 := by rw [gh_187]; exact az_N az_186
def gh_188 : aH := stR gh_187 63 37 (some (1, 6, 94))
theorem nh_188 : hN gh_188 = 95 := by rw [gh_188, nh_R, nh_187]
theorem az_188 : az gh_188 := by rw [gh_188]; exact az_R az_187
def gh_189 : aH := stN gh_188 (1, 4)
theorem nh_189 : hN gh_189 = 96 := by rw [gh_189, nh_N, nh_188]
theorem az_189 : az gh_189 := by rw [gh_189]; exact az_N az_188
def gh_190 : aH := stR gh_189 63 39 (some (1, 4, 95))
theorem nh_190 : hN gh_190 = 96 := by rw [gh_190, nh_R, nh_189]
theorem az_190 : az gh_190 := by rw [gh_190]; exact az_R az_189
def gh_191 : aH := stN gh_190 (1, 4)
theorem nh_191 : hN gh_191 = 97 := by rw [gh_191, nh_N, nh_190]
theorem az_191 : az gh_191 := by rw [gh_191]; exact az_N az_190
def gh_192 : aH := stR gh_191 63 40 (some (1, 4, 96))
theorem nh_192 : hN gh_192 = 97 := by rw [gh_192, nh_R, nh_191]
theorem az_192 : az gh_192 := by rw [gh_192]; exact az_R az_191
def gh_193 : aH := stN gh_192 (1, 4)
theorem nh_193 : hN gh_193 = 98 := by rw [gh_193, nh_N, nh_192]
theorem az_193 : az gh_193 := by rw [gh_193]; exact az_N az_192
def gh_194 : aH := stR gh_193 63 41 (some (1, 4, 97))
theorem nh_194 : hN gh_194 = 98 := by rw [gh_194, nh_R, nh_193]
theorem az_194 : az gh_194 := by rw [gh_194]; exact az_R az_193
def gh_195 : aH := stN gh_194 (1, 4)
theorem nh_195 : hN gh_195 = 99 := by rw [gh_195, nh_N, nh_194]
theorem az_195 : az gh_195 := by rw [gh_195]; exact az_N az_194
def gh_196 : aH := stR gh_195 63 42 (some (1, 4, 98))
theorem nh_196 : hN gh_196 = 99 := by rw [gh_196, nh_R, nh_195]
theorem az_196 : az gh_196 := by rw [gh_196]; exact az_R az_195
set_option maxRecDepth 20000 in
theorem i_20_X12_init {l : Launch} {E : eE} {d : Nat} {K : aH → Prop} (k : TV l E mX12_init (d + 1) 0 0 283 [some (.inr (some (0, 12, 63))), some (.inl (nI 0))] [] gh_196 K) : CV l E (d + 1) 35 4610 mX12_init [.inr (some (0, 12, 63))] gh_126 K := by
  refine CV.of (by decide) rfl ?_
  show TV l E mX12_init (d + 1) 35 4610 0 [some (.inr (some (0, 12, 63))), none] [] gh_126 K
  refine z_aload_n (pc := 0) dX12_init_0 rfl rfl ?_
  refine z_obj (pc := 1) dX12_init_1 lX12_7 l_obj2 l_obj3 rfl ?_
  refine z_aload_n (pc := 4) dX12_init_4 rfl rfl ?_
  refine z_bipush (pc := 5) (v := (nI 8)) dX12_init_5 (by decide) ?_
  refine zz_newa (pc := 7) (bc := 34) (bs := 4602) (k := 1) (n := 8) (m := 64) (g := gh_127) dX12_init_7 rfl rfl rfl w_arr1 (by decide) (by decide) (by decide) rfl nh_126 rfl ?_
  refine zz_putr (pc := 9) (g := gh_128) dX12_init_9 fX12_13 uX12_2 rfl (fun v => by cases v <;> exact ⟨rfl, rfl⟩) rfl ?_
  refine z_aload_n (pc := 12) dX12_init_12 rfl rfl ?_
  refine z_bipush (pc := 13) (v := (nI 12)) dX12_init_13 (by decide) ?_
  refine zz_newa (pc := 15) (bc := 33) (bs := 4590) (k := 1) (n := 12) (m := 65) (g := gh_129) dX12_init_15 rfl rfl rfl w_arr1 (by decide) (by decide) (by decide) rfl nh_128 rfl ?_
  refine zz_putr (pc := 17) (g := gh_130) dX12_init_17 fX12_17 uX12_4 rfl (fun v => by cases v <;> exact ⟨rfl, rfl⟩) rfl ?_
  refine z_aload_n (pc := 20) dX12_init_20 rfl rfl ?_
  refine z_bipush (pc := 21) (v := (nI 12)) dX12_init_21 (by decide) ?_
  refine zz_newa (pc := 23) (bc := 32) (bs := 4578) (k := 1) (n := 12) (m := 66) (g := gh_131) dX12_init_23 rfl rfl rfl w_arr1 (by decide) (by decide) (by decide) rfl nh_130 rfl ?_
  refine zz_putr (pc := 25) (g := gh_132) dX12_init_25 fX12_20 uX12_5 rfl (fun v => by cases v <;> exact ⟨rfl, rfl⟩) rfl ?_
  refine z_aload_n (pc := 28) dX12_init_28 rfl rfl ?_
  refine z_bipush (pc := 29) (v := (nI 12)) dX12_init_29 (by decide) ?_
  refine zz_newa (pc := 31) (bc := 31) (bs := 4566) (k := 1) (n := 12) (m := 67) (g := gh_133) dX12_init_31 rfl rfl rfl w_arr1 (by decide) (by decide) (by decide) rfl nh_132 rfl ?_
  refine zz_putr (pc := 33) (g := gh_134) dX12_init_33 fX12_23 uX12_6 rfl (fun v => by cases v <;> exact ⟨rfl, rfl⟩) rfl ?_
  refine z_aload_n (pc := 36) dX12_init_36 rfl rfl ?_
  refine z_sipush (pc := 37) (v := (nI 576)) dX12_init_37 (by decide) ?_
  refine zz_newa (pc := 40) (bc := 30) (bs := 3990) (k := 1) (n := 576) (m := 68) (g := gh_135) dX12_init_40 rfl rfl rfl w_arr1 (by decide) (by decide) (by decide) rfl nh_134 rfl ?_
  refine zz_putr (pc := 42) (g := gh_136) dX12_init_42 fX12_26 uX12_7 rfl (fun v => by cases v <;> exact ⟨rfl, rfl⟩) rfl ?_
  refine z_aload_n (pc := 45) dX12_init_45 rfl rfl ?_
  refine z_sipush (pc := 46) (v := (nI 400)) dX12_init_46 (by decide) ?_
  refine zz_newa (pc := 49) (bc := 29) (bs := 3590) (k := 1) (n := 400) (m := 69) (g := gh_137) dX12_init_49 rfl rfl rfl w_arr1 (by decide) (by decide) (by decide) rfl nh_136 rfl ?_
  refine zz_putr (pc := 51) (g := gh_138) dX12_init_51 fX12_29 uX12_9 rfl (fun v => by cases v <;> exact ⟨rfl, rfl⟩) rfl ?_
  refine z_aload_n (pc := 54) dX12_init_54 rfl rfl ?_
  refine z_sipush (pc := 55) (v := (nI 400)) dX12_init_55 (by decide) ?_
  refine zz_newa (pc := 58) (bc := 28) (bs := 3190) (k := 1) (n := 400) (m := 70) (g := gh_139) dX12_init_58 rfl rfl rfl w_arr1 (by decide) (by decide) (by decide) rfl nh_138 rfl ?_
  refine zz_putr (pc := 60) (g := gh_140) dX12_init_60 fX12_32 uX12_10 rfl (fun v => by cases v <;> exact ⟨rfl, rfl⟩) rfl ?_
  refine z_aload_n (pc := 63) dX12_init_63 rfl rfl ?_
  refine z_sipush (pc := 64) (v := (nI 400)) dX12_init_64 (by decide) ?_
  refine zz_newa (pc := 67) (bc := 27) (bs := 2790) (k := 1) (n := 400) (m := 71) (g := gh_141) dX12_init_67 rfl rfl rfl w_arr1 (by decide) (by decide) (by decide) rfl nh_140 rfl ?_
  refine zz_putr (pc := 69) (g := gh_142) dX12_init_69 fX12_35 uX12_11 rfl (fun v => by cases v <;> exact ⟨rfl, rfl⟩) rfl ?_
  refine z_aload_n (pc := 72) dX12_init_72 rfl rfl ?_
  refine z_sipush (pc := 73) (v := (nI 400)) dX12_init_73 (by decide) ?_
  refine zz_newa (pc := 76) (bc := 26) (bs := 2390) (k := 1) (n := 400) (m := 72) (g := gh_143) dX12_init_76 rfl rfl rfl w_arr1 (by decide) (by decide) (by decide) rfl nh_142 rfl ?_
  refine zz_putr (pc := 78) (g := gh_144) dX12_init_78 fX12_38 uX12_12 rfl (fun v => by cases v <;> exact ⟨rfl, rfl⟩) rfl ?_
  refine z_aload_n (pc := 81) dX12_init_81 rfl rfl ?_
  refine z_sipush (pc := 82) (v := (nI 400)) dX12_init_82 (by decide) ?_
  refine zz_newa (pc := 85) (bc := 25) (bs := 1990) (k := 2) (n := 400) (m := 73) (g := gh_145) dX12_init_85 rfl rfl rfl w_arr2 (by decide) (by decide) (by decide) rfl nh_144 rfl ?_
  refine zz_putr (pc := 87) (g := gh_146) dX12_init_87 fX12_41 uX12_13 rfl (fun v => by cases v <;> exact ⟨rfl, rfl⟩) rfl ?_
  refine z_aload_n (pc := 90) dX12_init_90 rfl rfl ?_
  refine z_iconst (pc := 91) (v := (nI 4)) dX12_init_91 (by decide) ?_
  refine zz_newa (pc := 92) (bc := 24) (bs := 1986) (k := 1) (n := 4) (m := 74) (g := gh_147) dX12_init_92 rfl rfl rfl w_arr1 (by decide) (by decide) (by decide) rfl nh_146 rfl ?_
  refine zz_putr (pc := 94) (g := gh_148) dX12_init_94 fX12_45 uX12_15 rfl (fun v => by cases v <;> exact ⟨rfl, rfl⟩) rfl ?_
  refine z_aload_n (pc := 97) dX12_init_97 rfl rfl ?_
  refine z_iconst (pc := 98) (v := (nI 4)) dX12_init_98 (by decide) ?_
  refine zz_newa (pc := 99) (bc := 23) (bs := 1982) (k := 1) (n := 4) (m := 75) (g := gh_149) dX12_init_99 rfl rfl rfl w_arr1 (by decide) (by decide) (by decide) rfl nh_148 rfl ?_
  refine zz_putr (pc := 101) (g := gh_150) dX12_init_101 fX12_48 uX12_16 rfl (fun v => by cases v <;> exact ⟨rfl, rfl⟩) rfl ?_
  refine z_aload_n (pc := 104) dX12_init_104 rfl rfl ?_
  refine z_iconst (pc := 105) (v := (nI 4)) dX12_init_105 (by decide) ?_
  refine zz_newa (pc := 106) (bc := 22) (bs := 1978) (k := 1) (n := 4) (m := 76) (g := gh_151) dX12_init_106 rfl rfl rfl w_arr1 (by decide) (by decide) (by decide) rfl nh_150 rfl ?_
  refine zz_putr (pc := 108) (g := gh_152) dX12_init_108 fX12_51 uX12_17 rfl (fun v => by cases v <;> exact ⟨rfl, rfl⟩) rfl ?_
  refine z_aload_n (pc := 111) dX12_init_111 rfl rfl ?_
  refine z_iconst (pc := 112) (v := (nI 4)) dX12_init_112 (by decide) ?_
  refine zz_newa (pc := 113) (bc := 21) (bs := 1974) (k := 1) (n := 4) (m := 77) (g := gh_153) dX12_init_113 rfl rfl rfl w_arr1 (by decide) (by decide) (by decide) rfl nh_152 rfl ?_
  refine zz_putr (pc := 115) (g := gh_154) dX12_init_115 fX12_54 uX12_18 rfl (fun v => by cases v <;> exact ⟨rfl, rfl⟩) rfl ?_
  refine z_aload_n (pc := 118) dX12_init_118 rfl rfl ?_
  refine z_bipush (pc := 119) (v := (nI 24)) dX12_init_119 (by decide) ?_
  refine zz_newa (pc := 121) (bc := 20) (bs := 1950) (k := 1) (n := 24) (m := 78) (g := gh_155) dX12_init_121 rfl rfl rfl w_arr1 (by decide) (by decide) (by decide) rfl nh_154 rfl ?_
  refine zz_putr (pc := 123) (g := gh_156) dX12_init_123 fX12_57 uX12_19 rfl (fun v => by cases v <;> exact ⟨rfl, rfl⟩) rfl ?_
  refine z_aload_n (pc := 126) dX12_init_126 rfl rfl ?_
  refine z_bipush (pc := 127) (v := (nI 48)) dX12_init_127 (by decide) ?_
  refine zz_newa (pc := 129) (bc := 19) (bs := 1902) (k := 1) (n := 48) (m := 79) (g := gh_157) dX12_init_129 rfl rfl rfl w_arr1 (by decide) (by decide) (by decide) rfl nh_156 rfl ?_
  refine zz_putr (pc := 131) (g := gh_158) dX12_init_131 fX12_60 uX12_20 rfl (fun v => by cases v <;> exact ⟨rfl, rfl⟩) rfl ?_
  refine z_aload_n (pc := 134) dX12_init_134 rfl rfl ?_
  refine z_sipush (pc := 135) (v := (nI 416)) dX12_init_135 (by decide) ?_
  refine zz_newa (pc := 138) (bc := 18) (bs := 1486) (k := 1) (n := 416) (m := 80) (g := gh_159) dX12_init_138 rfl rfl rfl w_arr1 (by decide) (by decide) (by decide) rfl nh_158 rfl ?_
  refine zz_putr (pc := 140) (g := gh_160) dX12_init_140 fX12_63 uX12_21 rfl (fun v => by cases v <;> exact ⟨rfl, rfl⟩) rfl ?_
  refine z_aload_n (pc := 143) dX12_init_143 rfl rfl ?_
  refine z_iconst (pc := 144) (v := (nI 4)) dX12_init_144 (by decide) ?_
  refine zz_newa (pc := 145) (bc := 17) (bs := 1482) (k := 1) (n := 4) (m := 81) (g := gh_161) dX12_init_145 rfl rfl rfl w_arr1 (by decide) (by decide) (by decide) rfl nh_160 rfl ?_
  refine zz_putr (pc := 147) (g := gh_162) dX12_init_147 fX12_66 uX12_24 rfl (fun v => by cases v <;> exact ⟨rfl, rfl⟩) rfl ?_
  refine z_aload_n (pc := 150) dX12_init_150 rfl rfl ?_
  refine z_iconst (pc := 151) (v := (nI 4)) dX12_init_151 (by decide) ?_
  refine zz_newa (pc := 152) (bc := 16) (bs := 1478) (k := 1) (n := 4) (m := 82) (g := gh_163) dX12_init_152 rfl rfl rfl w_arr1 (by decide) (by decide) (by decide) rfl nh_162 rfl ?_
  refine zz_putr (pc := 154) (g := gh_164) dX12_init_154 fX12_69 uX12_25 rfl (fun v => by cases v <;> exact ⟨rfl, rfl⟩) rfl ?_
  refine z_aload_n (pc := 157) dX12_init_157 rfl rfl ?_
  refine z_bipush (pc := 158) (v := (nI 48)) dX12_init_158 (by decide) ?_
  refine zz_newa (pc := 160) (bc := 15) (bs := 1430) (k := 1) (n := 48) (m := 83) (g := gh_165) dX12_init_160 rfl rfl rfl w_arr1 (by decide) (by decide) (by decide) rfl nh_164 rfl ?_
  refine zz_putr (pc := 162) (g := gh_166) dX12_init_162 fX12_72 uX12_26 rfl (fun v => by cases v <;> exact ⟨rfl, rfl⟩) rfl ?_
  refine z_aload_n (pc := 165) dX12_init_165 rfl rfl ?_
  refine z_bipush (pc := 166) (v := (nI 72)) dX12_init_166 (by decide) ?_
  refine zz_newa (pc := 168) (bc := 14) (bs := 1358) (k := 2) (n := 72) (m := 84) (g := gh_167) dX12_init_168 rfl rfl rfl w_arr2 (by decide) (by decide) (by decide) rfl nh_166 rfl ?_
  refine zz_putr (pc := 170) (g := gh_168) dX12_init_170 fX12_75 uX12_27 rfl (fun v => by cases v <;> exact ⟨rfl, rfl⟩) rfl ?_
  refine z_aload_n (pc := 173) dX12_init_173 rfl rfl ?_
  refine z_bipush (pc := 174) (v := (nI 60)) dX12_init_174 (by decide) ?_
  refine zz_newa (pc := 176) (bc := 13) (bs := 1298) (k := 1) (n := 60) (m := 85) (g := gh_169) dX12_init_176 rfl rfl rfl w_arr1 (by decide) (by decide) (by decide) rfl nh_168 rfl ?_
  refine zz_putr (pc := 178) (g := gh_170) dX12_init_178 fX12_78 uX12_28 rfl (fun v => by cases v <;> exact ⟨rfl, rfl⟩) rfl ?_
  refine z_aload_n (pc := 181) dX12_init_181 rfl rfl ?_
  refine z_bipush (pc := 182) (v := (nI 60)) dX12_init_182 (by decide) ?_
  refine zz_newa (pc := 184) (bc := 12) (bs := 1238) (k := 1) (n := 60) (m := 86) (g := gh_171) dX12_init_184 rfl rfl rfl w_arr1 (by decide) (by decide) (by decide) rfl nh_170 rfl ?_
  refine zz_putr (pc := 186) (g := gh_172) dX12_init_186 fX12_81 uX12_29 rfl (fun v => by cases v <;> exact ⟨rfl, rfl⟩) rfl ?_
  refine z_aload_n (pc := 189) dX12_init_189 rfl rfl ?_
  refine z_iconst (pc := 190) (v := (nI 4)) dX12_init_190 (by decide) ?_
  refine zz_newa (pc := 191) (bc := 11) (bs := 1234) (k := 1) (n := 4) (m := 87) (g := gh_173) dX12_init_191 rfl rfl rfl w_arr1 (by decide) (by decide) (by decide) rfl nh_172 rfl ?_
  refine zz_putr (pc := 193) (g := gh_174) dX12_init_193 fX12_84 uX12_30 rfl (fun v => by cases v <;> exact ⟨rfl, rfl⟩) rfl ?_
  refine z_aload_n (pc := 196) dX12_init_196 rfl rfl ?_
  refine z_bipush (pc := 197) (v := (nI 12)) dX12_init_197 (by decide) ?_
  refine zz_newa (pc := 199) (bc := 10) (bs := 1222) (k := 1) (n := 12) (m := 88) (g := gh_175) dX12_init_199 rfl rfl rfl w_arr1 (by decide) (by decide) (by decide) rfl nh_174 rfl ?_
  refine zz_putr (pc := 201) (g := gh_176) dX12_init_201 fX12_87 uX12_31 rfl (fun v => by cases v <;> exact ⟨rfl, rfl⟩) rfl ?_
  refine z_aload_n (pc := 204) dX12_init_204 rfl rfl ?_
  refine z_bipush (pc := 205) (v := (nI 12)) dX12_init_205 (by decide) ?_
  refine zz_newa (pc := 207) (bc := 9) (bs := 1210) (k := 1) (n := 12) (m := 89) (g := gh_177) dX12_init_207 rfl rfl rfl w_arr1 (by decide) (by decide) (by decide) rfl nh_176 rfl ?_
  refine zz_putr (pc := 209) (g := gh_178) dX12_init_209 fX12_90 uX12_32 rfl (fun v => by cases v <;> exact ⟨rfl, rfl⟩) rfl ?_
  refine z_aload_n (pc := 212) dX12_init_212 rfl rfl ?_
  refine z_bipush (pc := 213) (v := (nI 12)) dX12_init_213 (by decide) ?_
  refine zz_newa (pc := 215) (bc := 8) (bs := 1198) (k := 1) (n := 12) (m := 90) (g := gh_179) dX12_init_215 rfl rfl rfl w_arr1 (by decide) (by decide) (by decide) rfl nh_178 rfl ?_
  refine zz_putr (pc := 217) (g := gh_180) dX12_init_217 fX12_93 uX12_33 rfl (fun v => by cases v <;> exact ⟨rfl, rfl⟩) rfl ?_
  refine z_aload_n (pc := 220) dX12_init_220 rfl rfl ?_
  refine z_bipush (pc := 221) (v := (nI 90)) dX12_init_221 (by decide) ?_
  refine zz_newa (pc := 223) (bc := 7) (bs := 1108) (k := 2) (n := 90) (m := 91) (g := gh_181) dX12_init_223 rfl rfl rfl w_arr2 (by decide) (by decide) (by decide) rfl nh_180 rfl ?_
  refine zz_putr (pc := 225) (g := gh_182) dX12_init_225 fX12_96 uX12_34 rfl (fun v => by cases v <;> exact ⟨rfl, rfl⟩) rfl ?_
  refine z_aload_n (pc := 228) dX12_init_228 rfl rfl ?_
  refine z_sipush (pc := 229) (v := (nI 1080)) dX12_init_229 (by decide) ?_
  refine zz_newa (pc := 232) (bc := 6) (bs := 28) (k := 1) (n := 1080) (m := 92) (g := gh_183) dX12_init_232 rfl rfl rfl w_arr1 (by decide) (by decide) (by decide) rfl nh_182 rfl ?_
  refine zz_putr (pc := 234) (g := gh_184) dX12_init_234 fX12_99 uX12_35 rfl (fun v => by cases v <;> exact ⟨rfl, rfl⟩) rfl ?_
  refine z_aload_n (pc := 237) dX12_init_237 rfl rfl ?_
  refine z_bipush (pc := 238) (v := (nI 6)) dX12_init_238 (by decide) ?_
  refine zz_newa (pc := 240) (bc := 5) (bs := 22) (k := 1) (n := 6) (m := 93) (g := gh_185) dX12_init_240 rfl rfl rfl w_arr1 (by decide) (by decide) (by decide) rfl nh_184 rfl ?_
  refine zz_putr (pc := 242) (g := gh_186) dX12_init_242 fX12_102 uX12_36 rfl (fun v => by cases v <;> exact ⟨rfl, rfl⟩) rfl ?_
  refine z_aload_n (pc := 245) dX12_init_245 rfl rfl ?_
  refine z_bipush (pc := 246) (v := (nI 6)) dX12_init_246 (by decide) ?_
  refine zz_newa (pc := 248) (bc := 4) (bs := 16) (k := 1) (n := 6) (m := 94) (g := gh_187) dX12_init_248 rfl rfl rfl w_arr1 (by decide) (by decide) (by decide) rfl nh_186 rfl ?_
  refine zz_putr (pc := 250) (g := gh_188) dX12_init_250 fX12_105 uX12_37 rfl (fun v => by cases v <;> exact ⟨rfl, rfl⟩) rfl ?_
  refine z_aload_n (pc := 253) dX12_init_253 rfl rfl ?_
  refine z_iconst (pc := 254) (v := (nI 4)) dX12_init_254 (by decide) ?_
  refine zz_newa (pc := 255) (bc := 3) (bs := 12) (k := 1) (n := 4) (m := 95) (g := gh_189) dX12_init_255 rfl rfl rfl w_arr1 (by decide) (by decide) (by decide) rfl nh_188 rfl ?_
  refine zz_putr (pc := 257) (g := gh_190) dX12_init_257 fX12_108 uX12_39 rfl (fun v => by cases v <;> exact ⟨rfl, rfl⟩) rfl ?_
  refine z_aload_n (pc := 260) dX12_init_260 rfl rfl ?_
  refine z_iconst (pc := 261) (v := (nI 4)) dX12_init_261 (by decide) ?_
  refine zz_newa (pc := 262) (bc := 2) (bs := 8) (k := 1) (n := 4) (m := 96) (g := gh_191) dX12_init_262 rfl rfl rfl w_arr1 (by decide) (by decide) (by decide) rfl nh_190 rfl ?_
  refine zz_putr (pc := 264) (g := gh_192) dX12_init_264 fX12_111 uX12_40 rfl (fun v => by cases v <;> exact ⟨rfl, rfl⟩) rfl ?_
  refine z_aload_n (pc := 267) dX12_init_267 rfl rfl ?_
  refine z_iconst (pc := 268) (v := (nI 4)) dX12_init_268 (by decide) ?_
  refine zz_newa (pc := 269) (bc := 1) (bs := 4) (k := 1) (n := 4) (m := 97) (g := gh_193) dX12_init_269 rfl rfl rfl w_arr1 (by decide) (by decide) (by decide) rfl nh_192 rfl ?_
  refine zz_putr (pc := 271) (g := gh_194) dX12_init_271 fX12_114 uX12_41 rfl (fun v => by cases v <;> exact ⟨rfl, rfl⟩) rfl ?_
  refine z_aload_n (pc := 274) dX12_init_274 rfl rfl ?_
  refine z_iconst (pc := 275) (v := (nI 4)) dX12_init_275 (by decide) ?_
  refine zz_newa (pc := 276) (bc := 0) (bs := 0) (k := 1) (n := 4) (m := 98) (g := gh_195) dX12_init_276 rfl rfl rfl w_arr1 (by decide) (by decide) (by decide) rfl nh_194 rfl ?_
  refine zz_putr (pc := 278) (g := gh_196) dX12_init_278 fX12_117 uX12_42 rfl (fun v => by cases v <;> exact ⟨rfl, rfl⟩) rfl ?_
  refine z_iconst (pc := 281) (v := (nI 0)) dX12_init_281 (by decide) ?_
  refine z_istore_n (pc := 282) (ls' := [some (.inr (some (0, 12, 63))), some (.inl (nI 0))]) dX12_init_282 rfl rfl rfl ?_
  exact k

abbrev gM : aH := gh_196
abbrev LX12_init_283 (l : Launch) (E : eE) (d bc bs : Nat) (x1 : Int32) (h : aH) (Q : aH → Prop) : Prop := TV l E mX12_init d bc bs 283 [some (.inr (some (0, 12, 63))), some (.inl x1)] [] h Q

set_option maxRecDepth 20000 in
theorem bX12_init_283 {l : Launch} {E : eE} {d bc bs : Nat} {h : aH} {Q : aH → Prop} {x1 : Int32} (S : SH h) (H : (((nI 416) ≤ x1 → Q h) ∧ (¬ (nI 416) ≤ x1 → (vp_in x1 416 ∧ LX12_init_283 l E (d + 1) bc bs (x1 + (nI 1)) (stA h 80 (x1).toNatClampNeg (-1)) Q)))) : LX12_init_283 l E (d + 1) bc bs x1 h Q := by
  refine z_iload_n (pc := 283) dX12_init_283 rfl rfl ?_
  refine z_sipush (pc := 284) (v := (nI 416)) dX12_init_284 (by decide) ?_
  refine z_icmp_ge (pc := 287) (tgt := 303) dX12_init_287 (by decide) (fun c1 => ?_) (fun c1 => ?_)
  · replace H := H.1 c1
    exact z_ret (pc := 303) dX12_init_303 rfl ⟨rfl, H⟩
  · replace H := H.2 c1
    refine z_aload_n (pc := 290) dX12_init_290 rfl rfl ?_
    refine z_getk (pc := 291) dX12_init_291 fX12_63 rfl (s_63_21 S) ?_
    refine z_iload_n (pc := 294) dX12_init_294 rfl rfl ?_
    refine z_iconst (pc := 295) (v := (-1)) dX12_init_295 (by decide) ?_
    have c2 := H.1
    replace H := H.2
    refine z_iast (pc := 296) dX12_init_296 c2 ?_
    refine z_iinc (pc := 297) (v := (x1 + (nI 1))) (ls' := [some (.inr (some (0, 12, 63))), some (.inl (x1 + (nI 1)))]) dX12_init_297 rfl (by rw [show Int32.ofInt (1) = (nI 1) by decide]) rfl ?_
    refine z_goto (pc := 300) (tgt := 283) dX12_init_300 (by decide) ?_
    exact H

set_option maxRecDepth 20000 in
theorem sh_gM : SH gM := ⟨by decide +kernel, by decide +kernel, by decide +kernel⟩
def gF (i : Nat) : aH := stAA gM 80 (fun j => if j < i then -1 else 0)
abbrev gL : aH := gF 416
theorem gF_0 : gF 0 = gM := by
  have e : up1 (hA gM) 80 (fun j => if j < 0 then -1 else 0) = hA gM := by
    rw [az_196.1]
    funext a b
    unfold up1
    split
    · exact if_neg (Nat.not_lt_zero b)
    · rfl
  show (gM.1, gM.2.1, up1 (hA gM) 80 (fun j => if j < 0 then -1 else 0), gM.2.2.2) = gM
  rw [e]
theorem gF_s (i : Nat) : stA (gF i) 80 i (-1) = gF (i + 1) := by
  have e : up2 (up1 (hA gM) 80 (fun j => if j < i then -1 else 0)) 80 i (-1) = up1 (hA gM) 80 (fun j => if j < i + 1 then -1 else 0) := by
    funext a b
    unfold up2 up1
    by_cases c : a = 80
    · by_cases c2 : b = i
      · rw [if_pos ⟨c, c2⟩, if_pos c, if_pos (by omega)]
      · rw [if_neg (fun z => c2 z.2), if_pos c, if_pos c]
        by_cases c3 : b < i
        · rw [if_pos c3, if_pos (by omega)]
        · rw [if_neg c3, if_neg (by omega)]
    · rw [if_neg (fun z => c z.1), if_neg c, if_neg c]
  show (gM.1, gM.2.1, up2 (up1 (hA gM) 80 (fun j => if j < i then -1 else 0)) 80 i (-1), gM.2.2.2) = (gM.1, gM.2.1, up1 (hA gM) 80 (fun j => if j < i + 1 then -1 else 0), gM.2.2.2)
  rw [e]
theorem sh_gF (i : Nat) : SH (gF i) := (mo_AA gM (fun j => if j < i then -1 else 0) (by decide)).sh sh_gM
theorem w_fill {l : Launch} {E : eE} {d bc bs : Nat} {K : aH → Prop} (k : K gL) : ∀ b i : Nat, i + b = 416 → LX12_init_283 l E (d + 1) bc bs (nI i) (gF i) K := by
  intro b
  induction b with
  | zero =>
    intro i hi
    have hi : i = 416 := by omega
    subst hi
    exact bX12_init_283 (sh_gF 416) ⟨fun _ => k, fun c => absurd (show nI 416 ≤ nI 416 by decide) c⟩
  | succ b ih =>
    intro i hi
    refine bX12_init_283 (sh_gF i) ⟨fun c => absurd c (nI_ge (by omega) (by omega)), fun _ => ⟨vp_in_nI (by omega) (by omega), ?_⟩⟩
    rw [nI_clamp (by omega), nI_add, gF_s]
    exact ih (i + 1) (by omega)
theorem i_model {l : Launch} {E : eE} {d : Nat} {K : aH → Prop} (k : K gL) : CV l E (d + 1) 35 4610 mX12_init [.inr (some (0, 12, 63))] gh_126 K := by
  refine i_20_X12_init ?_
  have := w_fill (l := l) (E := E) (d := d) (bc := 0) (bs := 0) k 416 0 rfl
  rw [gF_0] at this
  exact this
theorem gL_A {a : Nat} (ha : a ≠ 80) : hA gL a = fun _ => 0 := by
  show up1 (hA gM) 80 _ a = _
  rw [up1_ne ha, az_196.1]
theorem gL_80 {j : Nat} (hj : j < 416) : hA gL 80 j = -1 := by
  show up1 (hA gM) 80 (fun j => if j < 416 then -1 else 0) 80 j = -1
  unfold up1
  rw [if_pos rfl, if_pos hj]
theorem gL_I : hI gL = fun _ _ => 0 := az_196.2
theorem LV_gL : LV gL := by
  have z1 : ∀ k, hI gL 63 k = 0 := fun k => by rw [gL_I]
  have z0 : ∀ k, hI gL 0 k = 0 := fun k => by rw [gL_I]
  have no : ∀ (i k : Nat), ¬ (i : Int) < (hI gL 63 k).toInt := fun i k => by rw [z1, ti_z]; omega
  have hn : hN gL = 99 := nh_196
  refine ⟨⟨sh_gF 416, ?_, fun i hi => absurd hi (no i 1), fun i hi => absurd hi (no i 3), fun i _ => ?_, fun i hi => absurd hi (no i 8), fun s hs => absurd hs (no s 14), fun s _ _ => ?_, fun s p _ _ => ?_, fun s w hs hw => Or.inl ⟨gL_80 (by omega), gL_80 (by omega)⟩⟩, ⟨⟨⟨?_, ?_, ?_, ?_⟩, fun i hi => absurd hi (no i 1), fun i hi => absurd hi (no i 3)⟩, fun i hi => absurd hi (no i 14), ⟨fun i _ hi => absurd hi (no i 1), fun i _ hi => absurd hi (no i 3), fun i _ _ _ hi => absurd hi (no i 3)⟩, fun i _ hi => absurd hi (no i 14), ⟨?_, ?_⟩⟩, by rw [hn]; exact Nat.le_refl _⟩
  · unfold RIn
    rw [z1, z1, z1, z1]
    decide
  · rw [gL_A (by decide), ti_z]; omega
  · rw [gL_A (by decide)]; show (0 : Int32) = nI 0; decide
  · rw [gL_A (by decide), ti_z]; exact ⟨by omega, by omega, fun _ => show (0 : Int32) = nI 0 by decide⟩
  · rw [z1, z0]
  · rw [z1, z0]
  · rw [z1, z0]
  · rw [z1, z0]
  · rw [z1, z0]
  · rw [z1]; intro p _; exact Nat.zero_testBit p

abbrev mL_law : aM := mL
set_option maxRecDepth 20000 in
theorem law_pre {l : Launch} {E : eE} {d : Nat} {Q : Int32 → aH → Prop} (k : TI l E mL_law (d + 4) 599901 7295751 18 [some (.inr (some (5, 0, 0))), some (.inr (some (0, 11, 0))), some (.inr (some (0, 12, 63))), some (.inl (nI 0))] [] gL Q) : TI l E mL_law (d + 4) 600000 7302250 0 [some (.inr (some (5, 0, 0))), none, none, none] [] h00 Q := by
  show TI l E mL_law (d + 4) 600000 7302250 0 [some (.inr (some (5, 0, 0))), none, none, none] [] gh_0 Q
  refine zz_new (pc := 0) (bc := 599999) (bs := 7302236) (c := 11) (C := RX11) (T := TX11) (N := 14) (n := 0) (g := gh_1) dL_law_0 rfl nL_7 iX11 jX11 nh_0 rfl ?_
  refine z_dup (pc := 3) dL_law_3 ?_
  refine y_C (pc := 4) (bc := 599937) (bs := 7300404) (mc := 62) (ms := 1832) (As := []) (rest := [.inr (some (0, 11, 0))]) dL_law_4 kX11_init lL_9 rfl rfl rfl rfl (i_19_X11_init ?_)
  refine z_astore_n (pc := 7) (ls' := [some (.inr (some (5, 0, 0))), some (.inr (some (0, 11, 0))), none, none]) dL_law_7 rfl rfl rfl ?_
  refine zz_new (pc := 8) (bc := 599936) (bs := 7300361) (c := 12) (C := RX12) (T := TX12) (N := 43) (n := 63) (g := gh_126) dL_law_8 rfl nL_10 iX12 jX12 nh_125 rfl ?_
  refine z_dup (pc := 11) dL_law_11 ?_
  refine y_C (pc := 12) (bc := 599901) (bs := 7295751) (mc := 35) (ms := 4610) (As := []) (rest := [.inr (some (0, 12, 63))]) dL_law_12 kX12_init lL_12 rfl rfl rfl rfl (i_model ?_)
  refine z_astore_n (pc := 15) (ls' := [some (.inr (some (5, 0, 0))), some (.inr (some (0, 11, 0))), some (.inr (some (0, 12, 63))), none]) dL_law_15 rfl rfl rfl ?_
  refine z_iconst (pc := 16) (v := (nI 0)) dL_law_16 (by decide) ?_
  refine z_istore_n (pc := 17) (ls' := [some (.inr (some (5, 0, 0))), some (.inr (some (0, 11, 0))), some (.inr (some (0, 12, 63))), some (.inl (nI 0))]) dL_law_17 rfl rfl rfl ?_
  exact k

