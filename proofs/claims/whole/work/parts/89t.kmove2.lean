/-! ===== the class: move ===== -/
theorem dfM_none {g : aH} {w n ns np : Nat} (h : ∀ T, T ≤ mvQ g w ns → dfT g w n ns np T ns 0 (fun _ => 0) none = none) : dfM g w n ns np ns 0 (fun _ => 0) none = none := by
  have iv := df_inv (g := g) (w := w) (n := n) (ns := ns) (np := np) ns 0 (fun _ => 0) none (fun _ => none) ⟨fun _ _ => rfl, fun u hu => (by cases hu)⟩
  cases e : dfM g w n ns np ns 0 (fun _ => 0) none with
  | none => rfl
  | some u =>
    have := (iv.2 u e).1
    have h2 := h (mvC g w u ns) (mvC_le ns)
    have this : dfT g w n ns np (mvC g w u ns) ns 0 (fun _ => 0) none = some u := this
    rw [h2] at this
    cases this
theorem dfM_some {g : aH} {w n ns np T : Nat} {u : Nat → Nat} (e : dfT g w n ns np T ns 0 (fun _ => 0) none = some u) (lo : ∀ T', T' < T → dfT g w n ns np T' ns 0 (fun _ => 0) none = none) : dfM g w n ns np ns 0 (fun _ => 0) none = some u ∧ mvC g w u ns = T := by
  have iv := df_inv (g := g) (w := w) (n := n) (ns := ns) (np := np) ns 0 (fun _ => 0) none (fun _ => none) ⟨fun _ _ => rfl, fun u hu => (by cases hu)⟩
  cases em : dfM g w n ns np ns 0 (fun _ => 0) none with
  | none =>
    have this : dfT g w n ns np T ns 0 (fun _ => 0) none = none := iv.1 em T
    rw [e] at this
    cases this
  | some u' =>
    obtain ⟨a, b⟩ := iv.2 u' em
    have a : dfT g w n ns np (mvC g w u' ns) ns 0 (fun _ => 0) none = some u' := a
    have b : ∀ T', T' < mvC g w u' ns → dfT g w n ns np T' ns 0 (fun _ => 0) none = none := b
    have eT : mvC g w u' ns = T := by
      rcases Nat.lt_trichotomy (mvC g w u' ns) T with c | c | c
      · rw [lo _ c] at a; cases a
      · exact c
      · rw [b T c] at e; cases e
    rw [eT, e] at a
    have : u' = u := (Option.some.inj a).symm
    subst this
    exact ⟨rfl, eT⟩
theorem k_move {l : Launch} {E : eE} {d bc bs : Nat} {h : aH} {K : Int32 → aH → Prop} {x1 x2 : Int32} (V : LW h) (hd : 17 ≤ d)
    (k2 : ¬ ((0 ≤ x1.toInt ∧ x1.toInt < 52) ∧ 0 ≤ x2.toInt ∧ x2.toInt ≤ (hI h 63 8).toInt) → K (-2) h)
    (k1 : ∀ (w n ns np : Nat) (h' : aH), x1 = nI w → x2 = nI n → w < 52 → (n : Int) ≤ (hI h 63 8).toInt → (ns : Int) = (hI h 63 14).toInt → (np : Int) = (hI h 63 3).toInt → dfM h w n ns np ns 0 (fun _ => 0) none = none → KS h h' → K (-1) h')
    (k0 : ∀ (w n ns np : Nat) (u : Nat → Nat) (h' h'' : aH), x1 = nI w → x2 = nI n → w < 52 → (n : Int) ≤ (hI h 63 8).toInt → (ns : Int) = (hI h 63 14).toInt → (np : Int) = (hI h 63 3).toInt → dfM h w n ns np ns 0 (fun _ => 0) none = some u → KS h h' → StW h h' h'' w u ns → SH h'' → K (nI (mvC h w u ns)) h'') :
    CI l E d bc bs mX11_move [.inr (some (0, 11, 0)), .inl x1, .inl x2] h K := by
  obtain ⟨d, rfl⟩ : ∃ d', d = d' + 1 := ⟨d - 1, by omega⟩
  have hN := V.1.2.1
  unfold RIn at hN
  have S := V.1.1
  refine bX11_move_0 S (k_isWeek S ⟨S, fun c => k2 (fun q => bI0.mp c q.1), fun c1 => k_isKnown V.sk ⟨S, fun c2 => ?_, fun c => k2 (fun q => bI0.mp c q.2)⟩⟩)
  rw [bI1] at c1 c2
  obtain ⟨w, hw, e1⟩ := i32_lt (n := 52) c1.1 c1.2
  have n2 := i32_clamp c2.1
  obtain ⟨n, hn, e2⟩ : ∃ n : Nat, (n : Int) ≤ (hI h 63 8).toInt ∧ x2 = nI n := ⟨_, by omega, i32_nn c2.1⟩
  obtain ⟨ns, hns, ens⟩ : ∃ ns : Nat, (ns : Int) = (hI h 63 14).toInt ∧ hI h 63 14 = nI ns := ⟨_, i32_clamp hN.2.2.2.1, i32_nn hN.2.2.2.1⟩
  obtain ⟨np, hnp, enp⟩ : ∃ np : Nat, (np : Int) = (hI h 63 3).toInt ∧ hI h 63 3 = nI np := ⟨_, i32_clamp hN.2.1.1, i32_nn hN.2.1.1⟩
  have k1 := fun h' => k1 w n ns np h' e1 e2 hw hn hns hnp
  have k0 := fun u h' h'' => k0 w n ns np u h' h'' e1 e2 hw hn hns hnp
  rw [V.2.1.1.1.2.1, enp, e1, e2]
  have shId' := @shId
  refine k_mbegin (g := h) (w := w) (n := n) (ns := ns) S (by omega) (by omega) (fun h5 c5 f9 f10 T5 => ⟨c5.sh S, ?_⟩)
  have ks5 : KS h h5 := c5.ks (fun a ha => by unfold mbA bdA at ha; omega) (fun q hq => by unfold mbO at hq; omega)
  have lp : ∀ (b s : Nat) (h6 : aH), s + b = ns → MkC h h6 w n s np → MkT h h6 w n ns np (fun _ => 0) 0 none → LX11_move_31 l E (d + 1) bc bs (nI w) (nI n) (nI s) h6 K := by
    intro b
    induction b with
    | zero =>
      intro s h6 hs C6 T6
      have hs : s = ns := by omega
      subst hs
      have V6 := C6.1.lv V
      have e12 : hI h6 0 12 = nI s := by rw [V6.2.1.1.1.2.2.2, C6.1.re.1, ens]
      refine bX11_move_31 V6.1.1 ⟨fun _ => k_mfind V hns hnp hw C6 T6 (by omega) (fun all h7 f7 => ⟨f7.1.sh V6.1.1, fun _ => k1 h7 (dfM_none all) (C6.1.tr f7.ks), fun z => absurd rfl z⟩) (fun T u h7 hT e lo f7 best => ?_), fun c => absurd (by rw [e12]; exact nI_le (Nat.le_refl s) (by omega)) c⟩
      obtain ⟨em, eT⟩ := dfM_some e lo
      have qn := mvQ_le h w s
      have C7 := C6.fr f7 (by omega)
      refine ⟨f7.1.sh V6.1.1, fun z => absurd z (nI_m1 (by omega)), fun _ => k_settle V C7 hns hw best (fun h8 t8 => ?_)⟩
      have S8 : SH h8 := by
        have S7 := f7.1.sh V6.1.1
        unfold SH at S7 ⊢
        rw [t8.2.1, t8.2.2.1]
        exact S7
      refine ⟨S8, ?_⟩
      have := k0 u h7 h8 em C7.1 t8 S8
      rw [eT] at this
      exact this
    | succ b ih =>
      intro s h6 hs C6 T6
      have hsn : (s : Int) < (hI h 63 14).toInt := by omega
      have V6 := C6.1.lv V
      have S6 := V6.1.1
      have e12 : hI h6 0 12 = nI ns := by rw [V6.2.1.1.1.2.2.2, C6.1.re.1, ens]
      obtain ⟨o, hl⟩ := V.2.1.2.1 s hsn
      have ho := SeAt.o hl
      obtain ⟨g1, g2, g3⟩ := (hl.1.2.2.2.1 w hw).ok
      have o3 : hA h6 (o + 3) = hA h (o + 3) := C6.1.2.2.2.2.2 (o + 3) (by omega)
      have hsh := isSh_at (s := s) (by omega)
      have hr5 := hsh.rng
      refine bX11_move_31 S6 ⟨fun c => absurd c (by rw [e12]; exact nI_ge (by omega) (by omega)), fun _ => ⟨vp_in_nI (by omega) (by omega), o, by rw [nI_clamp (by omega), C6.1.2.1 3 (by decide) (by decide)]; exact hl.1.1.1, o + 3, by rw [C6.1.1]; exact hl.1.1.2.2.2.2.2.2.2.2, vp_in_nI (by omega) (by omega), ?_⟩⟩
      rw [nI_clamp (n := w) (by omega), nI_clamp (n := s) (by omega), o3, nI_add]
      refine ⟨fun c => ?_, fun c => ⟨5 + 4 * s, shId S6 (by omega), hsh, ?_⟩⟩
      · have pl : pI h w s = -1 := g1.mp c
        refine ih (s + 1) h6 (by omega) ⟨C6.1, by rw [mvQ, if_pos pl]; exact C6.2.1, C6.2.2.1, fun r hr hp => C6.2.2.2 r ?_ hp⟩ T6
        have : r ≠ s := fun z => hp (z ▸ pl)
        omega
      · have pl : ¬ pI h w s = -1 := fun z => c (g1.mpr z)
        have h6o := op6 V.1.2 hsn
        obtain ⟨no, hno, eno⟩ : ∃ no : Nat, (no : Int) = (hA h 77 s).toInt ∧ hA h 77 s = nI no := ⟨_, i32_clamp h6o.1, i32_nn h6o.1⟩
        have f7 : hI h6 o 7 = nI no := by rw [C6.1.2.2.2.2.1 o (by omega), hl.1.1.2.2.2.2.2.1]; exact eno
        refine bX9_allOptions_0 S6 ⟨S6, k_everyone V6.1 (by omega) (by rw [C6.1.re.1]; exact hsn) (C6.1.se V hsn hl) (fun v sv hv => ⟨S6, ?_⟩)⟩
        rw [f7, full_z no (by omega)]
        rw [C6.1.re.2 79 (by decide) (by decide), C6.1.re.2 76 (by decide) (by decide)] at hv
        have hlt : ∀ p, bt v p = true → (p : Int) < (hI h 63 3).toInt := fun p q => by
          have hp : p < 12 := Decidable.byContradiction fun y => by rw [sv p (by omega)] at q; cases q
          exact ev_lt V.1.2 hsn hp ((hv p hp).mp q)
        refine k_fill V C6.1 hsh hsn hl hw hn hlt (by omega) (fun h8 c8 so8 => ⟨c8.sh S6, 5 + 4 * s, shId (c8.sh S6) (by omega), hsh, o + 3, by rw [c8.1, C6.1.1]; exact hl.1.1.2.2.2.2.2.2.2.2, ?_⟩)
        have ks8 := C6.1.tr (shA.ks hsh c8)
        have C8 : MkC h h8 w n s np := ⟨ks8, by rw [c8.2.2.2.2.1 39 (fun z => z)]; exact C6.2.1, by rw [c8.2.2.2.2.1 39 (fun z => z)]; exact C6.2.2.1, fun r hr hp => by
          obtain ⟨d1, d2, d3, d4⟩ := C6.2.2.2 r hr hp
          rw [c8.2.1, c8.2.2.2.2.2 51 (by unfold shA; omega)]
          exact ⟨d1, d2, d3, fun i hi => ShF.ch c8 (by unfold shA; omega) (by unfold shA; omega) (by unfold shA; omega) (d4 i hi)⟩⟩
        have T8 := T6.rest (h1 := h8) (c8.2.2.2.2.1 43 (fun z => z)) (c8.2.2.2.2.1 40 (fun z => z)) (fun a ha => c8.2.2.2.2.2 a (by unfold shA; omega))
        rw [show hA h8 (o + 3) = hA h (o + 3) from ks8.2.2.2.2.2 (o + 3) (by omega)]
        refine k_madd V C8 hsn hl pl (fun i hi => (so8 i hi ?_).w (fun p hp => hv p hp)) (fun h9 C9 i9 a9 => ⟨(C9.1.lv V).1.1, ih (s + 1) h9 (by omega) C9 (T8.rest (i9 43 (by decide)) (i9 40 (by decide)) (fun a ha => a9 a (by omega)))⟩)
        have z12 : 2 ^ no ≤ 2 ^ 6 := Nat.pow_le_pow_right (by decide) (by omega)
        have zp : 1 ≤ 2 ^ no := Nat.one_le_two_pow
        rw [bt_nI (by omega), Nat.testBit_two_pow_sub_one, decide_eq_true_iff]
        omega
  refine lp ns 0 h5 (by omega) ⟨ks5, by rw [mvQ]; exact f9, f10, fun r hr => absurd hr (Nat.not_lt_zero r)⟩ T5
