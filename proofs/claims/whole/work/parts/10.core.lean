/-! ===== THE WORLD BY NUMBERS: objects and arrays have numbers in the order of their making; a reference carries its kind ===== -/
/-- null, or (kind, n, id). kind 0: an object of class n of vwCl; 1, 2, 3: an array of int, boolean, byte of n places; 5: an array that was there before (n: which); 8 + c: an array of n references to objects of class c -/
abbrev aR : Type := Option (Nat × Nat × Nat)
abbrev aV : Type := Int32 ⊕ aR
/-- ints in fields, references in fields, ints in arrays, references in arrays, what each number is, how many there are -/
abbrev aH : Type := (Nat → Nat → Int32) × (Nat → Nat → aR) × (Nat → Nat → Int32) × (Nat → Nat → aR) × (Nat → Nat × Nat) × Nat
abbrev hI (h : aH) : Nat → Nat → Int32 := h.1
abbrev hR (h : aH) : Nat → Nat → aR := h.2.1
abbrev hA (h : aH) : Nat → Nat → Int32 := h.2.2.1
abbrev hQ (h : aH) : Nat → Nat → aR := h.2.2.2.1
abbrev hT (h : aH) : Nat → Nat × Nat := h.2.2.2.2.1
abbrev hN (h : aH) : Nat := h.2.2.2.2.2
def up2 {α : Type} (f : Nat → Nat → α) (i k : Nat) (v : α) : Nat → Nat → α := fun a b => if a = i ∧ b = k then v else f a b
def up1 {α : Type} (f : Nat → α) (i : Nat) (v : α) : Nat → α := fun a => if a = i then v else f a
def stI (h : aH) (i k : Nat) (v : Int32) : aH := (up2 (hI h) i k v, h.2)
def stR (h : aH) (i k : Nat) (v : aR) : aH := (h.1, up2 (hR h) i k v, h.2.2)
def stA (h : aH) (i k : Nat) (v : Int32) : aH := (h.1, h.2.1, up2 (hA h) i k v, h.2.2.2)
def stQ (h : aH) (i k : Nat) (v : aR) : aH := (h.1, h.2.1, h.2.2.1, up2 (hQ h) i k v, h.2.2.2.2)
/-- an array's contents all at once -/
def stAA (h : aH) (i : Nat) (f : Nat → Int32) : aH := (h.1, h.2.1, up1 (hA h) i f, h.2.2.2)
/-- one more, of this kind, all 0 and null -/
def stN (h : aH) (t : Nat × Nat) : aH := (up1 (hI h) (hN h) (fun _ => 0), up1 (hR h) (hN h) (fun _ => none), up1 (hA h) (hN h) (fun _ => 0), up1 (hQ h) (hN h) (fun _ => none), up1 (hT h) (hN h) t, hN h + 1)
/-- z0; the classes' numbers and slots; the array classes; where the outer arrays are; the script -/
abbrev eE : Type := Nat × va_G × (Nat → ClassId) × (Nat → Nat) × Nat × (Nat → Int32)
abbrev eZ (E : eE) : Nat := E.1
abbrev eD (E : eE) : va_G := E.2.1
abbrev eK (E : eE) : Nat → ClassId := E.2.2.1
abbrev eX (E : eE) : Nat → Nat := E.2.2.2.1
abbrev eL (E : eE) : Nat := E.2.2.2.2.1
abbrev eF (E : eE) : Nat → Int32 := E.2.2.2.2.2
def eA (E : eE) : Nat → Prop := fun q => eZ E ≤ q
def tb1 : List Int32 := [0, 0, 0, 0, 0, 1, 1, 1, 1, 2, 2, 2, 3, 3, 4]
def tb2 : List Int32 := [1, 2, 3, 4, 5, 2, 3, 4, 5, 3, 4, 5, 4, 5, 5]
def exL (E : eE) (w : Nat) : Nat := match w with
  | 0 => eL E
  | _ => 15
def exF (E : eE) (w : Nat) : Nat → Int32 := match w with
  | 0 => eF E
  | 1 => fun j => tb1.getD j 0
  | _ => fun j => tb2.getD j 0
def adr (E : eE) (q : Nat × Nat × Nat) : Nat := if q.1 = 5 then eX E q.2.1 else eZ E + q.2.2
def cvA (E : eE) (r : aR) : Option Nat := r.map (adr E)
def cv (E : eE) (v : aV) : Value := match v with
  | .inl x => .int x
  | .inr r => va_rf (cvA E r)
def tyC (c : Nat) : Nat → FieldType := match c with
  | 0 => tyX0 | 1 => tyX1 | 2 => tyX2 | 3 => tyX3 | 4 => tyX4 | 5 => tyX5 | 6 => tyX6 | 7 => tyX7 | 8 => tyX8 | 9 => tyX9 | 10 => tyX10 | 11 => tyX11 | _ => tyX12
def isRt (t : FieldType) : Bool := match t with
  | .int => false
  | .boolean => false
  | _ => true
def nfC (c : Nat) : Nat := match vwCl[c]? with
  | some q => q.2.2
  | none => 0
def fkR (c k : Nat) : Bool := isRt (tyC c k)
def cel (E : eE) (h : aH) (i : Nat) : va_E :=
  if (hT h i).1 = 0 then .inr ((hT h i).2, (List.range (nfC (hT h i).2)).map (fun k => if fkR (hT h i).2 k then va_rf (cvA E (hR h i k)) else .int (hI h i k)))
  else if (hT h i).1 < 8 then .inl (eK E (hT h i).1, (hT h i).2, .inl (hA h i))
  else .inl (eK E (hT h i).1, (hT h i).2, .inr (.inr (.inr (.inr (fun j => cvA E (hQ h i j))))))
def wl (E : eE) (h : aH) : va_W := (List.range (hN h)).map (fun i => (eZ E + i, cel E h i))
theorem wl_at (E : eE) (h : aH) {i : Nat} (hi : i < hN h) : (wl E h)[i]? = some (eZ E + i, cel E h i) := by
  simp [wl, hi]
theorem wl_lt {E : eE} {h : aH} {i : Nat} {q : Nat × va_E} (hq : (wl E h)[i]? = some q) : i < hN h ∧ q = (eZ E + i, cel E h i) := by
  have hi : i < (wl E h).length := (List.getElem?_eq_some_iff.mp hq).1
  have hi' : i < hN h := by simpa [wl] using hi
  rw [wl_at E h hi'] at hq
  exact ⟨hi', (Option.some.inj hq).symm⟩
theorem wl_set {E : eE} {h h' : aH} {i : Nat} {x : va_E} (hN' : hN h' = hN h) (hx : cel E h' i = x) (ho : ∀ j, j ≠ i → cel E h' j = cel E h j) : (wl E h).set i (eZ E + i, x) = wl E h' := by
  apply List.ext_getElem?
  intro j
  by_cases hj : j < hN h
  · by_cases e : i = j
    · subst e
      rw [List.getElem?_set_self (by simpa [wl] using hj), wl_at E h' (by omega), hx]
    · rw [List.getElem?_set_ne e, wl_at E h hj, wl_at E h' (by omega), ho j (fun q => e q.symm)]
  · rw [List.getElem?_eq_none (by simp [wl]; omega), List.getElem?_eq_none (by simp [wl]; omega)]
theorem wl_push {E : eE} {h h' : aH} {x : va_E} (hN' : hN h' = hN h + 1) (hx : cel E h' (hN h) = x) (ho : ∀ j, j < hN h → cel E h' j = cel E h j) : wl E h ++ [(eZ E + hN h, x)] = wl E h' := by
  unfold wl
  rw [hN', List.range_succ, List.map_append]
  congr 1
  · apply List.map_congr_left
    intro j hj
    rw [ho j (List.mem_range.mp hj)]
  · simp [hx]
theorem wl_D (E : eE) (h : aH) : va_D (eA E) (wl E h) := by
  refine ⟨fun i j p q hp hq e => ?_, fun k q hq => ?_⟩
  · obtain ⟨h1, rfl⟩ := wl_lt hp
    obtain ⟨h2, rfl⟩ := wl_lt hq
    dsimp only at e
    omega
  · obtain ⟨h1, rfl⟩ := wl_lt hq
    show eZ E ≤ eZ E + k
    omega
/-- a reference is what it says -/
def okR (h : aH) (r : aR) : Prop := ∀ q, r = some q → q.1 = 5 ∨ (q.2.2 < hN h ∧ hT h q.2.2 = (q.1, q.2.1))
def okV (h : aH) (v : aV) : Prop := ∀ r, v = .inr r → okR h r
def okS (h : aH) (st : List aV) : Prop := ∀ v ∈ st, okV h v
def okL (h : aH) (ls : List (Option aV)) : Prop := ∀ v, some v ∈ ls → okV h v
def okO (h : aH) (r : Option aV) : Prop := ∀ v, r = some v → okV h v
def wfH (h : aH) : Prop := (∀ i k, okR h (hR h i k)) ∧ ∀ i k, okR h (hQ h i k)
/-- more are there, the old ones are what they were -/
def exH (h h' : aH) : Prop := hN h ≤ hN h' ∧ ∀ i, i < hN h → hT h' i = hT h i
theorem exH.rf (h : aH) : exH h h := ⟨Nat.le_refl _, fun _ _ => rfl⟩
theorem exH.tr {a b c : aH} (h1 : exH a b) (h2 : exH b c) : exH a c := ⟨Nat.le_trans h1.1 h2.1, fun i hi => (h2.2 i (Nat.lt_of_lt_of_le hi h1.1)).trans (h1.2 i hi)⟩
theorem okR.ex {h h' : aH} {r : aR} (e : exH h h') (k : okR h r) : okR h' r := fun q hq => (k q hq).imp id (fun z => ⟨Nat.lt_of_lt_of_le z.1 e.1, (e.2 _ z.1).trans z.2⟩)
theorem okV.ex {h h' : aH} {v : aV} (e : exH h h') (k : okV h v) : okV h' v := fun r hr => (k r hr).ex e
theorem okS.ex {h h' : aH} {st : List aV} (e : exH h h') (k : okS h st) : okS h' st := fun v hv => (k v hv).ex e
theorem okL.ex {h h' : aH} {ls : List (Option aV)} (e : exH h h') (k : okL h ls) : okL h' ls := fun v hv => (k v hv).ex e
theorem okV.int (h : aH) (x : Int32) : okV h (.inl x) := fun r hr => by cases hr
theorem okV.null (h : aH) : okV h (.inr none) := fun r hr => by cases hr; intro q hq; cases hq
theorem okS.tl {h : aH} {v : aV} {st : List aV} (k : okS h (v :: st)) : okS h st := fun w hw => k w (List.mem_cons_of_mem _ hw)
theorem okS.hd {h : aH} {v : aV} {st : List aV} (k : okS h (v :: st)) : okV h v := k v List.mem_cons_self
theorem okS.cn {h : aH} {v : aV} {st : List aV} (a : okV h v) (k : okS h st) : okS h (v :: st) := fun w hw => (List.mem_cons.mp hw).elim (fun e => e ▸ a) (k w)
theorem okS.obj {h : aH} {a b i : Nat} {st : List aV} (k : okS h (.inr (some (a, b, i)) :: st)) (ha : a ≠ 5) : i < hN h ∧ hT h i = (a, b) := (k.hd _ rfl _ rfl).resolve_left ha
/-! the locals -/
def lvl (E : eE) (ls : List (Option aV)) : List (Nat × Value) := (List.range ls.length).filterMap (fun i => match ls[i]? with
  | some (some v) => some (i, cv E v)
  | _ => none)
def lsOK (E : eE) (lc : Array Slot) (n : Nat) (ls : List (Option aV)) : Prop := (lc.size = n ∧ ls.length = n) ∧ lv_wf lc ∧ ∀ (i : Nat) (v : aV), ls[i]? = some (some v) → lc[i]? = some (Slot.val (cv E v))
theorem cv_cat (E : eE) (v : aV) : (cv E v).category = 1 := by
  rcases v with x | (_ | q) <;> rfl
theorem lvl_mem {E : eE} {ls : List (Option aV)} {q : Nat × Value} (h : q ∈ lvl E ls) : ∃ v, ls[q.1]? = some (some v) ∧ q.2 = cv E v := by
  obtain ⟨i, -, hi⟩ := List.mem_filterMap.mp h
  split at hi
  · next v hv => cases hi; exact ⟨v, hv, rfl⟩
  · cases hi
theorem lvl_of {E : eE} {ls : List (Option aV)} {i : Nat} {v : aV} (h : ls[i]? = some (some v)) : (i, cv E v) ∈ lvl E ls := by
  refine List.mem_filterMap.mpr ⟨i, List.mem_range.mpr (List.getElem?_eq_some_iff.mp h).1, ?_⟩
  rw [h]
theorem lsOK.has {E : eE} {lc : Array Slot} {n : Nat} {ls : List (Option aV)} (h : lsOK E lc n ls) : lv_has lc n (lvl E ls) := ⟨h.1.1, h.2.1, fun q hq => by
  obtain ⟨v, h1, h2⟩ := lvl_mem hq
  rw [h2]
  exact h.2.2 _ _ h1⟩
theorem lsOK.set {E : eE} {lc : Array Slot} {n i : Nat} {ls : List (Option aV)} {v : aV} (hn : ls.length = n) (h : lv_has lc n ((i, cv E v) :: (lvl E ls).filter (fun q => !(q.1 == i) && !(q.1 + 1 == i && q.2.category == 2)))) : lsOK E lc n (ls.set i (some v)) := by
  refine ⟨⟨h.1, by simpa using hn⟩, h.2.1, fun j w hj => ?_⟩
  by_cases e : i = j
  · subst e
    have hi : i < ls.length := by
      have := (List.getElem?_eq_some_iff.mp hj).1
      simpa using this
    rw [List.getElem?_set_self hi] at hj
    cases hj
    exact h.2.2 (i, cv E v) List.mem_cons_self
  · rw [List.getElem?_set_ne e] at hj
    refine h.2.2 (j, cv E w) (List.mem_cons_of_mem _ (List.mem_filter.mpr ⟨lvl_of hj, ?_⟩))
    have h1 : (j == i) = false := by simp; omega
    simp [h1, cv_cat]
/-! what holds of the machine's tables, and of the heap -/
def kty (k : Nat) : FieldType := match k with
  | 1 => .int
  | 2 => .boolean
  | 3 => .byte
  | 12 => .object RX4
  | 14 => .object RX6
  | 16 => .object RX8
  | 17 => .object RX9
  | _ => .object RX10
def kinds : List Nat := [1, 2, 3, 12, 14, 16, 17, 18]
def tyE (E : eE) : List (ClassId × FieldType) := kinds.map (fun k => (eK E k, kty k))
def RepV (E : eE) (U : State) : Prop :=
  va_K (eD E) vwCl (tyE E) U ∧
  (∀ a i y b, Cond.methodLinkNest a i y b ∈ lw_tbl → va_Nw (.methodLinkNest a i y b) U) ∧
  (∀ a i b n d x, Cond.fieldLinkNest a i b n d x ∈ lw_tbl → va_Nw (.fieldLinkNest a i b n d x) U) ∧
  (∀ C, Cond.arrayOver (.object C) ∈ lw_tbl → va_AO C U) ∧
  (∀ w, w < 3 → va_T .int (eX E w) (exL E w) (fun j => .int (exF E w j)) (eA E) U U.heap) ∧
  va_Z "ClockCall" "FIRST_OF_PAIR" "[I" (.ref (eX E 1)) (eA E) U U.heap ∧
  va_Z "ClockCall" "SECOND_OF_PAIR" "[I" (.ref (eX E 2)) (eA E) U U.heap ∧ eL E ≤ 3072
def RepH (E : eE) (h : aH) (H : Heap) : Prop := H.size = eZ E + hN h ∧ va_P (eD E) vwCl (wl E h) H ∧ wfH h
theorem RepV.on {E : eE} {s U : State} {H : Heap} {locs : List Loc} (hV : RepV E s) (hS : va_S (eA E) s.heap H locs) (hW : s.WarmedH U.vm) (hU : U.heap = H) : RepV E U := by
  obtain ⟨h1, h2, h3, h4, h5, h6, h7, h8⟩ := hV
  refine ⟨va_K.moved hW.alike h1, fun a i y b hm => va_Nw.warmM hW (h2 a i y b hm), fun a i b n d x hm => va_Nw.warmF hW (h3 a i b n d x hm), fun C hm => (h4 C hm).moved hW.alike, fun w hw => ?_, ?_, ?_, h8⟩
  · rw [hU]; exact ((h5 w hw).kept hS.2.1).moved hW.alike
  · rw [hU]; exact (h6.kept hS.2.1).moved hW.alike
  · rw [hU]; exact (h7.kept hS.2.1).moved hW.alike
theorem RepV.calling {E : eE} {U : State} {g : JFrame} {mk : MethodId} {a : Array Value} (hV : RepV E U) : RepV E (U.calling g mk a) := by
  have al : U.vm.Alike (U.calling g mk a).vm := Vm.Alike.refl U.vm
  obtain ⟨h1, h2, h3, h4, h5, h6, h7, h8⟩ := hV
  exact ⟨va_K.moved al h1, fun a i y b hm => (h2 a i y b hm).same rfl rfl, fun a i b n d x hm => (h3 a i b n d x hm).same rfl rfl, fun C hm => (h4 C hm).moved al, fun w hw => (h5 w hw).moved al, h6.moved al, h7.moved al, h8⟩
theorem RepH.new {E : eE} {h : aH} {H H1 : Heap} {t : Nat × Nat} (hp : RepH E h H) (hz : H1.size = H.size + 1) (ho : ∀ q, q < H.size → H1[q]? = H[q]?) (hx : va_at (eD E) vwCl (eZ E + hN h, cel E (stN h t) (hN h)) H1) : RepH E (stN h t) H1 := by
  obtain ⟨a1, a2, a3, a4⟩ := hp
  refine ⟨by rw [hz, a1]; show _ = eZ E + (hN h + 1); omega, fun k q hq => ?_, ?_⟩
  · obtain ⟨hk, rfl⟩ := wl_lt hq
    have hk' : k < hN h + 1 := hk
    rcases Nat.lt_or_ge k (hN h) with g | g
    · have e : cel E (stN h t) k = cel E h k := by
        have hne : k ≠ h.2.2.2.2.2 := by show k ≠ hN h; omega
        simp [cel, stN, up1, hne, hI, hR, hA, hQ, hT, hN]
      rw [e]
      exact (a2 k _ (wl_at E h g)).kept (ho _ (by show eZ E + k < _; omega))
    · have e : k = hN h := by omega
      subst e
      exact hx
  · have e : exH h (stN h t) := ⟨Nat.le_succ _, fun i hi => by
      have hne : i ≠ h.2.2.2.2.2 := by show i ≠ hN h; omega
      simp [stN, up1, hne, hT, hN]⟩
    refine ⟨fun i k => ?_, fun i k => ?_⟩
    · by_cases hi : i = hN h
      · subst hi; intro q hq; simp [stN, up1, hR, hQ, hN] at hq
      · have : hR (stN h t) i k = hR h i k := by have hi : ¬ i = h.2.2.2.2.2 := hi; simp [stN, up1, hi, hR, hN]
        rw [this]; exact (a3 i k).ex e
    · by_cases hi : i = hN h
      · subst hi; intro q hq; simp [stN, up1, hR, hQ, hN] at hq
      · have : hQ (stN h t) i k = hQ h i k := by have hi : ¬ i = h.2.2.2.2.2 := hi; simp [stN, up1, hi, hQ, hN]
        rw [this]; exact (a4 i k).ex e
theorem RepH.set {E : eE} {h h' : aH} {H H1 : Heap} {i : Nat} (hp : RepH E h H) (hN' : hN h' = hN h) (ho : ∀ j, j ≠ i → cel E h' j = cel E h j) (hw : wfH h') (hz : H1.size = H.size) (hq : ∀ q, q ≠ eZ E + i → H1[q]? = H[q]?) (hx : i < hN h → va_at (eD E) vwCl (eZ E + i, cel E h' i) H1) : RepH E h' H1 := by
  obtain ⟨a1, a2, a3⟩ := hp
  refine ⟨by rw [hz, a1, hN'], fun k q hk => ?_, hw⟩
  obtain ⟨hk', rfl⟩ := wl_lt hk
  by_cases e : k = i
  · subst e
    exact hx (by omega)
  · rw [ho k e]
    exact (a2 k _ (wl_at E h (by omega))).kept (hq _ (by show eZ E + k ≠ eZ E + i; omega))
theorem cel_arr {E : eE} {h : aH} {i k n : Nat} (ht : hT h i = (k, n)) (h0 : k ≠ 0) (h8 : k < 8) : cel E h i = .inl (eK E k, n, .inl (hA h i)) := by
  simp [cel, ht, h0, h8]
theorem cel_refs {E : eE} {h : aH} {i k n : Nat} (ht : hT h i = (k, n)) (h8 : 8 ≤ k) : cel E h i = .inl (eK E k, n, .inr (.inr (.inr (.inr (fun j => cvA E (hQ h i j)))))) := by
  have h0 : k ≠ 0 := by omega
  have h9 : ¬ k < 8 := by omega
  simp [cel, ht, h0, h9]
def fls (E : eE) (h : aH) (i c : Nat) : List Value := (List.range (nfC c)).map (fun k => if fkR c k then va_rf (cvA E (hR h i k)) else .int (hI h i k))
theorem cel_obj {E : eE} {h : aH} {i c : Nat} (ht : hT h i = (0, c)) : cel E h i = .inr (c, fls E h i c) := by
  simp [cel, ht, fls]
theorem fls_at {E : eE} {h : aH} {i c k : Nat} (hk : k < nfC c) : (fls E h i c)[k]? = some (if fkR c k then va_rf (cvA E (hR h i k)) else .int (hI h i k)) := by
  simp [fls, hk]
theorem fls_len {E : eE} {h : aH} {i c : Nat} : (fls E h i c).length = nfC c := by simp [fls]
