/-! ===== the class: Mover.settle ===== -/
/-- the class's chosen of week w, after the first x series of the way u are written -/
def StW (g h h' : aH) (w : Nat) (u : Nat → Nat) (x : Nat) : Prop := hI h' = hI h ∧ hR h' = hR h ∧ hQ h' = hQ h ∧ hT h' = hT h ∧ hN h' = hN h ∧ (∀ a, (∀ r o, r < x → ¬ pI g w r = -1 → SeAt g r o → a ≠ o + 3) → hA h' a = hA h a) ∧ ∀ r o, r < x → ¬ pI g w r = -1 → SeAt g r o → ∀ j, hA h' (o + 3) j = if j = w then nI (u r) else hA h (o + 3) j
theorem se_inj {g : aH} (V : LW g) {r s o o' : Nat} (hr : (r : Int) < (hI g 63 14).toInt) (hs : (s : Int) < (hI g 63 14).toInt) (a : SeAt g r o) (b : SeAt g s o') (ne : r ≠ s) : o + 3 ≠ o' + 3 := fun z => ne (V.2.1.2.2.2 r s hr hs (by
  rw [a.1.1.1, b.1.1.1, show o = o' by omega]))
theorem k_settle {l : Launch} {E : eE} {d bc bs : Nat} {h : aH} {K : aH → Prop} {g : aH} {w n ns np : Nat} {u : Nat → Nat} (V : LW g) (C : MkC g h w n ns np) (hns : (ns : Int) = (hI g 63 14).toInt) (hw : w < 52) (best : ∀ x, x < ns → ¬ pI g w x = -1 → hA h 53 (mvQ g w x) = nI (u x)) (k : ∀ h1, StW g h h1 w u ns → K h1) : CV l E d bc bs mX5_settle [.inr (some (0, 5, 39)), .inl (nI w)] h K := by
  have hN := V.1.2.1
  unfold RIn at hN
  have S := (C.1.lv V).1.1
  have qn := mvQ_le g w ns
  have shS : ∀ {h1 x}, StW g h h1 w u x → SH h1 := fun {h1 x} t => by
    unfold SH at S ⊢
    rw [t.2.1, t.2.2.1]
    exact S
  have lp : ∀ (b r : Nat) (h1 : aH), r + b = ns → StW g h h1 w u r → LX5_settle_2 l E d bc bs (nI w) (nI (mvQ g w r)) h1 K := by
    intro b
    induction b with
    | zero =>
      intro r h1 hr t
      have hr : r = ns := by omega
      subst hr
      exact bX5_settle_2 (shS t) ⟨fun _ => k h1 t, fun c => absurd (by rw [t.1, C.2.1]; exact nI_le (Nat.le_refl _) (by omega)) c⟩
    | succ b ih =>
      intro r h1 hr t
      have hrn : (r : Int) < (hI g 63 14).toInt := by omega
      by_cases pl : pI g w r = -1
      · have eq : mvQ g w (r + 1) = mvQ g w r := by rw [mvQ, if_pos pl]; rfl
        rw [← eq]
        obtain ⟨t1, t2, t3, t4, t5, t6, t7⟩ := t
        refine ih (r + 1) h1 (by omega) ⟨t1, t2, t3, t4, t5, fun a ha => t6 a (fun x o hx => ha x o (by omega)), fun x o hx hp => t7 x o ?_ hp⟩
        have : x ≠ r := fun z => hp (z ▸ pl)
        omega
      · have eq : mvQ g w (r + 1) = mvQ g w r + 1 := by rw [mvQ, if_neg pl]
        have qle : mvQ g w (r + 1) ≤ mvQ g w ns := by
          have := mvQ_st (g := g) (w := w) (r := r + 1) b
          rw [show r + 1 + b = ns by omega] at this
          exact this
        obtain ⟨o, hl⟩ := V.2.1.2.1 r hrn
        have ho := SeAt.o hl
        have q48 := (C.2.2.2 r (by omega) pl).1
        rw [hl.1.1.1] at q48
        obtain ⟨t1, t2, t3, t4, t5, t6, t7⟩ := id t
        have a53 : hA h1 53 = hA h 53 := t6 53 (fun x o' _ _ hl' => by have := SeAt.o hl'; omega)
        refine bX5_settle_2 (shS t) ⟨fun c => absurd c (by rw [t1, C.2.1]; exact nI_ge (by omega) (by omega)), fun _ => ⟨vp_in_nI (by omega) (by omega), o, by rw [nI_clamp (by omega), t3]; exact q48, o + 3, by rw [t2, C.1.1]; exact hl.1.1.2.2.2.2.2.2.2.2, vp_in_nI (by omega) (by omega), ?_⟩⟩
        rw [nI_clamp (n := mvQ g w r) (by omega), nI_clamp (n := w) (by omega), a53, best r (by omega) pl, nI_add, ← eq]
        refine ih (r + 1) _ (by omega) ⟨t1, t2, t3, t4, t5, fun a ha => ?_, fun x o' hx hp hl' j => ?_⟩
        · rw [hA_stn _ _ _ _ (ha r o (by omega) pl hl)]
          exact t6 a (fun x o' hx hp hl' => ha x o' (by omega) hp hl')
        · by_cases y : x = r
          · subst y
            have : o' = o := by
              have q1 := hl'.1.1.1
              rw [hl.1.1.1] at q1
              exact (Prod.mk.inj (Prod.mk.inj (Option.some.inj q1)).2).2.symm
            subst this
            rw [hA_st]
            by_cases z : j = w
            · rw [if_pos ⟨rfl, z⟩, if_pos z]
            · rw [if_neg (fun q => z q.2), if_neg z]
              have := t6 (o' + 3) (fun x2 o2 hx2 hp2 hl2 => se_inj V hrn (by omega) hl' hl2 (by omega))
              rw [this]
          · have ne := se_inj V (by omega) hrn hl' hl y
            rw [hA_stn _ _ _ _ ne]
            exact t7 x o' (by omega) hp hl' j
  have w0 := lp ns 0 h (by omega) ⟨rfl, rfl, rfl, rfl, rfl, fun _ _ => rfl, fun r o hr => absurd hr (Nat.not_lt_zero r)⟩
  rw [mvQ] at w0
  exact bX5_settle_0 S w0
