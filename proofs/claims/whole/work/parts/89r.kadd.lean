/-! ===== the class: the series are added one by one ===== -/
theorem hQ_st (h : aH) (a k : Nat) (v : aR) (b j : Nat) : hQ (stQ h a k v) b j = if b = a ∧ j = k then v else hQ h b j := rfl
theorem k_madd {l : Launch} {E : eE} {d bc bs : Nat} {h : aH} {K : aH → Prop} {g : aH} {w n s np o : Nat} (V : LW g) (C : MkC g h w n s np) (hs : (s : Int) < (hI g 63 14).toInt) (hl : SeAt g s o) (pl : ¬ pI g w s = -1) (so : ∀ i : Nat, (i : Int) < (hA g 77 s).toInt → ShO g h w n s (5 + 4 * s) (evO g s) i) (k : ∀ h1, MkC g h1 w n (s + 1) np → (∀ q, q ≠ 39 → hI h1 q = hI h q) → (∀ a, a ≠ 51 → hA h1 a = hA h a) → K h1) : CV l E d bc bs mX5_add [.inr (some (0, 5, 39)), .inr (some (0, 9, o)), .inr (some (0, 10, 5 + 4 * s)), .inl (hA g (o + 3) w)] h K := by
  have hN := V.1.2.1
  unfold RIn at hN
  obtain ⟨ks, e9, e10, cc⟩ := C
  have S := (ks.lv V).1.1
  have ql := mvQ_le g w s
  have hsh := isSh_at (s := s) (by omega)
  have eq : mvQ g w (s + 1) = mvQ g w s + 1 := by rw [mvQ, if_neg pl]
  have qlt : ∀ x, x < s → ¬ pI g w x = -1 → mvQ g w x < mvQ g w s := fun x hx hp => by
    have h1 := mvQ_st (g := g) (w := w) (r := x + 1) (s - (x + 1))
    rw [show x + 1 + (s - (x + 1)) = s by omega, mvQ, if_neg hp] at h1
    omega
  have S1 : SH (stQ h 48 (mvQ g w s) (some (0, 9, o))) := S.stQ (by decide) (by decide)
  have S2 : SH (stQ (stQ h 48 (mvQ g w s) (some (0, 9, o))) 49 (mvQ g w s) (some (0, 10, 5 + 4 * s))) := S1.stQ (by decide) (by decide)
  refine bX5_add_0 S hsh ?_
  rw [e9, nI_clamp (n := mvQ g w s) (by omega), nI_add]
  refine ⟨fun z => absurd z (nI_ge (by omega) (by omega)), fun _ => ⟨vp_in_nI (by omega) (by omega), S1, vp_in_nI (by omega) (by omega), S2, vp_in_nI (by omega) (by omega), k _ ⟨?_, ?_, ?_, fun r hr hp => ?_⟩ (fun q hq => up2_ne hq) (fun a ha => up2_ne ha)⟩⟩
  · refine ks.tr ⟨rfl, fun a h1 h2 => ?_, rfl, rfl, fun q hq => up2_ne (by omega), fun a ha => up2_ne (by omega)⟩
    show up2 (up2 (hQ h) 48 (mvQ g w s) (some (0, 9, o))) 49 (mvQ g w s) (some (0, 10, 5 + 4 * s)) a = hQ h a
    rw [up2_ne h2, up2_ne h1]
  · rw [hI_st, if_pos ⟨rfl, rfl⟩, eq]
  · rw [hI_st, if_neg (fun z => absurd z.2 (by decide))]; exact e10
  · have q48 : ∀ x, hQ (stI (stA (stQ (stQ h 48 (mvQ g w s) (some (0, 9, o))) 49 (mvQ g w s) (some (0, 10, 5 + 4 * s))) 51 (mvQ g w s) (hA g (o + 3) w)) 39 9 (nI (mvQ g w s + 1))) 48 x = if x = mvQ g w s then some (0, 9, o) else hQ h 48 x := fun x => by
      show hQ (stQ (stQ h 48 (mvQ g w s) (some (0, 9, o))) 49 (mvQ g w s) (some (0, 10, 5 + 4 * s))) 48 x = _
      rw [hQ_st, if_neg (fun z => absurd z.1 (by decide)), hQ_st]
      by_cases y : x = mvQ g w s
      · rw [if_pos ⟨rfl, y⟩, if_pos y]
      · rw [if_neg (fun z => y z.2), if_neg y]
    have q49 : ∀ x, hQ (stI (stA (stQ (stQ h 48 (mvQ g w s) (some (0, 9, o))) 49 (mvQ g w s) (some (0, 10, 5 + 4 * s))) 51 (mvQ g w s) (hA g (o + 3) w)) 39 9 (nI (mvQ g w s + 1))) 49 x = if x = mvQ g w s then some (0, 10, 5 + 4 * s) else hQ h 49 x := fun x => by
      show hQ (stQ (stQ h 48 (mvQ g w s) (some (0, 9, o))) 49 (mvQ g w s) (some (0, 10, 5 + 4 * s))) 49 x = _
      rw [hQ_st]
      by_cases y : x = mvQ g w s
      · rw [if_pos ⟨rfl, y⟩, if_pos y]
      · rw [if_neg (fun z => y z.2), if_neg y, hQ_st, if_neg (fun z => absurd z.1 (by decide))]
    have shT : ∀ {r' i : Nat}, r' < 4 → ShO g h w n r' (5 + 4 * r') (evO g r') i → ShO g (stI (stA (stQ (stQ h 48 (mvQ g w s) (some (0, 9, o))) 49 (mvQ g w s) (some (0, 10, 5 + 4 * s))) 51 (mvQ g w s) (hA g (o + 3) w)) 39 9 (nI (mvQ g w s + 1))) w n r' (5 + 4 * r') (evO g r') i := fun {r' i} hr' q => by
      unfold ShO
      rw [hA_sI, hA_stn _ _ _ _ (show 5 + 4 * r' + 1 ≠ 51 by omega), hA_stn _ _ _ _ (show 5 + 4 * r' + 2 ≠ 51 by omega), hA_stn _ _ _ _ (show 5 + 4 * r' + 3 ≠ 51 by omega)]
      exact q
    rw [q48, q49]
    by_cases y : r = s
    · subst y
      rw [if_pos rfl, if_pos rfl]
      refine ⟨hl.1.1.1.symm, rfl, fun o' hl' => ?_, fun i hi => shT (by omega) (so i hi)⟩
      have : o' = o := by
        have q1 := hl'.1.1.1
        rw [hl.1.1.1] at q1
        exact (Prod.mk.inj (Prod.mk.inj (Option.some.inj q1)).2).2.symm
      rw [this]
      show hA (stA _ 51 (mvQ g w r) (hA g (o + 3) w)) 51 (mvQ g w r) = _
      rw [hA_st, if_pos ⟨rfl, rfl⟩]
    · have lt := qlt r (by omega) hp
      obtain ⟨d1, d2, d3, d4⟩ := cc r (by omega) hp
      rw [if_neg (by omega), if_neg (by omega)]
      refine ⟨d1, d2, fun o' hl' => ?_, fun i hi => shT (by omega) (d4 i hi)⟩
      show hA (stA _ 51 (mvQ g w s) (hA g (o + 3) w)) 51 (mvQ g w r) = _
      rw [hA_st, if_neg (fun z => by omega)]
      exact d3 o' hl'
