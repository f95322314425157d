/-! ===== the class: Mover.begin ===== -/
abbrev mbA : Nat → Prop := fun a => bdA 43 a ∨ a = 54
abbrev mbO : Nat → Prop := fun q => q = 39 ∨ q = 40 ∨ q = 43
theorem k_mbegin {l : Launch} {E : eE} {d bc bs : Nat} {h : aH} {K : aH → Prop} {g : aH} {w n ns np : Nat} (S : SH h) (hn : np ≤ 12) (hd : 3 ≤ d) (k : ∀ h1, Ch mbA mbO h h1 → hI h1 39 9 = nI 0 → hI h1 39 10 = nI np → MkT g h1 w n ns np (fun _ => 0) 0 none → K h1) : CV l E d bc bs mX5_begin [.inr (some (0, 5, 39)), .inl (nI np)] h K := by
  obtain ⟨d, rfl⟩ : ∃ d', d = d' + 1 := ⟨d - 1, by omega⟩
  obtain ⟨d, rfl⟩ : ∃ d', d = d' + 1 := ⟨d - 1, by omega⟩
  have c1 : Ch mbA mbO h (stI (stI h 39 10 (nI np)) 39 9 (nI 0)) := (ch_I (A := mbA) (O := mbO) h 10 _ (Or.inl rfl)).tr (ch_I _ 9 _ (Or.inl rfl))
  refine bX5_begin_0 S (c_min S ⟨S, ?_⟩)
  rw [if_neg (nI_nlt hn (by omega))]
  have e9 : hI (stI (stI h 39 10 (nI np)) 39 9 (nI 0)) 39 9 = nI 0 := by simp [hI_st]
  have e10 : hI (stI (stI h 39 10 (nI np)) 39 9 (nI 0)) 39 10 = nI np := by simp [hI_st]
  generalize stI (stI h 39 10 (nI np)) 39 9 (nI 0) = ha at c1 e9 e10
  have Sa := c1.sh S
  refine k_clear (g := g) (w := w) (pi := mvI g w (fun _ => 0)) (pj := mvJ g w (fun _ => 0)) Sa (Or.inr rfl) (by omega) (fun h2 c2 b2 d2 z2 => ⟨c2.sh Sa, ?_⟩)
  have S2 := c2.sh Sa
  have c12 : Ch mbA mbO h h2 := c1.tr (c2.mono (fun a ha => Or.inl ha) (fun q hq => by have : q = 43 := hq; unfold mbO; omega))
  have i39 : hI h2 39 = hI ha 39 := c2.2.2.2.2.1 39 (by show ¬ 39 = 43; decide)
  rw [i39, e10]
  refine bX2_begin_0 S2 (Or.inr rfl) (c_min S2 ⟨S2, ?_⟩)
  rw [if_neg (nI_nlt hn (by omega))]
  have c3 : Ch (isA 54) (isQ 40) h2 (stI (stI h2 40 2 (nI np)) 40 3 (nI 0)) := (ch_I (A := isA 54) (O := isQ 40) h2 2 _ rfl).tr (ch_I _ 3 _ rfl)
  have g2 : hI (stI (stI h2 40 2 (nI np)) 40 3 (nI 0)) 40 2 = nI np := by simp [hI_st]
  have g3 : hI (stI (stI h2 40 2 (nI np)) 40 3 (nI 0)) 40 3 = nI 0 := by simp [hI_st]
  generalize stI (stI h2 40 2 (nI np)) 40 3 (nI 0) = hb at c3 g2 g3
  have c4 : Ch (isA 54) (isQ 40) h2 (stAA hb 54 (fil (hA hb 54) 0 12 (nI 0))) := c3.tr (ch_AA _ _ rfl)
  have cc : Ch mbA mbO h (stAA hb 54 (fil (hA hb 54) 0 12 (nI 0))) := c12.tr (c4.mono (fun a ha => Or.inr ha) (fun q hq => by have : q = 40 := hq; unfold mbO; omega))
  refine ⟨c3.sh S2, c_fillI (c3.sh S2) (by decide) ⟨c4.sh S2, k _ cc ?_ ?_ ⟨?_, fun c hc => absurd hc (Nat.not_lt_zero c), fun c hc _ => ?_, fun p hp => ?_, fun x hx => absurd hx (Nat.not_lt_zero x), ⟨hn, g2, fun _ => g3, fun b hb => (by cases hb)⟩, fun u hu => (by cases hu)⟩⟩⟩
  · rw [c4.2.2.2.2.1 39 (by show ¬ 39 = 40; decide), i39]; exact e9
  · rw [c4.2.2.2.2.1 39 (by show ¬ 39 = 40; decide), i39]; exact e10
  · exact (b2 _ _).ch c4 (by show ¬ 43 + 1 = 54; decide) (by show ¬ 43 + 2 = 54; decide) (by show ¬ 43 + 3 = 54; decide) (by show ¬ 43 = 40; decide)
  · rw [c4.2.2.2.2.2 47 (by show ¬ 47 = 54; decide)]
    exact z2 c (Nat.zero_le c) hc
  · rw [hA_AA, mvS]
    unfold fil
    rw [if_pos ⟨Nat.zero_le p, by omega⟩]
    decide
