/-! ===== the class: Mover.findBest, begin ===== -/
theorem k_mfind {l : Launch} {E : eE} {d bc bs : Nat} {h : aH} {K : Int32 → aH → Prop} {g : aH} {w n ns np : Nat} (V : LW g) (hns : (ns : Int) = (hI g 63 14).toInt) (hnp : (np : Int) = (hI g 63 3).toInt) (hw : w < 52) (C : MkC g h w n ns np) (t : MkT g h w n ns np (fun _ => 0) 0 none) (hd : 15 ≤ d)
    (kN : (∀ T, T ≤ mvQ g w ns → dfT g w n ns np T ns 0 (fun _ => 0) none = none) → ∀ h1, MkF 0 h h1 → K (-1) h1)
    (kS : ∀ T u h1, T ≤ mvQ g w ns → dfT g w n ns np T ns 0 (fun _ => 0) none = some u → (∀ T', T' < T → dfT g w n ns np T' ns 0 (fun _ => 0) none = none) → MkF 0 h h1 → (∀ x, x < ns → ¬ pI g w x = -1 → hA h1 53 (mvQ g w x) = nI (u x)) → K (nI T) h1) : CI l E d bc bs mX5_findBest [.inr (some (0, 5, 39))] h K := by
  obtain ⟨d, rfl⟩ : ∃ d', d = d' + 1 := ⟨d - 1, by omega⟩
  have hN := V.1.2.1
  unfold RIn at hN
  have ns4 : ns ≤ 4 := by omega
  have qn := mvQ_le g w ns
  have S := (C.1.lv V).1.1
  have q0 : mvQ g w 0 = 0 := by rw [mvQ]
  have c0 : mvC g w (fun _ => 0) 0 = 0 := by rw [mvC]
  have lp : ∀ (b T : Nat) (h1 : aH), T + b = mvQ g w ns + 1 → MkF 0 h h1 → MkT g h1 w n ns np (fun _ => 0) 0 none → (∀ T', T' < T → dfT g w n ns np T' ns 0 (fun _ => 0) none = none) → LX5_findBest_2 l E (d + 1) bc bs (nI T) h1 K := by
    intro b
    induction b with
    | zero =>
      intro T h1 hT f1 T1 all
      have C1 := C.fr f1 ns4
      refine bX5_findBest_2 (f1.1.sh S) ⟨fun _ => kN (fun T' hT' => all T' (by omega)) h1 f1, fun z => absurd ?_ z⟩
      rw [C1.2.1]; exact nI_lt (by omega) (by omega)
    | succ b ih =>
      intro T h1 hT f1 T1 all
      have C1 := C.fr f1 ns4
      have S1 := f1.1.sh S
      refine bX5_findBest_2 S1 ⟨fun z => absurd z (by rw [C1.2.1]; exact nI_nlt (by omega) (by omega)), fun _ => ?_⟩
      have ms := k_ms (l := l) (E := E) (T := T) (n := n) V hns hnp hw ns 0 d 0 0 h1 (fun _ => 0) none (fun h2 => SH h2 ∧ ((hI h2 40 3 = 0 → LX5_findBest_2 l E (d + 1) bc bs (nI T + nI 1) h2 K) ∧ (¬ hI h2 40 3 = 0 → K (nI T) h2))) (by omega) (by omega) C1 T1 (by rw [c0]; omega) (by rw [c0, q0]; omega) (fun h2 f2 T2 => ?_)
      · rw [q0, c0, Nat.sub_zero] at ms
        exact ms
      · rw [q0] at f2
        refine ⟨f2.1.sh S1, ?_⟩
        cases e : dfT g w n ns np T ns 0 (fun _ => 0) none with
        | none =>
          rw [e] at T2
          have e3 := T2.2.2.2.2.2.1.2.2.1 rfl
          rw [e3, nI_add]
          exact ⟨fun _ => ih (T + 1) h2 (by omega) (f1.tr f2) T2 (fun T' hT' => by
            by_cases y : T' = T
            · rw [y]; exact e
            · exact all T' (by omega)), fun z => absurd rfl z⟩
        | some u =>
          rw [e] at T2
          obtain ⟨e3, -⟩ := T2.2.2.2.2.2.1.2.2.2 _ rfl
          rw [e3]
          exact ⟨fun z => absurd z (by decide), fun _ => kS T u h2 (by omega) e all (f1.tr f2) (T2.2.2.2.2.2.2 u rfl)⟩
  exact bX5_findBest_0 S (lp (mvQ g w ns + 1) 0 h (by omega) (MkF.rf 0 h) t (fun T' hT' => absurd hT' (Nat.not_lt_zero T')))
