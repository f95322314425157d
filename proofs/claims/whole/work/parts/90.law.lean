theorem law_all : ∀ (l : Launch) (E : eE), eL E ≤ 3072 → Tot l E mL 100 600000 7302250 0 [some (.inr (some (5, 0, 0))), none, none, none] [] h00 (fun r _ => r = some (.inl 1)) := by
  intro l E hE
  have t := law_pre (l := l) (E := E) (d := 96) (Q := fun v _ => v = nI 1) (law_loop hE (by decide) (fun _ => rfl) 512 0 _ _ gL LV_gL (by decide) (by omega) (by decide) (by decide))
  exact Tot.mono (fun r h1 q => by
    obtain ⟨v, e, rfl⟩ := q
    rw [e]
    rfl) t
