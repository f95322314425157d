theorem law_all : ∀ (l : Launch) (E : eE), eL E ≤ 3072 → Tot l E mL 100 600000 7302250 0 [some (.inr (some (5, 0, 0))), none, none, none] [] h00 (fun r _ => r = some (.inl 1)) := sorry
