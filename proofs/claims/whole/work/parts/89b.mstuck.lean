/-! ===== the reference: goesFor, leastStuck ===== -/
theorem w_goes86 {l : Launch} {E : eE} {d bc bs : Nat} {h : aH} {K : Int32 → aH → Prop} {g : aH} {w n s q : Nat} {X i j : Int32} {pi pj : Nat → Int32} (m : MW g h w n) (fs : FS g h w n pi pj s) (hs : (s : Int) < (hI g 63 14).toInt) (hq : q < 15) (ok : okP g s i j) {np : Nat} (hnp : (np : Int) = (hI g 63 3).toInt) (k1 : (∀ p : Nat, (p : Int) < (hI g 63 3).toInt → bt X p = true → saS g s (frP g w n pi pj s) p i j) → K (nI 1) h) (k0 : ¬ (∀ p : Nat, (p : Int) < (hI g 63 3).toInt → bt X p = true → saS g s (frP g w n pi pj s) p i j) → LX12_goesFor_2 l E (d + 1) bc bs (nI s) X (nI (q + 1)) h K) :
    ∀ (b p : Nat) (x6 : Int32), p + b = np → (x6 = 0 → ¬ (∀ p : Nat, (p : Int) < (hI g 63 3).toInt → bt X p = true → saS g s (frP g w n pi pj s) p i j)) → (¬ x6 = 0 → ∀ p' : Nat, p' < p → bt X p' = true → saS g s (frP g w n pi pj s) p' i j) → LX12_goesFor_86 l E (d + 1) bc bs (nI s) X (nI q) i j x6 (nI p) h K := by
  have hg := m.rg
  have R := m.sr.1
  have h6 := op6 m.2.1 hs
  have enp : hI h 63 3 = nI np := by rw [hg.2.2.2.1, i32_nn hg.1.1, show (hI g 63 3).toNatClampNeg = np by have := i32_clamp hg.1.1; omega]
  have okk := ok
  obtain ⟨i', rfl, ci, hi6, hi', okj⟩ := ok.c m.2.1 hs
  intro b
  induction b with
  | zero =>
    intro p x6 hp z0 z1
    have hp : p = np := by omega
    subst hp
    refine bX12_goesFor_86 R ⟨fun _ => ?_, fun c => absurd (by rw [enp]; exact nI_le (Nat.le_refl p) (by omega)) c⟩
    rw [nI_add]
    exact ⟨fun c => k0 (z0 c), fun c => k1 (fun p' hp' hb => z1 c p' (by omega) hb)⟩
  | succ b ih =>
    intro p x6 hp z0 z1
    have f1 := fs p i' (by omega) hi'
    have fail : bt X p = true → ¬ saS g s (frP g w n pi pj s) p (nI i') j → ¬ (∀ p : Nat, (p : Int) < (hI g 63 3).toInt → bt X p = true → saS g s (frP g w n pi pj s) p (nI i') j) := fun e q z => q (z p (by omega) e)
    refine bX12_goesFor_86 R ⟨fun c => absurd c (by rw [enp]; exact nI_ge (by omega) (by omega)), fun _ => ?_⟩
    rw [bt_in X (by omega), ix2 (a := 6) (b := p) (c := i') (by omega), f1, nI_add q 1, nI_add p 1, fV0, nI_clamp (n := s) (by omega), m.2.2.1.2 76 (by decide) (by decide)]
    refine ⟨fun c => ⟨fun _ => k0 (z0 c), fun y => absurd c y⟩, fun c => ⟨fun c1 => ?_, fun c1 => ?_⟩⟩
    · have eb : bt X p = true := by
        cases e : bt X p with
        | true => rfl
        | false => rw [e] at c1; exact absurd rfl c1
      have good : saS g s (frP g w n pi pj s) p (nI i') j → LX12_goesFor_86 l E (d + 1) bc bs (nI s) X (nI q) (nI i') j (nI 1) (nI (p + 1)) h K := fun y => ih (p + 1) (nI 1) (by omega) (fun z => absurd z (by decide)) (fun _ p' hp' hb => by
        by_cases e : p' = p
        · rw [e]; exact y
        · exact z1 c p' (by omega) hb)
      have bad : ¬ saS g s (frP g w n pi pj s) p (nI i') j → LX12_goesFor_86 l E (d + 1) bc bs (nI s) X (nI q) (nI i') j (nI 0) (nI (p + 1)) h K := fun y => ih (p + 1) (nI 0) (by omega) (fun _ => fail eb y) (fun z => absurd rfl z)
      rcases okj with ⟨hch, rfl⟩ | ⟨hch, nj, j', rfl, cj, hj6, hij, hj'⟩
      · have sa : saS g s (frP g w n pi pj s) p (nI i') (-1) ↔ frP g w n pi pj s p i' := by
          unfold saS anF
          rw [ci]
          exact ⟨fun y => y.elim (fun z => absurd rfl z.2.1) (fun z => z.2.elim id (fun t => absurd rfl t.1)), fun y => Or.inr ⟨fun z => z.2 rfl, Or.inl y⟩⟩
        have pn : ¬ nI p = hA g 76 s := by rw [hch]; exact nI_m1 (by omega)
        refine ⟨vp2 (by omega) (by omega), fun _ => bX12_goesFor_153 R ?_, fun z => absurd rfl z⟩
        rw [fV0, nI_add p 1, nI_clamp (n := s) (by omega), m.2.2.1.2 76 (by decide) (by decide)]
        exact ⟨vp_in_nI (by omega) (by omega), fun _ => ⟨fun y => good (sa.mpr (Classical.not_not.mp y)), fun y => ⟨fun _ => bad (fun z => y (sa.mp z)), fun z => absurd rfl z⟩⟩, fun y => absurd y pn⟩
      · have f2 := fs p j' (by omega) hj'
        have saY : hA g 76 s = nI p → (saS g s (frP g w n pi pj s) p (nI i') (nI j') ↔ (frP g w n pi pj s p i' ∧ frP g w n pi pj s p j')) := fun e => by
          unfold saS
          rw [ci, cj]
          exact ⟨fun y => y.elim (fun z => z.2.2) (fun z => absurd ⟨e, nj⟩ z.1), fun y => Or.inl ⟨e, nj, y⟩⟩
        have saN : ¬ hA g 76 s = nI p → (saS g s (frP g w n pi pj s) p (nI i') (nI j') ↔ (frP g w n pi pj s p i' ∨ frP g w n pi pj s p j')) := fun e => by
          unfold saS anF
          rw [ci, cj]
          exact ⟨fun y => y.elim (fun z => absurd z.1 e) (fun z => z.2.imp id (fun t => t.2)), fun y => Or.inr ⟨fun z => e z.1, y.imp id (fun t => ⟨nj, t⟩)⟩⟩
        rw [ix2 (a := 6) (b := p) (c := j') (by omega), f2, fV0]
        refine ⟨vp2 (by omega) (by omega), fun z => absurd z nj, fun _ => ⟨vp2 (by omega) (by omega), fun c2 => bX12_goesFor_153 R ?_, fun c2 => ⟨vp_in_nI (by omega) (by omega), fun c3 => ?_, fun c3 => ?_⟩⟩⟩
        · rw [fV0, nI_add p 1, nI_clamp (n := s) (by omega), m.2.2.1.2 76 (by decide) (by decide)]
          refine ⟨vp_in_nI (by omega) (by omega), fun c3 => ?_, fun c3 => ⟨fun z => absurd z nj, fun _ => ?_⟩⟩
          · have sN := saN (fun z => c3 z.symm)
            exact ⟨fun y => good (sN.mpr (Or.inl (Classical.not_not.mp y))), fun y => ⟨fun _ => bad (fun z => (sN.mp z).elim y c2), fun z => absurd rfl z⟩⟩
          · have sY := saY c3.symm
            exact ⟨fun y => bad (fun z => y (sY.mp z).1), fun y => ⟨fun _ => bad (fun z => c2 (sY.mp z).2), fun z => absurd rfl z⟩⟩
        · have sN := saN (fun z => c3 z.symm)
          have c2 := Classical.not_not.mp c2
          exact ⟨fun y => good (sN.mpr (Or.inr c2)), fun y => ⟨fun z => absurd z (by decide), fun _ => good (sN.mpr (Or.inr c2))⟩⟩
        · have sY := saY c3.symm
          have c2 := Classical.not_not.mp c2
          exact ⟨fun z => absurd z nj, fun _ => ⟨fun y => bad (fun z => y (sY.mp z).1), fun y => ⟨fun z => absurd z (by decide), fun _ => good (sY.mpr ⟨Classical.not_not.mp y, c2⟩)⟩⟩⟩
    · refine ih (p + 1) x6 (by omega) z0 (fun y p' hp' hb => ?_)
      by_cases e : p' = p
      · rw [e] at hb
        rw [hb] at c1
        exact absurd c1 (by decide)
      · exact z1 y p' (by omega) hb
theorem c_goesFor {l : Launch} {E : eE} {d bc bs : Nat} {h : aH} {K : Int32 → aH → Prop} {g : aH} {w n s : Nat} {X : Int32} {pi pj : Nat → Int32} (m : MW g h w n) (fs : FS g h w n pi pj s) (ls : LsO g h s) (hd : 2 ≤ d) (hs : (s : Int) < (hI g 63 14).toInt) (k1 : goS g w s (frP g w n pi pj s) X → K (nI 1) h) (k0 : ¬ goS g w s (frP g w n pi pj s) X → K (nI 0) h) : CI l E d bc bs mX12_goesFor [.inr (some (0, 12, 63)), .inl (nI s), .inl X] h K := by
  obtain ⟨d, rfl⟩ : ∃ d', d = d' + 1 := ⟨d - 1, by omega⟩
  have hg := m.rg
  have R := m.sr.1
  have h6 := op6 m.2.1 hs
  have ec := i32_clamp h6.1
  have hl15 : (clO g s).length ≤ 15 := cls_len (by omega)
  have lp : ∀ (b q : Nat), q + b = (clO g s).length → (∀ q', q' < q → ¬ (sdO g w s (fO (hA g 76 s) (nI ((clO g s).getD q' 0))) (sO (hA g 76 s) (nI ((clO g s).getD q' 0))) ∧ ∀ p : Nat, (p : Int) < (hI g 63 3).toInt → bt X p = true → saS g s (frP g w n pi pj s) p (fO (hA g 76 s) (nI ((clO g s).getD q' 0))) (sO (hA g 76 s) (nI ((clO g s).getD q' 0))))) → LX12_goesFor_2 l E (d + 1) bc bs (nI s) X (nI q) h K := by
    intro b
    induction b with
    | zero =>
      intro q hq hno
      refine bX12_goesFor_2 R (by omega) ?_
      rw [nI_clamp (n := s) (by omega), ls.1]
      refine ⟨vp_in_nI (by omega) (by omega), fun _ => k0 ?_, fun c => absurd (by rw [show (cls (hA g 76 s) (hA g 77 s).toNatClampNeg).length = q from (show (clO g s).length = q by omega)]; exact nI_le (Nat.le_refl q) (by omega)) c⟩
      rintro ⟨c, hc, h1, h2⟩
      obtain ⟨q', e1, e2⟩ := mem_cl.mp hc
      subst e2
      exact hno q' (by omega) ⟨h1, h2⟩
    | succ b ih =>
      intro q hq hno
      have hql : q < (clO g s).length := by omega
      obtain ⟨okp, ocl, oc15⟩ := clO_ok m.2.1 hs hql
      obtain ⟨l1, l2⟩ := ls.2 q hql
      refine bX12_goesFor_2 R (by omega) ?_
      rw [nI_clamp (n := s) (by omega), ls.1, ix2 (by omega), l1, l2, nI_add q 1]
      have next : ¬ (sdO g w s (fO (hA g 76 s) (nI ((clO g s).getD q 0))) (sO (hA g 76 s) (nI ((clO g s).getD q 0))) ∧ ∀ p : Nat, (p : Int) < (hI g 63 3).toInt → bt X p = true → saS g s (frP g w n pi pj s) p (fO (hA g 76 s) (nI ((clO g s).getD q 0))) (sO (hA g 76 s) (nI ((clO g s).getD q 0)))) → LX12_goesFor_2 l E (d + 1) bc bs (nI s) X (nI (q + 1)) h K := fun z => ih (q + 1) (by omega) (lt_s hno z)
      have go : sdO g w s (fO (hA g 76 s) (nI ((clO g s).getD q 0))) (sO (hA g 76 s) (nI ((clO g s).getD q 0))) → LX12_goesFor_86 l E (d + 1) bc bs (nI s) X (nI q) (fO (hA g 76 s) (nI ((clO g s).getD q 0))) (sO (hA g 76 s) (nI ((clO g s).getD q 0))) (nI 1) (nI 0) h K := fun sd =>
        w_goes86 m fs hs (by omega) okp (i32_clamp hg.1.1) (fun y => k1 ⟨_, mem_cl.mpr ⟨q, hql, rfl⟩, sd, y⟩) (fun y => next (fun z => y z.2)) _ 0 _ (Nat.zero_add _) (fun z => absurd z (by decide)) (fun _ p' hp' => absurd hp' (Nat.not_lt_zero p'))
      generalize fO (hA g 76 s) (nI ((clO g s).getD q 0)) = i at *
      generalize sO (hA g 76 s) (nI ((clO g s).getD q 0)) = j at *
      obtain ⟨i', rfl, ci, hi6, hi', okj⟩ := okp.c m.2.1 hs
      have vi : (vp_in (nI s) 4 ∧ vp_in (nI i') 6) := ⟨vp_in_nI (by omega) (by omega), vp_in_nI (by omega) (by omega)⟩
      have isI := m.isin hs hi'
      rw [nI_clamp (n := s) (by omega)] at isI
      rw [isI]
      refine ⟨vi.1, fun c => absurd c (nI_ge hql (Nat.lt_of_le_of_lt hl15 (by decide))), fun _ => ⟨vp2 (by omega) (by omega), vi, fun c => next (fun z => c (by have := z.1.1; rw [ci] at this; exact this)), fun c => ⟨fun nj => go ⟨by rw [ci]; exact c, fun z => absurd nj z⟩, fun nj => ?_⟩⟩⟩
      rcases okj with okj | ⟨hch, -, j', rfl, cj, hj6, hij, hj'⟩
      · exact absurd okj.2 nj
      have vj : (vp_in (nI s) 4 ∧ vp_in (nI j') 6) := ⟨vi.1, vp_in_nI (by omega) (by omega)⟩
      have isJ := m.isin hs hj'
      rw [nI_clamp (n := s) (by omega)] at isJ
      rw [isJ, m.meet hs hi' hs hj']
      exact ⟨vj, fun c1 => next (fun z => c1 (by have := (z.1.2 nj).1; rw [cj] at this; exact this)), fun c1 => ⟨⟨vi, vj⟩, fun c2 => go ⟨by rw [ci]; exact c, fun _ => ⟨by rw [cj]; exact c1, by rw [ci, cj]; exact c2⟩⟩, fun c2 => next (fun z => (z.1.2 nj).2 (by rw [ci, cj]; exact c2))⟩⟩
  exact bX12_goesFor_0 R (lp (clO g s).length 0 (by omega) (fun q' hq' => absurd hq' (Nat.not_lt_zero q')))
theorem sub_iff {x mu : Int32} : (x &&& (mu ^^^ -1)) = 0 ↔ subS x mu := by
  constructor
  · intro e p hp
    have hp32 : p < 32 := Decidable.byContradiction fun z => by rw [bt_ge x (by omega)] at hp; cases hp
    have := congrArg (fun z => bt z p) e
    simp only [bt_0] at this
    rw [bt_cm _ _ hp32, hp, Bool.true_and, Bool.not_eq_false'] at this
    exact this
  · intro q
    apply bt_ext; intro p hp
    rw [bt_cm _ _ hp, bt_0]
    cases e : bt x p with
    | false => rfl
    | true => rw [q p e]; rfl
theorem ti_4096 : (nI 4096).toInt = 4096 := by decide
theorem c_leastStuck {l : Launch} {E : eE} {d bc bs : Nat} {h : aH} {K : Int32 → aH → Prop} {g : aH} {w n s : Nat} {pi pj : Nat → Int32} (m : MW g h w n) (fs : FS g h w n pi pj s) (ls : LsO g h s) (hd : 3 ≤ d) (hs : (s : Int) < (hI g 63 14).toInt) (k : ∀ v, stS g w s (frP g w n pi pj s) v → K v h) : CI l E d bc bs mX12_leastStuck [.inr (some (0, 12, 63)), .inl (nI s)] h K := by
  obtain ⟨d, rfl⟩ : ∃ d', d = d' + 1 := ⟨d - 1, by omega⟩
  have hg := m.rg
  have R := m.sr.1
  obtain ⟨np, hnp, enp⟩ : ∃ np : Nat, (np : Int) = (hI g 63 3).toInt ∧ hI h 63 3 = nI np := ⟨_, i32_clamp hg.1.1, by rw [hg.2.2.2.1]; exact i32_nn hg.1.1⟩
  have lp : ∀ mu, sm 12 mu → (∀ p, p < 12 → (bt mu p = true ↔ muS g s p)) → ¬ goS g w s (frP g w n pi pj s) mu → ∀ (b y : Nat) (best : Int32), y + b = 4096 → sm 12 best → subS best mu → ¬ goS g w s (frP g w n pi pj s) best → (∀ y', y' < y → subS (nI y') mu → ¬ goS g w s (frP g w n pi pj s) (nI y') → nI y' = best ∨ ahd best (nI y')) → LX12_leastStuck_65 l E (d + 1) bc bs (nI s) mu best (nI y) h K := by
    intro mu smu hmu ng b
    induction b with
    | zero =>
      intro y best hy sb su nb hall
      have hy : y = 4096 := by omega
      subst hy
      refine bX12_leastStuck_65 R ⟨fun _ => k best ⟨sb, mu, smu, hmu, fun z => absurd z ng, fun _ => ⟨su, nb, fun X sX uX nX => ?_⟩⟩, fun c => absurd (nI_le (Nat.le_refl 4096) (by omega)) c⟩
      obtain ⟨y', hy', rfl⟩ := sm_nat sX
      exact hall y' hy' uX nX
    | succ b ih =>
      intro y best hy sb su nb hall
      have sy : sm 12 (nI y) := nat_sm (by omega)
      refine bX12_leastStuck_65 R ⟨fun c => absurd c (nI_ge (by omega) (by omega)), fun _ => ?_⟩
      rw [sub_iff, nI_add]
      have skip : (subS (nI y) mu → ¬ goS g w s (frP g w n pi pj s) (nI y) → nI y = best ∨ ahd best (nI y)) → LX12_leastStuck_65 l E (d + 1) bc bs (nI s) mu best (nI (y + 1)) h K := fun z => ih (y + 1) best (by omega) sb su nb (fun y' hy' => (show y' < y ∨ y' = y by omega).elim (hall y') (fun e => by rw [e]; exact z))
      refine ⟨fun c => skip (fun z => absurd z c), fun c => c_goesFor m fs ls (by omega) hs (fun z => ⟨R, fun t => absurd t (by decide), fun _ => skip (fun _ t => absurd z t)⟩) (fun z => ⟨R, fun _ => c_isAhead R (by omega) sy sb (fun t => ⟨R, fun u => absurd u (by decide), fun _ => ih (y + 1) (nI y) (by omega) sy c z (fun y' hy' u1 u2 => ?_)⟩) (fun t => ⟨R, fun _ => skip (fun _ _ => ?_), fun u => absurd rfl u⟩), fun t => absurd rfl t⟩)⟩
      · by_cases e : y' = y
        · exact Or.inl (by rw [e])
        · refine Or.inr ?_
          rcases hall y' (by omega) u1 u2 with q | q
          · rw [q]; exact t
          · exact ahd_trans t q
      · by_cases e : nI y = best
        · exact Or.inl e
        · exact Or.inr ((ahd_total sb sy (fun z => e z.symm)).resolve_right t)
  have mk : ∀ (b p : Nat) (x : Int32), p + b = np → sm 12 x → (∀ q, q < 12 → (bt x q = true ↔ (q < p ∧ muS g s q))) → LX12_leastStuck_4 l E (d + 1) bc bs (nI s) x (nI p) h K := by
    intro b
    induction b with
    | zero =>
      intro p x hp sx hx
      have hp : p = np := by omega
      subst hp
      have hx : ∀ q, q < 12 → (bt x q = true ↔ muS g s q) := fun q hq => by
        rw [hx q hq]
        exact ⟨fun z => z.2, fun z => ⟨by have := z.1; omega, z⟩⟩
      refine bX12_leastStuck_4 R ⟨fun _ => c_goesFor m fs ls (by omega) hs (fun z => ⟨R, fun t => absurd t (by decide), fun _ => k _ ⟨sm_0 12, x, sx, hx, fun _ => rfl, fun t => absurd z t⟩⟩) (fun z => ⟨R, fun _ => lp x sx hx z 4096 0 x (by omega) sx (fun _ t => t) z (fun y' hy' => absurd hy' (Nat.not_lt_zero y')), fun t => absurd rfl t⟩), fun c => absurd (by rw [enp]; exact nI_le (Nat.le_refl p) (by omega)) c⟩
    | succ b ih =>
      intro p x hp sx hx
      have ro1 : hA g 79 (12 * s + p) = nI 1 ↔ roO g s p = 1 := ⟨fun z => by unfold roO; rw [z]; decide, fun z => i32_eq (by decide) z⟩
      refine bX12_leastStuck_4 R ⟨fun c => absurd c (by rw [enp]; exact nI_ge (by omega) (by omega)), fun _ => ?_⟩
      rw [ix2 (by omega), m.2.2.1.2 79 (by decide) (by decide), nI_clamp (n := s) (by omega), m.2.2.1.2 76 (by decide) (by decide), nI_add p 1]
      have yes : muS g s p → LX12_leastStuck_4 l E (d + 1) bc bs (nI s) (x ||| (nI 1 <<< (nI p &&& 31))) (nI (p + 1)) h K := fun z => ih (p + 1) _ (by omega) (sm_or sx (sm_pow (by omega) (by decide))) (fun q hq => by
        rw [bt_or, Bool.or_eq_true, hx q hq, bt_pow (by omega) (by omega), decide_eq_true_iff]
        constructor
        · rintro (t | rfl)
          · exact ⟨by omega, t.2⟩
          · exact ⟨by omega, z⟩
        · rintro ⟨t1, t2⟩
          by_cases e : q = p
          · exact Or.inr e
          · exact Or.inl ⟨by omega, t2⟩)
      have no : ¬ muS g s p → LX12_leastStuck_4 l E (d + 1) bc bs (nI s) x (nI (p + 1)) h K := fun z => ih (p + 1) _ (by omega) sx (fun q hq => by
        rw [hx q hq]
        refine ⟨fun t => ⟨by omega, t.2⟩, fun t => ⟨?_, t.2⟩⟩
        have : q ≠ p := fun e => z (by rw [← e]; exact t.2)
        omega)
      exact ⟨vp2 (by omega) (by omega), fun c => yes ⟨by omega, Or.inl (ro1.mp c)⟩, fun c => ⟨vp_in_nI (by omega) (by omega), fun c1 => no (fun z => z.2.elim (fun t => c (ro1.mpr t)) (fun t => c1 t.symm)), fun c1 => yes ⟨by omega, Or.inr c1.symm⟩⟩⟩
  exact bX12_leastStuck_0 R (mk np 0 (nI 0) (by omega) (sm_0 12) (fun q hq => ⟨fun z => (by rw [show bt (nI 0) q = false from bt_0 q] at z; cases z), fun z => absurd z.1 (Nat.not_lt_zero q)⟩))
