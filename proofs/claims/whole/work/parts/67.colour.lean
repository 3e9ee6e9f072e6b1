/-! colours; turns about a point -/
theorem p_ofColour {w h : Nat} (hk : ds_ok w h) (o t : Int64) {c : Nat} (hc : c < 4) : ∃ m, fX6_ofColour (nI w) (nI h) o t (nI c) = some m ∧ ds_sub w h m ∧ ∀ i, i < 64 → ds_b m i = (ds_ins w h i && decide (ds_co o t i = c)) := by
  have key : ∀ m : Int64, (∀ i, i < 64 → ds_b m i = (ds_ins w h i && decide (ds_co o t i = c))) → ds_sub w h m := by
    intro m hm i hi q
    rw [hm i hi, Bool.and_eq_true] at q
    exact ins_of q.1
  suffices hq : ∃ m, fX6_ofColour (nI w) (nI h) o t (nI c) = some m ∧ ∀ i, i < 64 → ds_b m i = (ds_ins w h i && decide (ds_co o t i = c)) by
    obtain ⟨m, e, g⟩ := hq
    exact ⟨m, e, key m g, g⟩
  have : c = 0 ∨ c = 1 ∨ c = 2 ∨ c = 3 := by omega
  unfold fX6_ofColour fX6_ofColour_21 fX6_ofColour_43
  rw [p_all, Option.bind_some, Option.bind_some, Option.bind_some, Option.bind_some]
  rcases this with rfl | rfl | rfl | rfl
  · rw [if_pos (show nI 0 &&& 1 = 0 by decide), if_pos (show nI 0 &&& 2 = 0 by decide)]
    refine ⟨_, rfl, fun i hi => ?_⟩
    rw [b_and, b_and, b_not hi, b_not hi, b_all hk hi]
    unfold ds_co
    cases ds_b o i <;> cases ds_b t i <;> cases ds_ins w h i <;> rfl
  · rw [if_neg (show ¬ nI 1 &&& 1 = 0 by decide), if_pos (show nI 1 &&& 2 = 0 by decide)]
    refine ⟨_, rfl, fun i hi => ?_⟩
    rw [b_and, b_and, b_not hi, b_all hk hi]
    unfold ds_co
    cases ds_b o i <;> cases ds_b t i <;> cases ds_ins w h i <;> rfl
  · rw [if_pos (show nI 2 &&& 1 = 0 by decide), if_neg (show ¬ nI 2 &&& 2 = 0 by decide)]
    refine ⟨_, rfl, fun i hi => ?_⟩
    rw [b_and, b_and, b_not hi, b_all hk hi]
    unfold ds_co
    cases ds_b o i <;> cases ds_b t i <;> cases ds_ins w h i <;> rfl
  · rw [if_neg (show ¬ nI 3 &&& 1 = 0 by decide), if_neg (show ¬ nI 3 &&& 2 = 0 by decide)]
    refine ⟨_, rfl, fun i hi => ?_⟩
    rw [b_and, b_and, b_all hk hi]
    unfold ds_co
    cases ds_b o i <;> cases ds_b t i <;> cases ds_ins w h i <;> rfl
theorem p_colourAt {w h : Nat} (hk : ds_ok w h) (o t : Int64) {x y : Int} (a1 : -2147483648 ≤ x) (a2 : x < 2147483648) (a3 : -2147483648 ≤ y) (a4 : y < 2147483648) : fX6_colourAt (nI w) (nI h) o t (ds_z x) (ds_z y) = some (nI (ds_co o t (ds_ix w h x y))) := by
  have il := (ix_lt hk x y).2.2.1
  unfold fX6_colourAt fX6_colourAt_23 fX6_colourAt_39 ds_co
  rw [p_bop hk a1 a2 a3 a4, Option.bind_some]
  have g1 := b_has o il
  have g2 := b_has t il
  cases e1 : ds_b o (ds_ix w h x y)
  · rw [if_pos ((b_cmp _ _).mpr (g1.mpr e1))]
    cases e2 : ds_b t (ds_ix w h x y)
    · rw [if_pos ((b_cmp _ _).mpr (g2.mpr e2))]; rfl
    · rw [if_neg (fun z => by have := g2.mp ((b_cmp _ _).mp z); rw [e2] at this; cases this)]; rfl
  · rw [if_neg (fun z => by have := g1.mp ((b_cmp _ _).mp z); rw [e1] at this; cases this)]
    cases e2 : ds_b t (ds_ix w h x y)
    · rw [if_pos ((b_cmp _ _).mpr (g2.mpr e2))]; rfl
    · rw [if_neg (fun z => by have := g2.mp ((b_cmp _ _).mp z); rw [e2] at this; cases this)]; rfl
noncomputable def ds_cc (w h : Nat) (o t : Int64) (c : Nat) : Nat := ds_ct (fun i => ds_ins w h i && decide (ds_co o t i = c)) 64
theorem m_cellsOf {w h : Nat} (hk : ds_ok w h) {hex : Bool} {o t : Int64} {al : Nat → Int32} (hm : ds_MT w h hex o t al) {c : Nat} (hc : c < 4) : fX8_cellsOf al (nI c) = some (nI (ds_cc w h o t c)) := by
  obtain ⟨k1, k2, k3, k4⟩ := id hk
  obtain ⟨m0, m1, m2, m3⟩ := id hm
  have z0 : ∀ c : Nat, nI c + 0 = nI (c + 0) := fun c => by rw [show (0 : Int32) = nI 0 from rfl, nI_add]
  unfold fX8_cellsOf fX8_cellsOf_4
  obtain ⟨P, hP⟩ : ∃ P : Nat → Bool, ∀ i, P i = decide (ds_co o t i = c) := ⟨_, fun _ => rfl⟩
  have G := (ds_grid (OB := fun s => fX8_cellsOf_4_b al (nI c) s.1 s.2) (IB := fun y s => fX8_cellsOf_17_b al (nI c) (nI y) s.1 s.2) w h (fun n y => (nI n, nI y)) (fun n _ x => (nI n, nI x)) (fun n (x y : Nat) => n + (if P (8 * y + x) then 1 else 0)) (fun _ => True) (by omega) (by omega)
    (fun n y hy _ => by
      dsimp only
      unfold fX8_cellsOf_4_b
      rw [l_1, m1, if_neg (nI_ge hy (by omega))]; rfl)
    (fun n y x hy hx _ => by
      refine ⟨?_, trivial⟩
      dsimp only
      have mc := m_colour hk hm (x := (x : Int)) (y := (y : Int)) (by omega) (by omega) (by omega) (by omega)
      rw [← z_nI, ← z_nI, ix_in hx hy] at mc
      have cl := c_lt o t (8 * y + x)
      unfold fX8_cellsOf_17_b fX8_cellsOf_45
      rw [l_0, m0, if_neg (nI_ge hx (by omega)), mc, Option.bind_some, z0, nI_1, nI_1, hP]
      by_cases c1 : ds_co o t (8 * y + x) = c
      · rw [if_pos (by rw [c1]), decide_eq_true c1]; rfl
      · rw [if_neg (fun z => c1 ((n_inj (by omega) (by omega)).mp z)), decide_eq_false c1]; rfl)
    (fun n y hy _ => by
      dsimp only
      unfold fX8_cellsOf_17_b fX8_cellsOf_53
      rw [l_0, m0, if_pos (nI_le (Nat.le_refl _) (by omega)), Option.bind_some, nI_1])
    (o := fun n => some (nI n))
    (fun n _ => by
      dsimp only
      unfold fX8_cellsOf_4_b
      rw [l_1, m1, if_pos (nI_le (Nat.le_refl _) (by omega))]; rfl)
    0 trivial).1
  refine G.trans ?_
  rw [fg_ct P, rc_64 _ k2 k4, Nat.zero_add]
  unfold ds_cc
  congr 2
  exact ct_cong (fun i hi => by rw [hP])
