/-! turns about a point; colours used -/
theorem z_six {v : Int} (h1 : -2147483648 ≤ v) (h2 : v < 2147483648) : (ds_rem (ds_z v) (6 : Int32) = 0 ↔ ∃ u : Int, v = 6 * u) := by
  rw [show (6 : Int32) = ds_z 6 from rfl, z_rem h1 h2 (by omega) (by omega)]
  have a1 := Int.tmod_lt_of_pos v (show (0 : Int) < 6 by omega)
  have a2 := Int.lt_tmod_of_pos v (show (0 : Int) < 6 by omega)
  have a3 := Int.tmod_add_mul_tdiv v 6
  rw [z_eq0 (by omega) (by omega)]
  constructor
  · intro q; exact ⟨v.tdiv 6, by omega⟩
  · rintro ⟨u, rfl⟩; exact Int.mul_tmod_right 6 u
theorem z_sixth {u : Int} (h1 : -1000000 ≤ u) (h2 : u < 1000000) : ds_z (6 * u) / (6 : Int32) = ds_z u := by
  rw [show (6 : Int32) = ds_z 6 from rfl, z_div (by omega) (by omega) (by omega) (by omega), Int.mul_tdiv_cancel_left u (by omega)]
def ds_lv (w h : Nat) (hex : Bool) (o t : Int64) (x y : Int) (tn : Nat) : Prop := ∃ u v : Int, x - ds_tx hex tn x y = 6 * u ∧ y - ds_ty2 hex tn x y = 6 * v ∧ ds_Sy w h hex o t tn u v
noncomputable def ds_ta (w h : Nat) (hex : Bool) (o t : Int64) (x y : Int) : Nat := ds_ct (fun tn => ds_d (ds_lv w h hex o t x y tn)) (ds_n2 hex)
theorem g_leaves {w h : Nat} (hk : ds_ok w h) {hex : Bool} {o t : Int64} {fd : Nat → Int64} {tn : Nat} (hv : ds_GV w h hex o t fd tn) (ht : tn < ds_nt hex) {x y : Int} (h1 : -100 ≤ x) (h2 : x ≤ 100) (h3 : -100 ≤ y) (h4 : y ≤ 100) : fX0_leavesPoint (nI w) (nI h) (ds_q hex) fd (nI tn) (ds_z x) (ds_z y) = some (ds_q (ds_d (ds_lv w h hex o t x y tn))) := by
  obtain ⟨⟨s1, s2⟩, s3, s4⟩ := t_small ht h1 h2 h3 h4
  unfold fX0_leavesPoint ds_lv
  rw [p_tx ht, Option.bind_some, p_ty ht, Option.bind_some, z_sub, z_sub]
  by_cases c1 : ∃ u : Int, x - ds_tx hex tn x y = 6 * u
  · rw [if_pos ((z_six (by omega) (by omega)).mpr c1)]
    by_cases c2 : ∃ v : Int, y - ds_ty2 hex tn x y = 6 * v
    · rw [if_pos ((z_six (by omega) (by omega)).mpr c2)]
      obtain ⟨u, eu⟩ := c1
      obtain ⟨v, ev⟩ := c2
      rw [eu, ev, z_sixth (by omega) (by omega), z_sixth (by omega) (by omega), g_sym hk hv ht (by omega) (by omega) (by omega) (by omega), Option.bind_some]
      have e : ds_d (∃ u' v' : Int, 6 * u = 6 * u' ∧ 6 * v = 6 * v' ∧ ds_Sy w h hex o t tn u' v') = ds_d (ds_Sy w h hex o t tn u v) := by
        rw [Bool.eq_iff_iff, d_iff, d_iff]
        constructor
        · rintro ⟨u', v', e1, e2, s⟩
          rw [show u = u' by omega, show v = v' by omega]; exact s
        · intro s; exact ⟨u, v, rfl, rfl, s⟩
      rw [e]
      cases ds_d (ds_Sy w h hex o t tn u v) <;> rfl
    · rw [if_neg (fun z => c2 ((z_six (by omega) (by omega)).mp z)), d_false (fun ⟨u, v, e1, e2, s⟩ => c2 ⟨v, e2⟩)]; rfl
  · rw [if_neg (fun z => c1 ((z_six (by omega) (by omega)).mp z)), d_false (fun ⟨u, v, e1, e2, s⟩ => c1 ⟨u, e1⟩)]; rfl
theorem g_turnsAt {w h : Nat} (hk : ds_ok w h) {hex : Bool} {o t : Int64} {fd : Nat → Int64} (hv : ∀ tn, tn < 12 → ds_GV w h hex o t fd tn) {x y : Int} (h1 : -100 ≤ x) (h2 : x ≤ 100) (h3 : -100 ≤ y) (h4 : y ≤ 100) : fX0_turnsAt (nI w) (nI h) (ds_q hex) fd (ds_z x) (ds_z y) = some (nI (ds_ta w h hex o t x y)) := by
  obtain ⟨n1, n2, n3, n4⟩ := nt_le hex
  unfold fX0_turnsAt fX0_turnsAt_5 ds_ta
  refine ds_it_up _ (fun k => (nI (ds_ct (fun tn => ds_d (ds_lv w h hex o t x y tn)) k), nI k)) (ds_n2 hex) 1000 (some (nI (ds_ct (fun tn => ds_d (ds_lv w h hex o t x y tn)) (ds_n2 hex)))) (fun k hk2 => ?_) ?_ (by omega)
  · dsimp only
    have g := GV_0 hk (hv k (by omega)) (show k < ds_nt hex by omega)
    unfold fX0_turnsAt_5_b fX0_turnsAt_45
    rw [(p_nt hex).2, Option.bind_some, if_neg (nI_ge hk2 (by omega)), p_sf (by omega), Option.bind_some, g_leaves hk (hv k (by omega)) (by omega) h1 h2 h3 h4, Option.bind_some, nI_1, nI_1]
    show _ = some (Sum.inl (nI (ds_ct (fun tn => ds_d (ds_lv w h hex o t x y tn)) k + (if ds_d (ds_lv w h hex o t x y k) = true then 1 else 0)), nI (k + 1)))
    generalize ds_ct (fun tn => ds_d (ds_lv w h hex o t x y tn)) k = C
    by_cases c : fd k = 0
    · rw [if_pos ((b_cmp _ _).mpr c)]
      have nn : ¬ ds_lv w h hex o t x y k := by
        rintro ⟨u, v, _, _, s⟩
        have := g.mp c
        unfold ds_hs at this
        rw [d_true ⟨_, _, s⟩] at this; cases this
      rw [d_false nn]; rfl
    · rw [if_neg (fun z => c ((b_cmp _ _).mp z))]
      cases ds_d (ds_lv w h hex o t x y k) <;> rfl
  · dsimp only
    unfold fX0_turnsAt_5_b
    rw [(p_nt hex).2, Option.bind_some, if_pos (nI_le (Nat.le_refl _) (by omega))]; rfl
theorem m_turnsAt {w h : Nat} (hk : ds_ok w h) {hex : Bool} {o t : Int64} {al sh : Nat → Int32} (hm : ds_MT w h hex o t al) (h01 : ds_01 sh) (hv : ∀ tn, tn < ds_nt hex → ds_SV w h hex o t sh tn) {x y : Int} (h1 : -100 ≤ x) (h2 : x ≤ 100) (h3 : -100 ≤ y) (h4 : y ≤ 100) : fX8_turnsAt al ds_tabF sh (ds_z x) (ds_z y) = some (nI (ds_ta w h hex o t x y)) := by
  obtain ⟨n1, n2, n3, n4⟩ := nt_le hex
  obtain ⟨m0, m1, m2, m3⟩ := id hm
  unfold fX8_turnsAt fX8_turnsAt_5 ds_ta
  refine ds_it_up _ (fun k => (nI (ds_ct (fun tn => ds_d (ds_lv w h hex o t x y tn)) k), nI k)) (ds_n2 hex) 1000 (some (nI (ds_ct (fun tn => ds_d (ds_lv w h hex o t x y tn)) (ds_n2 hex)))) (fun k hk2 => ?_) ?_ (by omega)
  · dsimp only
    have ht : k < ds_nt hex := by omega
    obtain ⟨⟨s1, s2⟩, s3, s4⟩ := t_small ht h1 h2 h3 h4
    have z0 : ∀ c : Nat, nI c + 0 = nI (c + 0) := fun c => by rw [show (0 : Int32) = nI 0 from rfl, nI_add]
    unfold fX8_turnsAt_5_b fX8_turnsAt_60 fX8_turnsAt_61 fX8_turnsAt_92 fX8_turnsAt_93
    rw [m_turnings m2, Option.bind_some, nt_half, if_neg (nI_ge hk2 (by omega)), m_tx m2 ht, Option.bind_some, m_ty m2 ht, Option.bind_some, z_sub, z_sub, if_pos (rfl : (0 : Int32) = 0), if_neg (show ¬ (1 : Int32) = 0 by decide), z0, nI_1, nI_1]
    show _ = some (Sum.inl (nI (ds_ct (fun tn => ds_d (ds_lv w h hex o t x y tn)) k + (if ds_d (ds_lv w h hex o t x y k) = true then 1 else 0)), nI (k + 1)))
    generalize ds_ct (fun tn => ds_d (ds_lv w h hex o t x y tn)) k = C
    by_cases c1 : ∃ u : Int, x - ds_tx hex k x y = 6 * u
    · rw [if_pos ((z_six (by omega) (by omega)).mpr c1)]
      by_cases c2 : ∃ v : Int, y - ds_ty2 hex k x y = 6 * v
      · rw [if_pos ((z_six (by omega) (by omega)).mpr c2)]
        obtain ⟨u, eu⟩ := c1
        obtain ⟨v, ev⟩ := c2
        have e : ds_d (ds_lv w h hex o t x y k) = ds_d (ds_Sy w h hex o t k u v) := by
          unfold ds_lv
          rw [Bool.eq_iff_iff, d_iff, d_iff]
          constructor
          · rintro ⟨u', v', e1, e2, s⟩
            rw [show u = u' by omega, show v = v' by omega]; exact s
          · intro s; exact ⟨u, v, eu, ev, s⟩
        rw [e, eu, ev, z_sixth (by omega) (by omega), z_sixth (by omega) (by omega), m_sym hk hm h01 ht (hv k ht) (by omega) (by omega) (by omega) (by omega), Option.bind_some]
        cases ds_d (ds_Sy w h hex o t k u v) <;> rfl
      · rw [if_neg (fun z => c2 ((z_six (by omega) (by omega)).mp z)), d_false (fun ⟨u, v, e1, e2, s⟩ => c2 ⟨v, e2⟩)]; rfl
    · rw [if_neg (fun z => c1 ((z_six (by omega) (by omega)).mp z)), d_false (fun ⟨u, v, e1, e2, s⟩ => c1 ⟨u, e1⟩)]; rfl
  · dsimp only
    unfold fX8_turnsAt_5_b
    rw [m_turnings m2, Option.bind_some, nt_half, if_pos (nI_le (Nat.le_refl _) (by omega))]; rfl
/-- which colours are there, as bits -/
theorem u_bits : ∀ n, n < 16 → ∀ c, c < 4 → nI n ||| ((1 : Int32) <<< (nI c &&& 31)) = nI (n ||| (1 <<< c)) ∧ n ||| (1 <<< c) < 16 ∧ ∀ d, d < 4 → (n ||| (1 <<< c)).testBit d = (n.testBit d || decide (d = c)) := by decide +kernel
theorem u_ones : ∀ n, n < 16 → fX8_ones (nI n) = some (nI (ds_ct (fun c => n.testBit c) 4)) := by decide +kernel
theorem m_there {w h : Nat} (hk : ds_ok w h) {hex : Bool} {o t : Int64} {al : Nat → Int32} (hm : ds_MT w h hex o t al) : ∃ n, fX8_coloursThere al = some (nI n) ∧ n < 16 ∧ ∀ c, c < 4 → (n.testBit c = true ↔ ∃ x y : Nat, x < w ∧ y < h ∧ ds_co o t (8 * y + x) = c) := by
  obtain ⟨k1, k2, k3, k4⟩ := id hk
  obtain ⟨m0, m1, m2, m3⟩ := id hm
  suffices hq : ∃ r, fX8_coloursThere al = some r ∧ ∃ n, r = nI n ∧ n < 16 ∧ ∀ c, c < 4 → (n.testBit c = true ↔ ∃ x y : Nat, x < w ∧ y < h ∧ ds_co o t (8 * y + x) = c) by
    obtain ⟨r, e, n, rfl, g⟩ := hq; exact ⟨n, e, g⟩
  unfold fX8_coloursThere fX8_coloursThere_4
  refine ds_it_inv _ (fun k s => s.2 = nI k ∧ ∃ n, s.1 = nI n ∧ n < 16 ∧ ∀ c, c < 4 → (n.testBit c = true ↔ ∃ x y : Nat, x < w ∧ y < k ∧ ds_co o t (8 * y + x) = c)) _ h 1000 0 _ (Nat.zero_le _) ⟨rfl, 0, rfl, by omega, fun c _ => ⟨fun q => (by rw [Nat.zero_testBit] at q; cases q), fun ⟨x, y, _, q, _⟩ => absurd q (Nat.not_lt_zero y)⟩⟩ (by omega) ?_ ?_
  · rintro y ⟨s1, s2⟩ hy ⟨e1, e2⟩
    dsimp only at e1 e2
    subst e1
    left
    dsimp only
    unfold fX8_coloursThere_4_b
    rw [l_1, m1, if_neg (nI_ge hy (by omega))]
    unfold fX8_coloursThere_16
    suffices hq : ∃ r, ds_it (fun s => fX8_coloursThere_16_b al (nI y) s.1 s.2) 1000 (s1, (0 : Int32)) = some r ∧ ∃ s', r = .inl s' ∧ s'.2 = nI (y + 1) ∧ ∃ n, s'.1 = nI n ∧ n < 16 ∧ ∀ c, c < 4 → (n.testBit c = true ↔ ∃ x y' : Nat, x < w ∧ y' < y + 1 ∧ ds_co o t (8 * y' + x) = c) by
      obtain ⟨r, e, s', rfl, e3, e4⟩ := hq; exact ⟨s', e, e3, e4⟩
    refine ds_it_inv _ (fun k s => s.2 = nI k ∧ ∃ n, s.1 = nI n ∧ n < 16 ∧ ∀ c, c < 4 → (n.testBit c = true ↔ ∃ x y' : Nat, x < w ∧ (y' < y ∨ (y' = y ∧ x < k)) ∧ ds_co o t (8 * y' + x) = c)) _ w 1000 0 _ (Nat.zero_le _) ⟨rfl, ?_⟩ (by omega) ?_ ?_
    · obtain ⟨n, f1, f2, f3⟩ := e2
      refine ⟨n, f1, f2, fun c hc => ?_⟩
      rw [f3 c hc]
      constructor
      · rintro ⟨x, y', q1, q2, q3⟩; exact ⟨x, y', q1, Or.inl q2, q3⟩
      · rintro ⟨x, y', q1, q2, q3⟩; exact ⟨x, y', q1, by omega, q3⟩
    · rintro x ⟨t1, t2⟩ hx ⟨f1, n, f2, f3, f4⟩
      dsimp only at f1 f2
      subst f1 f2
      left
      dsimp only
      have mc := m_colour hk hm (x := (x : Int)) (y := (y : Int)) (by omega) (by omega) (by omega) (by omega)
      rw [← z_nI, ← z_nI, ix_in hx hy] at mc
      have cl := c_lt o t (8 * y + x)
      obtain ⟨u1, u2, u3⟩ := u_bits n f3 _ cl
      unfold fX8_coloursThere_16_b
      rw [l_0, m0, if_neg (nI_ge hx (by omega)), mc, Option.bind_some, u1, nI_1]
      refine ⟨_, rfl, rfl, _, rfl, u2, fun c hc => ?_⟩
      rw [u3 c hc, Bool.or_eq_true, f4 c hc, decide_eq_true_iff]
      constructor
      · rintro (⟨x', y', q1, q2, q3⟩ | q)
        · exact ⟨x', y', q1, by omega, q3⟩
        · exact ⟨x, y, hx, by omega, q.symm⟩
      · rintro ⟨x', y', q1, q2, q3⟩
        by_cases e : y' = y ∧ x' = x
        · obtain ⟨rfl, rfl⟩ := e
          exact Or.inr q3.symm
        · exact Or.inl ⟨x', y', q1, by omega, q3⟩
    · rintro ⟨t1, t2⟩ ⟨f1, n, f2, f3, f4⟩
      dsimp only at f1 f2
      subst f1 f2
      dsimp only
      unfold fX8_coloursThere_16_b fX8_coloursThere_43
      rw [l_0, m0, if_pos (nI_le (Nat.le_refl _) (by omega)), Option.bind_some, nI_1]
      refine ⟨_, rfl, _, rfl, rfl, n, rfl, f3, fun c hc => ?_⟩
      rw [f4 c hc]
      constructor
      · rintro ⟨x, y', q1, q2, q3⟩; exact ⟨x, y', q1, by omega, q3⟩
      · rintro ⟨x, y', q1, q2, q3⟩; exact ⟨x, y', q1, by omega, q3⟩
  · rintro ⟨s1, s2⟩ ⟨e1, e2⟩
    dsimp only at e1 e2
    subst e1
    dsimp only
    unfold fX8_coloursThere_4_b
    rw [l_1, m1, if_pos (nI_le (Nat.le_refl _) (by omega))]
    exact ⟨_, rfl, e2⟩
