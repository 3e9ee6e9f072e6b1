/-! the reference's tile: colours, turnings, shifts -/
def ds_co (o t : Int64) (i : Nat) : Nat := (if ds_b o i then 1 else 0) + (if ds_b t i then 2 else 0)
theorem c_lt (o t : Int64) (i : Nat) : ds_co o t i < 4 := by unfold ds_co; split <;> split <;> omega
theorem c_eq (o t o' t' : Int64) (i j : Nat) : ds_co o t i = ds_co o' t' j ↔ ds_b o i = ds_b o' j ∧ ds_b t i = ds_b t' j := by
  unfold ds_co
  cases ds_b o i <;> cases ds_b t i <;> cases ds_b o' j <;> cases ds_b t' j <;> simp
def ds_MT (w h : Nat) (hex : Bool) (o t : Int64) (al : Nat → Int32) : Prop := al 0 = nI w ∧ al 1 = nI h ∧ al 2 = ds_q hex ∧ ∀ i, i < 64 → al (3 + i) = nI (ds_co o t i)
theorem l_0 : (0 : Int32).toNatClampNeg = 0 := rfl
theorem l_1 : (1 : Int32).toNatClampNeg = 1 := rfl
theorem l_2 : (2 : Int32).toNatClampNeg = 2 := rfl
theorem in_nI {k n : Nat} (h : k < n) (hn : n < 2147483648) : ds_in (nI k) n = true := by
  unfold ds_in
  rw [nI_clamp (by omega)]
  have h1 : ¬ nI k < 0 := nI_pos (by omega)
  simp [h1]; omega
theorem m_rest {z : Int} {b : Nat} (h1 : -2147483648 ≤ z) (h2 : z < 2147483648) (h3 : 1 ≤ b) (h4 : b < 1000) : fX8_rest (ds_z z) (nI b) = some (nI (z % b).toNat) := by
  have := p_rest h1 h2 h3 h4
  unfold fX7_rest at this
  rw [if_pos (by rw [z_nI, show (0 : Int32) = ds_z 0 from rfl]; exact (z_lt (by omega) (by omega) (by omega) (by omega)).mpr (by omega))] at this
  exact this
theorem m_at {w h : Nat} (hk : ds_ok w h) {al : Nat → Int32} (h0 : al 0 = nI w) (h1 : al 1 = nI h) {x y : Int} (a1 : -2147483648 ≤ x) (a2 : x < 2147483648) (a3 : -2147483648 ≤ y) (a4 : y < 2147483648) : fX8_at al (ds_z x) (ds_z y) = some (nI (ds_ix w h x y)) := by
  obtain ⟨k1, k2, k3, k4⟩ := id hk
  unfold fX8_at
  rw [l_0, l_1, h0, h1, m_rest a3 a4 k3 (by omega), Option.bind_some, m_rest a1 a2 k1 (by omega), Option.bind_some, z_idx hk]
theorem m_colour {w h : Nat} (hk : ds_ok w h) {hex : Bool} {o t : Int64} {al : Nat → Int32} (hm : ds_MT w h hex o t al) {x y : Int} (a1 : -2147483648 ≤ x) (a2 : x < 2147483648) (a3 : -2147483648 ≤ y) (a4 : y < 2147483648) : fX8_colour al (ds_z x) (ds_z y) = some (nI (ds_co o t (ds_ix w h x y))) := by
  obtain ⟨m0, m1, m2, m3⟩ := hm
  have := (ix_lt hk x y).2.2.1
  unfold fX8_colour
  rw [m_at hk m0 m1 a1 a2 a3 a4, Option.bind_some, show (3 : Int32) = nI 3 from rfl, nI_add, if_pos (in_nI (by omega) (by omega)), nI_clamp (by omega), m3 _ this]
theorem m_turnings {hex : Bool} {al : Nat → Int32} (h2 : al 2 = ds_q hex) : fX8_turnings al = some (nI (ds_nt hex)) := by
  unfold fX8_turnings
  rw [l_2, h2]
  cases hex <;> rfl
theorem tabF_I : ∀ k, k < 80 → ds_tabF k = ds_z (ds_tabI.getD k 0) := by decide +kernel
theorem m_tx {hex : Bool} {al : Nat → Int32} (h2 : al 2 = ds_q hex) {t : Nat} (ht : t < ds_nt hex) (x y : Int) : fX8_turnX al ds_tabF (nI t) (ds_z x) (ds_z y) = some (ds_z (ds_tx hex t x y)) := by
  have hl := n_lt ht
  have g : ∀ s : Nat, 4 * t + s = 4 * ds_ln hex t → fX8_turnX_19 ds_tabF (ds_z x) (ds_z y) (nI s) (nI (4 * t)) = some (ds_z (ds_tx hex t x y)) := by
    intro s hs
    unfold fX8_turnX_19
    rw [nI_add, hs, show (1 : Int32) = nI 1 from rfl, nI_add, if_pos (in_nI (by omega) (by omega)), if_pos (in_nI (by omega) (by omega)), nI_clamp (by omega), nI_clamp (by omega), tabF_I _ (by omega), tabF_I _ (by omega), z_mul, z_mul, z_add]
    rfl
  unfold fX8_turnX
  rw [l_2, h2, n_4]
  cases hex
  · rw [if_neg (by decide)]; exact g 0 (by unfold ds_ln; simp)
  · rw [if_pos (by decide)]; exact g 32 (by unfold ds_ln; simp; omega)
theorem m_ty {hex : Bool} {al : Nat → Int32} (h2 : al 2 = ds_q hex) {t : Nat} (ht : t < ds_nt hex) (x y : Int) : fX8_turnY al ds_tabF (nI t) (ds_z x) (ds_z y) = some (ds_z (ds_ty2 hex t x y)) := by
  have hl := n_lt ht
  have g : ∀ s : Nat, 4 * t + s = 4 * ds_ln hex t → fX8_turnY_19 ds_tabF (ds_z x) (ds_z y) (nI s) (nI (4 * t)) = some (ds_z (ds_ty2 hex t x y)) := by
    intro s hs
    unfold fX8_turnY_19
    rw [nI_add, hs, show (2 : Int32) = nI 2 from rfl, show (3 : Int32) = nI 3 from rfl, nI_add, nI_add, if_pos (in_nI (by omega) (by omega)), if_pos (in_nI (by omega) (by omega)), nI_clamp (by omega), nI_clamp (by omega), tabF_I _ (by omega), tabF_I _ (by omega), z_mul, z_mul, z_add]
    rfl
  unfold fX8_turnY
  rw [l_2, h2, n_4]
  cases hex
  · rw [if_neg (by decide)]; exact g 0 (by unfold ds_ln; simp)
  · rw [if_pos (by decide)]; exact g 32 (by unfold ds_ln; simp; omega)
theorem t_small {hex : Bool} {t : Nat} (ht : t < ds_nt hex) {x y n : Int} (h1 : -n ≤ x) (h2 : x ≤ n) (h3 : -n ≤ y) (h4 : y ≤ n) : (-(2 * n) ≤ ds_tx hex t x y ∧ ds_tx hex t x y ≤ 2 * n) ∧ -(2 * n) ≤ ds_ty2 hex t x y ∧ ds_ty2 hex t x y ≤ 2 * n := by
  have tb : ∀ (a z : Int), -n ≤ a → a ≤ n → -1 ≤ z → z ≤ 1 → -n ≤ z * a ∧ z * a ≤ n := by
    intro a z q1 q2 h1 h2
    have : z = -1 ∨ z = 0 ∨ z = 1 := by omega
    rcases this with rfl | rfl | rfl <;> omega
  have c0 := tb x _ h1 h2 (n_small hex t ht 0 (by omega)).1 (n_small hex t ht 0 (by omega)).2
  have c1 := tb y _ h3 h4 (n_small hex t ht 1 (by omega)).1 (n_small hex t ht 1 (by omega)).2
  have c2 := tb x _ h1 h2 (n_small hex t ht 2 (by omega)).1 (n_small hex t ht 2 (by omega)).2
  have c3 := tb y _ h3 h4 (n_small hex t ht 3 (by omega)).1 (n_small hex t ht 3 (by omega)).2
  unfold ds_tx ds_ty2
  omega
def ds_Al (w h : Nat) (hex : Bool) (o t : Int64) (tn : Nat) (dx dy : Int) : Prop := ∀ x y : Nat, x < w → y < h → ds_P w h o t (ds_tx hex tn x y + dx) (ds_ty2 hex tn x y + dy) = ds_P w h o t x y
theorem P_c {w h : Nat} {o t o' t' : Int64} {x y u v : Int} : ds_co o t (ds_ix w h x y) = ds_co o' t' (ds_ix w h u v) ↔ ds_P w h o t x y = ds_P w h o' t' u v := by
  rw [c_eq]; unfold ds_P ds_pt
  constructor
  · intro q; rw [q.1, q.2]
  · intro q; exact ⟨(Prod.mk.inj q).1, (Prod.mk.inj q).2⟩
theorem m_alike {w h : Nat} (hk : ds_ok w h) {hex : Bool} {o t : Int64} {al : Nat → Int32} (hm : ds_MT w h hex o t al) {tn : Nat} (ht : tn < ds_nt hex) {dx dy : Int} (b1 : -1000 ≤ dx) (b2 : dx ≤ 1000) (b3 : -1000 ≤ dy) (b4 : dy ≤ 1000) : ∃ q : Bool, fX8_isAlike al ds_tabF (nI tn) (ds_z dx) (ds_z dy) = some (ds_q q) ∧ (q = true ↔ ds_Al w h hex o t tn dx dy) := by
  obtain ⟨k1, k2, k3, k4⟩ := id hk
  obtain ⟨m0, m1, m2, m3⟩ := id hm
  unfold fX8_isAlike fX8_isAlike_3
  suffices hs : ∃ r, ds_it (fun s => fX8_isAlike_3_b al ds_tabF (nI tn) (ds_z dx) (ds_z dy) s) 1000 (0 : Int32) = some r ∧ ∃ q : Bool, r = ds_q q ∧ (q = true ↔ ds_Al w h hex o t tn dx dy) by
    obtain ⟨r, e, q, rfl, hq⟩ := hs
    exact ⟨q, e, hq⟩
  refine ds_it_inv _ (fun k s => s = nI k ∧ ∀ x y : Nat, x < w → y < k → ds_P w h o t (ds_tx hex tn x y + dx) (ds_ty2 hex tn x y + dy) = ds_P w h o t x y) _ h 1000 0 _ (Nat.zero_le _) ⟨rfl, fun x y _ hy => absurd hy (Nat.not_lt_zero y)⟩ (by omega) ?_ ?_
  · rintro y s hy ⟨rfl, f⟩
    try dsimp only
    unfold fX8_isAlike_3_b
    rw [l_1, m1, if_neg (nI_ge hy (by omega))]
    unfold fX8_isAlike_17
    have key : ∃ r, ds_it (fun s => fX8_isAlike_17_b al ds_tabF (nI tn) (ds_z dx) (ds_z dy) (nI y) s) 1000 (0 : Int32) = some r ∧ ((r = .inl (nI (y + 1)) ∧ ∀ x y' : Nat, x < w → y' < y + 1 → ds_P w h o t (ds_tx hex tn x y' + dx) (ds_ty2 hex tn x y' + dy) = ds_P w h o t x y') ∨ (r = .inr 0 ∧ ¬ ds_Al w h hex o t tn dx dy)) := by
      refine ds_it_inv _ (fun k s => s = nI k ∧ ∀ x : Nat, x < k → ds_P w h o t (ds_tx hex tn x y + dx) (ds_ty2 hex tn x y + dy) = ds_P w h o t x y) _ w 1000 0 _ (Nat.zero_le _) ⟨rfl, fun x hx => absurd hx (Nat.not_lt_zero x)⟩ (by omega) ?_ ?_
      · rintro x s hx ⟨rfl, g⟩
        try dsimp only
        unfold fX8_isAlike_17_b
        have ts := t_small ht (x := x) (y := y) (n := 8) (by omega) (by omega) (by omega) (by omega)
        rw [l_0, m0, if_neg (nI_ge hx (by omega)), z_nI x, z_nI y, m_colour hk hm (by omega) (by omega) (by omega) (by omega), Option.bind_some, m_tx m2 ht, Option.bind_some, m_ty m2 ht, Option.bind_some, z_add, z_add, m_colour hk hm (by omega) (by omega) (by omega) (by omega), Option.bind_some]
        by_cases e : ds_P w h o t (ds_tx hex tn x y + dx) (ds_ty2 hex tn x y + dy) = ds_P w h o t x y
        · left
          rw [if_pos (by rw [P_c.mpr e])]
          refine ⟨_, rfl, ?_, fun x' hx' => ?_⟩
          · rw [← z_nI, nI_1]
          · by_cases e2 : x' = x
            · subst e2; exact e
            · exact g x' (by omega)
        · right
          rw [if_neg (fun q => e (P_c.mp ((nI_eq (by have := c_lt o t (ds_ix w h x y); omega) (by have := c_lt o t (ds_ix w h (ds_tx hex tn x y + dx) (ds_ty2 hex tn x y + dy)); omega)).mp q).symm))]
          exact ⟨_, rfl, Or.inr ⟨rfl, fun q => e (q x y hx hy)⟩⟩
      · rintro s ⟨rfl, g⟩
        try dsimp only
        unfold fX8_isAlike_17_b
        rw [l_0, m0, if_pos (nI_le (Nat.le_refl w) (by omega))]
        refine ⟨_, rfl, Or.inl ⟨by rw [nI_1], fun x y' hx hy' => ?_⟩⟩
        by_cases e2 : y' = y
        · subst e2; exact g x hx
        · exact f x y' hx (by omega)
    obtain ⟨r, er, ⟨rfl, q⟩ | ⟨rfl, q⟩⟩ := key
    · left; exact ⟨_, er, rfl, q⟩
    · right; exact ⟨_, er, false, rfl, ⟨fun z => (by cases z), fun z => absurd z q⟩⟩
  · rintro s ⟨rfl, f⟩
    try dsimp only
    unfold fX8_isAlike_3_b
    rw [l_1, m1, if_pos (nI_le (Nat.le_refl h) (by omega))]
    exact ⟨_, rfl, true, rfl, ⟨fun _ x y hx hy => f x y hx hy, fun _ => rfl⟩⟩
