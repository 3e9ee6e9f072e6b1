/-! single symmetries asked for; mirrors on both sides -/
theorem p_bop {w h : Nat} (hk : ds_ok w h) {x y : Int} (a1 : -2147483648 ≤ x) (a2 : x < 2147483648) (a3 : -2147483648 ≤ y) (a4 : y < 2147483648) : fX6_bitOfPlane (nI w) (nI h) (ds_z x) (ds_z y) = some (ds_lshl 1 (nI (ds_ix w h x y))) := by
  obtain ⟨k1, k2, k3, k4⟩ := id hk
  obtain ⟨i1, i2, i3, i4, i5⟩ := ix_lt hk x y
  unfold fX6_bitOfPlane
  rw [p_rest a1 a2 k1 (by omega), Option.bind_some, p_rest a3 a4 k3 (by omega), Option.bind_some, p_bit (by omega) (by omega), Option.bind_some]
  rfl
theorem b_has (a : Int64) {n : Nat} (hn : n < 64) : a &&& ds_lshl 1 (nI n) = 0 ↔ ds_b a n = false := by
  constructor
  · intro e
    have := congrArg (fun z => ds_b z n) e
    try dsimp only at this
    rw [b_and, b_bit n hn n hn, b_zero, decide_eq_true rfl, Bool.and_true] at this
    exact this
  · intro e
    apply b_ext
    intro i hi
    rw [b_and, b_bit n hn i hi, b_zero]
    by_cases h : i = n
    · subst h; rw [e]; rfl
    · simp [h]
theorem sy_ix {w h : Nat} (hk : ds_ok w h) {hex : Bool} {o t : Int64} {tn : Nat} {x y : Int} : (ds_ins w h (ds_ix w h x y) && ds_sb w h hex o t tn (ds_ix w h x y)) = ds_d (ds_Sy w h hex o t tn x y) := by
  obtain ⟨i1, i2, i3, i4, i5⟩ := ix_lt hk x y
  obtain ⟨k1, k2, k3, k4⟩ := id hk
  have e1 : ds_ins w h (ds_ix w h x y) = true := by unfold ds_ins; rw [i4, i5]; simp [i1, i2]
  rw [e1, Bool.true_and]
  unfold ds_sb
  rw [i4, i5]
  have a1 := Int.emod_nonneg x (b := (w : Int)) (by omega)
  have a3 := Int.emod_nonneg y (b := (h : Int)) (by omega)
  rw [Int.toNat_of_nonneg a1, Int.toNat_of_nonneg a3, Bool.eq_iff_iff, d_iff, d_iff, Sy_mod]
theorem g_sym {w h : Nat} (hk : ds_ok w h) {hex : Bool} {o t : Int64} {fd : Nat → Int64} {tn : Nat} (hv : ds_GV w h hex o t fd tn) (ht : tn < ds_nt hex) {x y : Int} (a1 : -2147483648 ≤ x) (a2 : x < 2147483648) (a3 : -2147483648 ≤ y) (a4 : y < 2147483648) : fX0_hasSymmetry fd (nI w) (nI h) (nI tn) (ds_z x) (ds_z y) = some (ds_q (ds_d (ds_Sy w h hex o t tn x y))) := by
  obtain ⟨n1, n2, n3, n4⟩ := nt_le hex
  have il := (ix_lt hk x y).2.2.1
  unfold fX0_hasSymmetry
  rw [p_sf (by omega), Option.bind_some, p_bop hk a1 a2 a3 a4, Option.bind_some]
  have e := GV_b hk hv ht il
  rw [sy_ix hk] at e
  have g := b_has (fd tn) il
  rw [e] at g
  cases z : ds_d (ds_Sy w h hex o t tn x y)
  · rw [if_pos ((b_cmp _ _).mpr (g.mpr z))]; rfl
  · rw [if_neg (fun q => by have := g.mp ((b_cmp _ _).mp q); rw [z] at this; cases this)]; rfl
theorem m_sym {w h : Nat} (hk : ds_ok w h) {hex : Bool} {o t : Int64} {al sh : Nat → Int32} (hm : ds_MT w h hex o t al) (h01 : ds_01 sh) {tn : Nat} (ht : tn < ds_nt hex) (hv : ds_SV w h hex o t sh tn) {x y : Int} (a1 : -2147483648 ≤ x) (a2 : x < 2147483648) (a3 : -2147483648 ≤ y) (a4 : y < 2147483648) : fX8_isShiftOf al sh (nI tn) (ds_z x) (ds_z y) = some (ds_q (ds_d (ds_Sy w h hex o t tn x y))) := by
  obtain ⟨n1, n2, n3, n4⟩ := nt_le hex
  obtain ⟨m0, m1, m2, m3⟩ := hm
  obtain ⟨i1, i2, i3, i4, i5⟩ := ix_lt hk x y
  obtain ⟨k1, k2, k3, k4⟩ := id hk
  have e64 : (64 : Int32) * nI tn = nI (64 * tn) := by
    rw [z_nI, z_nI, show (64 : Int32) = ds_z 64 from rfl, z_mul]; congr 1
  unfold fX8_isShiftOf
  rw [m_at hk m0 m1 a1 a2 a3 a4, Option.bind_some, e64, nI_add, if_pos (in_nI (by omega) (by omega)), nI_clamp (by omega), if_pos (h01 _)]
  have q := hv _ _ i1 i2
  rw [show 64 * tn + 8 * (y % h).toNat + (x % w).toNat = 64 * tn + ds_ix w h x y by unfold ds_ix; omega] at q
  have b1 := Int.emod_nonneg x (b := (w : Int)) (by omega)
  have b3 := Int.emod_nonneg y (b := (h : Int)) (by omega)
  rw [Int.toNat_of_nonneg b1, Int.toNat_of_nonneg b3, Sy_mod] at q
  rcases h01 (64 * tn + ds_ix w h x y) with e | e
  · rw [e] at q ⊢
    rw [d_false (fun z => absurd (q.mpr z) (by decide))]; rfl
  · rw [e] at q ⊢
    rw [d_true (q.mp rfl)]; rfl
-- mirrors
def ds_acrI : List Int := [0, 0, 0, 0, 0, 0, 0, 0, 0, 1, 1, 0, 1, -1, 1, 1, 0, 0, 0, 0, 0, 0, 0, 0, 0, 0, 0, 0, 1, -1, 1, 1, 1, -2, 1, 0, 0, 1, 2, -1]
def ds_ax (hex : Bool) (t : Nat) : Int := ds_acrI.getD (2 * ds_ln hex t) 0
def ds_ay (hex : Bool) (t : Nat) : Int := ds_acrI.getD (2 * ds_ln hex t + 1) 0
theorem n_entry1 : ∀ k, k < 40 → fX1_entry_t1 (nI k) = some (ds_z (ds_acrI.getD k 0)) := by decide +kernel
theorem n_2 (k : Nat) : (2 : Int32) * nI k = nI (2 * k) := by
  rw [z_nI, z_nI, show (2 : Int32) = ds_z 2 from rfl, z_mul]; congr 1
theorem p_ax {hex : Bool} {t : Nat} (ht : t < ds_nt hex) : fX1_acrossX (ds_q hex) (nI t) = some (ds_z (ds_ax hex t)) ∧ fX1_acrossY (ds_q hex) (nI t) = some (ds_z (ds_ay hex t)) := by
  have := n_lt ht
  constructor
  · unfold fX1_acrossX
    rw [n_line, Option.bind_some, n_2, n_entry1 _ (by omega), Option.bind_some]; rfl
  · unfold fX1_acrossY
    rw [n_line, Option.bind_some, n_2, show (1 : Int32) = nI 1 from rfl, nI_add, n_entry1 _ (by omega), Option.bind_some]; rfl
theorem a_small : ∀ hex : Bool, ∀ t, t < ds_nt hex → -2 ≤ ds_ax hex t ∧ ds_ax hex t ≤ 2 ∧ -2 ≤ ds_ay hex t ∧ ds_ay hex t ≤ 2 := by decide +kernel
theorem a_flip : ∀ hex : Bool, ∀ t, t < ds_nt hex → ds_n2 hex ≤ t → (ds_tx hex t (ds_ax hex t) (ds_ay hex t) = -ds_ax hex t ∧ ds_ty2 hex t (ds_ax hex t) (ds_ay hex t) = -ds_ay hex t) ∧ (ds_ax hex t ≠ 0 ∨ ds_ay hex t ≠ 0) := by decide +kernel
/-- the small steps that a flip turns round are multiples of one -/
theorem a_all0 : ∀ hex : Bool, ∀ t, t < ds_nt hex → ∀ i, i < 5 → ∀ j, j < 5 → (!decide (ds_n2 hex ≤ t ∧ ds_tx hex t ((i : Nat) - 2 : Int) ((j : Nat) - 2 : Int) = -((i : Nat) - 2 : Int) ∧ ds_ty2 hex t ((i : Nat) - 2 : Int) ((j : Nat) - 2 : Int) = -((j : Nat) - 2 : Int)) || (List.range 5).any (fun c => decide ((i : Int) - 2 = ((c : Nat) - 2 : Int) * ds_ax hex t ∧ (j : Int) - 2 = ((c : Nat) - 2 : Int) * ds_ay hex t))) = true := by decide +kernel
theorem a_all (hex : Bool) (t : Nat) (ht : t < ds_nt hex) (hf : ds_n2 hex ≤ t) (i : Nat) (hi : i < 5) (j : Nat) (hj : j < 5) (h1 : ds_tx hex t ((i : Nat) - 2 : Int) ((j : Nat) - 2 : Int) = -((i : Nat) - 2 : Int)) (h2 : ds_ty2 hex t ((i : Nat) - 2 : Int) ((j : Nat) - 2 : Int) = -((j : Nat) - 2 : Int)) : ∃ c : Nat, c < 5 ∧ (i : Int) - 2 = ((c : Nat) - 2 : Int) * ds_ax hex t ∧ (j : Int) - 2 = ((c : Nat) - 2 : Int) * ds_ay hex t := by
  have h0 := a_all0 hex t ht i hi j hj
  rw [decide_eq_true (show ds_n2 hex ≤ t ∧ ds_tx hex t ((i : Nat) - 2 : Int) ((j : Nat) - 2 : Int) = -((i : Nat) - 2 : Int) ∧ ds_ty2 hex t ((i : Nat) - 2 : Int) ((j : Nat) - 2 : Int) = -((j : Nat) - 2 : Int) from ⟨hf, h1, h2⟩), Bool.not_true, Bool.false_or] at h0
  obtain ⟨c, hc, hp⟩ := List.any_eq_true.mp h0
  have := of_decide_eq_true hp
  exact ⟨c, List.mem_range.mp hc, this.1, this.2⟩
noncomputable def ds_mi (w h : Nat) (hex : Bool) (o t : Int64) (tn : Nat) : Bool := ds_d (∃ k : Int, ds_Sy w h hex o t tn (k * ds_ax hex tn) (k * ds_ay hex tn))
theorem Sy_per {w h : Nat} {hex : Bool} {o t : Int64} {tn : Nat} {L : Nat} (hw : (w : Int) ∣ L) (hh : (h : Int) ∣ L) (k a b : Int) : ds_Sy w h hex o t tn (k * a) (k * b) ↔ ds_Sy w h hex o t tn ((k % L) * a) ((k % L) * b) := by
  rw [← Sy_mod, ← Sy_mod (a := (k % L) * a)]
  have e1 : (k * a) % w = ((k % L) * a) % w := by rw [Int.mul_emod, Int.mul_emod (k % L), Int.emod_emod_of_dvd k hw]
  have e2 : (k * b) % h = ((k % L) * b) % h := by rw [Int.mul_emod, Int.mul_emod (k % L), Int.emod_emod_of_dvd k hh]
  rw [e1, e2]
theorem p_cells (w h : Nat) : fX6_cells (nI w) (nI h) = some (nI (w * h)) := by
  unfold fX6_cells
  rw [z_nI, z_nI, z_nI, z_mul]; congr 2
theorem mul_le64 {w h : Nat} (hk : ds_ok w h) : 1 ≤ w * h ∧ w * h ≤ 64 := by
  obtain ⟨k1, k2, k3, k4⟩ := hk
  have := Nat.mul_le_mul k2 k4
  have := Nat.mul_le_mul k1 k3
  omega
theorem g_mirror {w h : Nat} (hk : ds_ok w h) {hex : Bool} {o t : Int64} {fd : Nat → Int64} {tn : Nat} (hv : ds_GV w h hex o t fd tn) (ht : tn < ds_nt hex) : fX0_isMirror (nI w) (nI h) (ds_q hex) fd (nI tn) = some (ds_q (ds_mi w h hex o t tn)) := by
  have h64 := mul_le64 hk
  obtain ⟨s1, s2, s3, s4⟩ := a_small hex tn ht
  unfold fX0_isMirror
  rw [(p_ax ht).1, Option.bind_some, (p_ax ht).2, Option.bind_some]
  unfold fX0_isMirror_27
  suffices hs : ∃ r, ds_it (fun s => fX0_isMirror_27_b (nI w) (nI h) fd (nI tn) (ds_z (ds_ax hex tn)) (ds_z (ds_ay hex tn)) s) 1000 (0 : Int32) = some r ∧ r = ds_q (ds_mi w h hex o t tn) by
    obtain ⟨r, e, rfl⟩ := hs; exact e
  refine ds_it_inv _ (fun k s => s = nI k ∧ ∀ j : Nat, j < k → ¬ ds_Sy w h hex o t tn (j * ds_ax hex tn) (j * ds_ay hex tn)) _ (w * h) 1000 0 _ (Nat.zero_le _) ⟨rfl, fun j hj => absurd hj (Nat.not_lt_zero j)⟩ (by omega) ?_ ?_
  · rintro k s hk2 ⟨rfl, f⟩
    try dsimp only
    unfold fX0_isMirror_27_b
    have bd : ∀ (z : Int), -2 ≤ z → z ≤ 2 → -128 ≤ (k : Int) * z ∧ (k : Int) * z ≤ 128 := by
      intro z q1 q2
      have : z = -2 ∨ z = -1 ∨ z = 0 ∨ z = 1 ∨ z = 2 := by omega
      rcases this with rfl | rfl | rfl | rfl | rfl <;> omega
    have b1 := bd _ s1 s2
    have b2 := bd _ s3 s4
    rw [p_cells, Option.bind_some, if_neg (nI_ge hk2 (by omega)), z_nI k, z_mul, z_mul, g_sym hk hv ht (by omega) (by omega) (by omega) (by omega), Option.bind_some]
    cases e : ds_d (ds_Sy w h hex o t tn ((k : Int) * ds_ax hex tn) ((k : Int) * ds_ay hex tn))
    · left
      rw [if_pos (show ds_q false = 0 from rfl), ← z_nI, nI_1]
      refine ⟨_, rfl, rfl, fun j hj => ?_⟩
      by_cases e2 : j = k
      · subst e2; intro q; rw [d_true q] at e; cases e
      · exact f j (by omega)
    · right
      rw [if_neg (by decide)]
      refine ⟨_, rfl, ?_⟩
      unfold ds_mi
      rw [d_true ⟨(k : Int), (d_iff _).mp e⟩]; rfl
  · rintro s ⟨rfl, f⟩
    try dsimp only
    unfold fX0_isMirror_27_b
    rw [p_cells, Option.bind_some, if_pos (nI_le (Nat.le_refl _) (by omega))]
    refine ⟨_, rfl, ?_⟩
    unfold ds_mi
    rw [d_false]; · rfl
    rintro ⟨k, q⟩
    rw [Sy_per (L := w * h) ⟨h, by rw [Int.natCast_mul]⟩ ⟨w, by rw [Int.natCast_mul, Int.mul_comm]⟩] at q
    have m1 := Int.emod_nonneg k (b := ((w * h : Nat) : Int)) (by omega)
    have m2 := Int.emod_lt_of_pos k (b := ((w * h : Nat) : Int)) (by omega)
    refine f (k % ((w * h : Nat) : Int)).toNat (by omega) ?_
    rw [Int.toNat_of_nonneg m1]; exact q
theorem lcm_560 : ∀ w, w < 9 → ∀ h, h < 9 → 1 ≤ w → 1 ≤ h → (List.range 57).any (fun L => decide (1 ≤ L ∧ L % w = 0 ∧ L % h = 0)) = true := by decide +kernel
theorem lcm_56 (w : Nat) (h1 : w < 9) (h : Nat) (h2 : h < 9) (h3 : 1 ≤ w) (h4 : 1 ≤ h) : ∃ L : Nat, L < 57 ∧ 1 ≤ L ∧ L % w = 0 ∧ L % h = 0 := by
  obtain ⟨c, hc, hp⟩ := List.any_eq_true.mp (lcm_560 w h1 h h2 h3 h4)
  exact ⟨c, List.mem_range.mp hc, of_decide_eq_true hp⟩
theorem m_mirror {w h : Nat} (hk : ds_ok w h) {hex : Bool} {o t : Int64} {al sh : Nat → Int32} (hm : ds_MT w h hex o t al) (h01 : ds_01 sh) {tn : Nat} (ht : tn < ds_nt hex) (hfl : ds_n2 hex ≤ tn) (hv : ds_SV w h hex o t sh tn) : fX8_isMirror al ds_tabF sh (nI tn) = some (ds_q (ds_mi w h hex o t tn)) := by
  obtain ⟨k1, k2, k3, k4⟩ := id hk
  obtain ⟨m0, m1, m2, m3⟩ := id hm
  obtain ⟨L, l1, l2, l3, l4⟩ := lcm_56 w (by omega) h (by omega) k1 k3
  have dw : (w : Int) ∣ (L : Int) := Int.natCast_dvd_natCast.mpr (Nat.dvd_of_mod_eq_zero l3)
  have dh : (h : Int) ∣ (L : Int) := Int.natCast_dvd_natCast.mpr (Nat.dvd_of_mod_eq_zero l4)
  obtain ⟨s1, s2, s3, s4⟩ := a_small hex tn ht
  obtain ⟨f1, f2⟩ := a_flip hex tn ht hfl
  -- the innermost loop: multiples of one step
  have inner : ∀ (i j : Nat) (is : Bool), i < 5 → j < 5 → ∃ r, fX8_isMirror_53 al sh (nI tn) (ds_z ((i : Int) - 2)) (ds_z ((j : Int) - 2)) (ds_q is) = some r ∧ ((r = .inl (ds_z ((j + 1 : Nat) - 2 : Int)) ∧ (is = true → ∀ k : Nat, k < 56 → ¬ ds_Sy w h hex o t tn (k * ((i : Int) - 2)) (k * ((j : Int) - 2)))) ∨ (r = .inr (.inr 1) ∧ is = true ∧ ∃ k : Nat, ds_Sy w h hex o t tn (k * ((i : Int) - 2)) (k * ((j : Int) - 2)))) := by
    intro i j is hi hj
    unfold fX8_isMirror_53 fX8_isMirror_58
    have ej : fX8_isMirror_94 (ds_z ((j : Int) - 2)) = some (.inl (ds_z ((j + 1 : Nat) - 2 : Int))) := by
      unfold fX8_isMirror_94
      rw [show (1 : Int32) = ds_z 1 from rfl, z_add, show ((j + 1 : Nat) : Int) - 2 = (j : Int) - 2 + 1 by omega]
    refine ds_it_inv _ (fun k s => s = nI k ∧ ∀ k' : Nat, k' < k → is = true → ¬ ds_Sy w h hex o t tn (k' * ((i : Int) - 2)) (k' * ((j : Int) - 2))) _ 56 1000 0 _ (Nat.zero_le _) ⟨rfl, fun k' hk' => absurd hk' (Nat.not_lt_zero k')⟩ (by omega) ?_ ?_
    · rintro k s hk2 ⟨rfl, f⟩
      try dsimp only
      unfold fX8_isMirror_58_b
      rw [if_neg (show ¬ (56 : Int32) ≤ nI k from nI_ge (b := 56) hk2 (by omega))]
      cases is with
      | false =>
        right
        rw [if_pos (show ds_q false = 0 from rfl), ej, Option.bind_some]
        exact ⟨_, rfl, Or.inl ⟨rfl, fun z => by cases z⟩⟩
      | true =>
        rw [if_neg (by decide)]
        have bd : ∀ (n : Nat), n < 5 → -200 ≤ (k : Int) * ((n : Int) - 2) ∧ (k : Int) * ((n : Int) - 2) ≤ 200 := by
          intro n hn
          have : (n : Int) - 2 = -2 ∨ (n : Int) - 2 = -1 ∨ (n : Int) - 2 = 0 ∨ (n : Int) - 2 = 1 ∨ (n : Int) - 2 = 2 := by omega
          rcases this with e | e | e | e | e <;> rw [e] <;> omega
        have b1 := bd i hi
        have b2 := bd j hj
        rw [z_nI k, z_mul, z_mul, m_sym hk hm h01 ht hv (by omega) (by omega) (by omega) (by omega), Option.bind_some]
        cases e : ds_d (ds_Sy w h hex o t tn ((k : Int) * ((i : Int) - 2)) ((k : Int) * ((j : Int) - 2)))
        · left
          rw [if_pos (show ds_q false = 0 from rfl), ← z_nI, nI_1]
          refine ⟨_, rfl, rfl, fun k' hk' hi' => ?_⟩
          by_cases e2 : k' = k
          · subst e2; intro q; rw [d_true q] at e; cases e
          · exact f k' (by omega) hi'
        · right
          rw [if_neg (by decide)]
          exact ⟨_, rfl, Or.inr ⟨rfl, rfl, k, (d_iff _).mp e⟩⟩
    · rintro s ⟨rfl, f⟩
      try dsimp only
      unfold fX8_isMirror_58_b
      rw [if_pos (show (56 : Int32) ≤ nI 56 from nI_le (Nat.le_refl 56) (by omega)), ej, Option.bind_some]
      exact ⟨_, rfl, Or.inl ⟨rfl, fun z k hk2 => f k hk2 z⟩⟩
  -- which steps are tried
  have tried : ∀ (i j : Nat), i < 5 → j < 5 → ∃ is : Bool, (is = true ↔ (ds_tx hex tn ((i : Int) - 2) ((j : Int) - 2) = -((i : Int) - 2) ∧ ds_ty2 hex tn ((i : Int) - 2) ((j : Int) - 2) = -((j : Int) - 2)) ∧ ¬ ((i : Int) - 2 = 0 ∧ (j : Int) - 2 = 0)) ∧ fX8_isMirror_11_b al ds_tabF sh (nI tn) (ds_z ((i : Int) - 2)) (ds_z ((j : Int) - 2)) = fX8_isMirror_53 al sh (nI tn) (ds_z ((i : Int) - 2)) (ds_z ((j : Int) - 2)) (ds_q is) := by
    intro i j hi hj
    have ts := t_small ht (x := (i : Int) - 2) (y := (j : Int) - 2) (n := 2) (by omega) (by omega) (by omega) (by omega)
    unfold fX8_isMirror_11_b fX8_isMirror_48 fX8_isMirror_52
    have z0 : (0 : Int32) = ds_z 0 := rfl
    rw [show (2 : Int32) = ds_z 2 from rfl, if_neg (fun z => by have := (z_lt (by omega) (by omega) (by omega) (by omega)).mp z; omega), m_tx m2 ht, Option.bind_some, z_neg, m_ty m2 ht, Option.bind_some, z_neg]
    by_cases c1 : ds_tx hex tn ((i : Int) - 2) ((j : Int) - 2) = -((i : Int) - 2)
    · rw [if_pos (by rw [c1])]
      by_cases c2 : ds_ty2 hex tn ((i : Int) - 2) ((j : Int) - 2) = -((j : Int) - 2)
      · rw [if_pos (by rw [c2])]
        by_cases c3 : (i : Int) - 2 = 0
        · rw [if_pos (by rw [c3, z0])]
          by_cases c4 : (j : Int) - 2 = 0
          · rw [if_pos (by rw [c4, z0])]
            exact ⟨false, ⟨(fun z => by cases z), fun z => absurd ⟨c3, c4⟩ z.2⟩, rfl⟩
          · rw [if_neg (fun (z : ds_z ((j : Int) - 2) = 0) => c4 ((z_eq (b := 0) (by omega) (by omega) (by omega) (by omega)).mp z))]
            exact ⟨true, ⟨fun _ => ⟨⟨c1, c2⟩, fun z => c4 z.2⟩, fun _ => rfl⟩, rfl⟩
        · rw [if_neg (fun (z : ds_z ((i : Int) - 2) = 0) => c3 ((z_eq (b := 0) (by omega) (by omega) (by omega) (by omega)).mp z))]
          exact ⟨true, ⟨fun _ => ⟨⟨c1, c2⟩, fun z => c3 z.1⟩, fun _ => rfl⟩, rfl⟩
      · rw [if_neg (fun z => c2 ((z_eq (by omega) (by omega) (by omega) (by omega)).mp z))]
        exact ⟨false, ⟨(fun z => by cases z), fun z => absurd z.1.2 c2⟩, rfl⟩
    · rw [if_neg (fun z => c1 ((z_eq (by omega) (by omega) (by omega) (by omega)).mp z))]
      exact ⟨false, ⟨(fun z => by cases z), fun z => absurd z.1.1 c1⟩, rfl⟩
  -- a find is a mirror
  have found : ∀ (i j : Nat), i < 5 → j < 5 → (ds_tx hex tn ((i : Int) - 2) ((j : Int) - 2) = -((i : Int) - 2) ∧ ds_ty2 hex tn ((i : Int) - 2) ((j : Int) - 2) = -((j : Int) - 2)) → (∃ k : Nat, ds_Sy w h hex o t tn (k * ((i : Int) - 2)) (k * ((j : Int) - 2))) → ds_mi w h hex o t tn = true := by
    rintro i j hi hj ⟨q1, q2⟩ ⟨k, q⟩
    obtain ⟨c, hc, e1, e2⟩ := a_all hex tn ht hfl i hi j hj q1 q2
    unfold ds_mi
    refine d_true ⟨(k : Int) * ((c : Int) - 2), ?_⟩
    rw [Int.mul_assoc, Int.mul_assoc, ← e1, ← e2]; exact q
  -- no find: none
  have lost : (∀ (i j : Nat), i < 5 → j < 5 → (ds_tx hex tn ((i : Int) - 2) ((j : Int) - 2) = -((i : Int) - 2) ∧ ds_ty2 hex tn ((i : Int) - 2) ((j : Int) - 2) = -((j : Int) - 2)) ∧ ¬ ((i : Int) - 2 = 0 ∧ (j : Int) - 2 = 0) → ∀ k : Nat, k < 56 → ¬ ds_Sy w h hex o t tn (k * ((i : Int) - 2)) (k * ((j : Int) - 2))) → ds_mi w h hex o t tn = false := by
    intro hl
    unfold ds_mi
    refine d_false ?_
    rintro ⟨k, q⟩
    rw [Sy_per (L := L) dw dh] at q
    have m1 := Int.emod_nonneg k (b := (L : Int)) (by omega)
    have m2 := Int.emod_lt_of_pos k (b := (L : Int)) (by omega)
    have ei : ((ds_ax hex tn + 2).toNat : Int) - 2 = ds_ax hex tn := by omega
    have ej : ((ds_ay hex tn + 2).toNat : Int) - 2 = ds_ay hex tn := by omega
    have := hl (ds_ax hex tn + 2).toNat (ds_ay hex tn + 2).toNat (by omega) (by omega)
    rw [ei, ej] at this
    refine this ⟨f1, fun z => ?_⟩ (k % (L : Int)).toNat (by omega) ?_
    · rcases f2 with g | g
      · exact g z.1
      · exact g z.2
    · rw [Int.toNat_of_nonneg m1]; exact q
  unfold fX8_isMirror fX8_isMirror_3
  suffices hs : ∃ r, ds_it (fun s => fX8_isMirror_3_b al ds_tabF sh (nI tn) s) 1000 (-2 : Int32) = some r ∧ r = ds_q (ds_mi w h hex o t tn) by
    obtain ⟨r, e, rfl⟩ := hs; exact e
  refine ds_it_inv _ (fun k s => s = ds_z ((k : Int) - 2) ∧ ∀ (i j : Nat), i < k → j < 5 → (ds_tx hex tn ((i : Int) - 2) ((j : Int) - 2) = -((i : Int) - 2) ∧ ds_ty2 hex tn ((i : Int) - 2) ((j : Int) - 2) = -((j : Int) - 2)) ∧ ¬ ((i : Int) - 2 = 0 ∧ (j : Int) - 2 = 0) → ∀ k : Nat, k < 56 → ¬ ds_Sy w h hex o t tn (k * ((i : Int) - 2)) (k * ((j : Int) - 2))) _ 5 1000 0 _ (Nat.zero_le _) ⟨rfl, fun i j hi => absurd hi (Nat.not_lt_zero i)⟩ (by omega) ?_ ?_
  · rintro i s hi ⟨rfl, fi⟩
    try dsimp only
    unfold fX8_isMirror_3_b
    rw [show (2 : Int32) = ds_z 2 from rfl, if_neg (fun z => by have := (z_lt (by omega) (by omega) (by omega) (by omega)).mp z; omega)]
    unfold fX8_isMirror_11
    have row : ∃ r, ds_it (fun s => fX8_isMirror_11_b al ds_tabF sh (nI tn) (ds_z ((i : Int) - 2)) s) 1000 (-2 : Int32) = some r ∧ ((r = .inl (ds_z ((i + 1 : Nat) - 2 : Int)) ∧ ∀ j : Nat, j < 5 → (ds_tx hex tn ((i : Int) - 2) ((j : Int) - 2) = -((i : Int) - 2) ∧ ds_ty2 hex tn ((i : Int) - 2) ((j : Int) - 2) = -((j : Int) - 2)) ∧ ¬ ((i : Int) - 2 = 0 ∧ (j : Int) - 2 = 0) → ∀ k : Nat, k < 56 → ¬ ds_Sy w h hex o t tn (k * ((i : Int) - 2)) (k * ((j : Int) - 2))) ∨ (r = .inr 1 ∧ ds_mi w h hex o t tn = true)) := by
      refine ds_it_inv _ (fun k s => s = ds_z ((k : Int) - 2) ∧ ∀ j : Nat, j < k → (ds_tx hex tn ((i : Int) - 2) ((j : Int) - 2) = -((i : Int) - 2) ∧ ds_ty2 hex tn ((i : Int) - 2) ((j : Int) - 2) = -((j : Int) - 2)) ∧ ¬ ((i : Int) - 2 = 0 ∧ (j : Int) - 2 = 0) → ∀ k : Nat, k < 56 → ¬ ds_Sy w h hex o t tn (k * ((i : Int) - 2)) (k * ((j : Int) - 2))) _ 5 1000 0 _ (Nat.zero_le _) ⟨rfl, fun j hj => absurd hj (Nat.not_lt_zero j)⟩ (by omega) ?_ ?_
      · rintro j s hj ⟨rfl, fj⟩
        try dsimp only
        obtain ⟨is, d1, e1⟩ := tried i j hi hj
        obtain ⟨r, e2, p⟩ := inner i j is hi hj
        rw [e1, e2]
        rcases p with ⟨rfl, p⟩ | ⟨rfl, p1, p2⟩
        · left
          refine ⟨_, rfl, rfl, fun j' hj' => ?_⟩
          by_cases e : j' = j
          · subst e; intro q; exact p (d1.mpr q)
          · exact fj j' (by omega)
        · right
          exact ⟨_, rfl, Or.inr ⟨rfl, found i j hi hj (d1.mp p1).1 p2⟩⟩
      · rintro s ⟨rfl, fj⟩
        try dsimp only
        unfold fX8_isMirror_11_b
        rw [if_pos (by decide)]
        refine ⟨_, rfl, Or.inl ⟨?_, fj⟩⟩
        rw [show (1 : Int32) = ds_z 1 from rfl, z_add, show ((i + 1 : Nat) : Int) - 2 = (i : Int) - 2 + 1 by omega]
    obtain ⟨r, er, ⟨rfl, q⟩ | ⟨rfl, q⟩⟩ := row
    · left
      refine ⟨_, er, rfl, fun i' j hi' => ?_⟩
      by_cases e : i' = i
      · subst e; exact q j
      · exact fi i' j (by omega)
    · right
      rw [q]
      exact ⟨_, er, rfl⟩
  · rintro s ⟨rfl, fi⟩
    try dsimp only
    unfold fX8_isMirror_3_b
    rw [if_pos (by decide)]
    rw [lost (fun i j hi hj => fi i j hi hj)]
    exact ⟨_, rfl, rfl⟩
