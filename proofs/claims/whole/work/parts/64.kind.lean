/-! kinds: plane points moved by symmetries -/
def ds_Kp (w h : Nat) (hex : Bool) (o t : Int64) (x y x' y' : Int) : Prop := ∃ tn, tn < ds_nt hex ∧ ∃ a b : Int, ds_Sy w h hex o t tn a b ∧ x' = ds_tx hex tn x y + a ∧ y' = ds_ty2 hex tn x y + b
theorem Kp_step {w h : Nat} {hex : Bool} {o t : Int64} {x y a b : Int} (s : ds_St w h o t a b) : ds_Kp w h hex o t x y (x + a) (y + b) := by
  obtain ⟨n1, n2, n3, n4⟩ := nt_le hex
  exact ⟨0, by omega, a, b, Sy_0.mpr s, by rw [(tx_0 hex x y).1], by rw [(tx_0 hex x y).2]⟩
theorem Kp_refl {w h : Nat} {hex : Bool} {o t : Int64} {x y : Int} : ds_Kp w h hex o t x y x y := by
  have := Kp_step (hex := hex) (x := x) (y := y) (St_zero (w := w) (h := h) (o := o) (t := t))
  rw [Int.add_zero, Int.add_zero] at this; exact this
theorem Kp_trans {w h : Nat} {hex : Bool} {o t : Int64} {x y x1 y1 x2 y2 : Int} (h1 : ds_Kp w h hex o t x y x1 y1) (h2 : ds_Kp w h hex o t x1 y1 x2 y2) : ds_Kp w h hex o t x y x2 y2 := by
  obtain ⟨m, hm, a, b, s, rfl, rfl⟩ := h1
  obtain ⟨n, hn, c, d, s', rfl, rfl⟩ := h2
  refine ⟨ds_cp hex n m, (cp_m hex n hn m hm).1, _, _, Sy_cp hn hm s' s, ?_, ?_⟩
  · rw [(cp_t hn hm x y).1, (tx_add _ _ _ _).1]; omega
  · rw [(cp_t hn hm x y).2, (tx_add _ _ _ _).2]; omega
theorem Sy_iv {w h : Nat} {hex : Bool} {o t : Int64} {tn : Nat} (ht : tn < ds_nt hex) {a b : Int} (s : ds_Sy w h hex o t tn a b) : ds_Sy w h hex o t (ds_iv hex tn) (ds_tx hex (ds_iv hex tn) (-a) (-b)) (ds_ty2 hex (ds_iv hex tn) (-a) (-b)) := by
  intro x y
  rw [← (tx_add x y (-a) (-b)).1, ← (tx_add x y (-a) (-b)).2]
  rw [← s, (tx_iv ht (x + -a) (y + -b)).1, (tx_iv ht (x + -a) (y + -b)).2]
  congr 1 <;> omega
theorem Kp_symm {w h : Nat} {hex : Bool} {o t : Int64} {x y x1 y1 : Int} (h1 : ds_Kp w h hex o t x y x1 y1) : ds_Kp w h hex o t x1 y1 x y := by
  obtain ⟨m, hm, a, b, s, rfl, rfl⟩ := h1
  refine ⟨ds_iv hex m, (n_inv hex m hm).2, _, _, Sy_iv hm s, ?_, ?_⟩
  · rw [← (tx_add _ _ (-a) (-b)).1, show ds_tx hex m x y + a + -a = ds_tx hex m x y by omega, show ds_ty2 hex m x y + b + -b = ds_ty2 hex m x y by omega, (iv_tx hm x y).1]
  · rw [← (tx_add _ _ (-a) (-b)).2, show ds_tx hex m x y + a + -a = ds_tx hex m x y by omega, show ds_ty2 hex m x y + b + -b = ds_ty2 hex m x y by omega, (iv_tx hm x y).2]
theorem Kp_mod {w h : Nat} {hex : Bool} {o t : Int64} (x y : Int) : ds_Kp w h hex o t x y (x % w) (y % h) := by
  have e1 := Int.emod_add_mul_ediv x w
  have e2 := Int.emod_add_mul_ediv y h
  have := Kp_step (hex := hex) (x := x) (y := y) (St_add (St_mul (St_w (w := w) (h := h) (o := o) (t := t)) (-(x / w))) (St_mul (St_h (w := w) (h := h) (o := o) (t := t)) (-(y / h))))
  rw [Int.mul_zero, Int.mul_zero, Int.zero_add, Int.add_zero, show x + -(x / w) * w = x % w by grind, show y + -(y / h) * h = y % h by grind] at this
  exact this
def ds_Kd (w h : Nat) (hex : Bool) (o t : Int64) (i j : Nat) : Prop := i = j ∨ (ds_ins w h i = true ∧ ds_ins w h j = true ∧ ds_Kp w h hex o t (i % 8 : Nat) (i / 8 : Nat) (j % 8 : Nat) (j / 8 : Nat))
theorem Kd_Eq {w h : Nat} {hex : Bool} {o t : Int64} : ds_Eq (ds_Kd w h hex o t) := by
  refine ⟨fun i _ => Or.inl rfl, ?_, ?_⟩
  · rintro i j _ _ (q | ⟨q1, q2, q3⟩)
    · exact Or.inl q.symm
    · exact Or.inr ⟨q2, q1, Kp_symm q3⟩
  · rintro i j k _ _ _ (rfl | ⟨q1, q2, q3⟩) q
    · exact q
    · rcases q with rfl | ⟨p1, p2, p3⟩
      · exact Or.inr ⟨q1, q2, q3⟩
      · exact Or.inr ⟨q1, p2, Kp_trans q3 p3⟩
theorem ins_xy {w h x y : Nat} (hk : ds_ok w h) (hx : x < w) (hy : y < h) : ds_ins w h (8 * y + x) = true ∧ (8 * y + x) % 8 = x ∧ (8 * y + x) / 8 = y ∧ 8 * y + x < 64 := by
  obtain ⟨k1, k2, k3, k4⟩ := hk
  refine ⟨?_, by omega, by omega, by omega⟩
  unfold ds_ins
  rw [Bool.and_eq_true, decide_eq_true_iff, decide_eq_true_iff]; omega
theorem ins_of {w h i : Nat} (hi : ds_ins w h i = true) : i % 8 < w ∧ i / 8 < h := by
  unfold ds_ins at hi
  rw [Bool.and_eq_true, decide_eq_true_iff, decide_eq_true_iff] at hi; exact hi
theorem ins_ix {w h : Nat} (hk : ds_ok w h) (x y : Int) : ds_ins w h (ds_ix w h x y) = true := by
  obtain ⟨i1, i2, i3, i4, i5⟩ := ix_lt hk x y
  unfold ds_ins
  rw [Bool.and_eq_true, decide_eq_true_iff, decide_eq_true_iff]; omega
theorem Kp_ix {w h : Nat} (hk : ds_ok w h) {hex : Bool} {o t : Int64} (x y : Int) : ds_Kp w h hex o t x y (ds_ix w h x y % 8 : Nat) (ds_ix w h x y / 8 : Nat) := by
  obtain ⟨k1, k2, k3, k4⟩ := id hk
  obtain ⟨i1, i2, i3, i4, i5⟩ := ix_lt hk x y
  rw [i4, i5, Int.toNat_of_nonneg (Int.emod_nonneg x (by omega)), Int.toNat_of_nonneg (Int.emod_nonneg y (by omega))]
  exact Kp_mod x y
theorem Kd_im {w h : Nat} (hk : ds_ok w h) {hex : Bool} {o t : Int64} {tn : Nat} (ht : tn < ds_nt hex) {a b : Int} (s : ds_Sy w h hex o t tn a b) {x y : Nat} (hx : x < w) (hy : y < h) : ds_Kd w h hex o t (8 * y + x) (ds_im w h hex tn a b x y) := by
  obtain ⟨j1, j2, j3, j4⟩ := ins_xy hk hx hy
  refine Or.inr ⟨j1, ins_ix hk _ _, ?_⟩
  rw [j2, j3]
  exact Kp_trans ⟨tn, ht, a, b, s, rfl, rfl⟩ (Kp_ix hk _ _)
theorem ix_mod {w h : Nat} (x y a b : Int) : ds_ix w h (x + a % w) (y + b % h) = ds_ix w h (x + a) (y + b) := by
  unfold ds_ix
  rw [Int.add_emod_emod, Int.add_emod_emod]
/-- what the reference's trees say in the end -/
def ds_KR (w h : Nat) (K : Nat → Nat → Prop) (R : Nat → Int32) : Prop := ∃ r, ds_UF R r ∧ (∀ i, i < 64 → ds_ins w h i = true → ds_ins w h (r i) = true) ∧ ∀ i j, i < 64 → j < 64 → ds_ins w h i = true → ds_ins w h j = true → (r i = r j ↔ K i j)
theorem m_kinds {w h : Nat} (hk : ds_ok w h) {hex : Bool} {o t : Int64} {al sh : Nat → Int32} (hm : ds_MT w h hex o t al) (h01 : ds_01 sh) (hv : ∀ tn, tn < ds_nt hex → ds_SV w h hex o t sh tn) (R : Nat → Int32) : ∃ R', fX8_laysKinds R al sh ds_tabF = some R' ∧ ds_KR w h (ds_Kd w h hex o t) R' := by
  obtain ⟨n1, n2, n3, n4⟩ := nt_le hex
  obtain ⟨k1, k2, k3, k4⟩ := id hk
  obtain ⟨m0, m1, m2, m3⟩ := id hm
  let D : (Nat → Nat → Nat → Prop) → Nat → Nat → Prop := fun Q a b => ∃ tn dy dx x y : Nat, Q tn dy dx ∧ dy < h ∧ dx < w ∧ ds_Sy w h hex o t tn dx dy ∧ x < w ∧ y < h ∧ a = 8 * y + x ∧ b = ds_im w h hex tn dx dy x y
  have Dm : ∀ Q Q' : Nat → Nat → Nat → Prop, (∀ tn dy dx, dy < h → dx < w → Q tn dy dx → Q' tn dy dx) → ∀ a b, D Q a b → D Q' a b := by
    rintro Q Q' hq a b ⟨tn, dy, dx, x, y, q1, q2, q3, q⟩
    exact ⟨tn, dy, dx, x, y, hq tn dy dx q2 q3 q1, q2, q3, q⟩
  obtain ⟨R0, e0, g0⟩ := m_alone (Kd_Eq (w := w) (h := h) (hex := hex) (o := o) (t := t)) R
  unfold fX8_laysKinds
  rw [e0, Option.bind_some]
  suffices hq : ∃ r, fX8_laysKinds_6 al sh ds_tabF (0 : Int32) R0 = some r ∧ ds_KI (ds_Kd w h hex o t) (D (fun tn _ _ => tn < ds_nt hex)) r by
    obtain ⟨R', e, r, u1, u2, u3⟩ := hq
    refine ⟨R', e, r, u1, ?_, ?_⟩
    · intro i hi hin
      have b := (u1 i hi).1
      rcases u2 i (r i) hi (by omega) (uf_rr u1 i hi).symm with q | q
      · rw [← q]; exact hin
      · exact q.2.1
    · intro i j hi hj ii ij
      refine ⟨u2 i j hi hj, ?_⟩
      rintro (q | ⟨_, _, tn, ht, a, b, s, q1, q2⟩)
      · rw [q]
      · refine u3 i j hi hj ⟨tn, (b % h).toNat, (a % w).toNat, i % 8, i / 8, ht, ?_, ?_, ?_, (ins_of ii).1, (ins_of ii).2, by omega, ?_⟩
        · have := Int.emod_nonneg b (show (h : Int) ≠ 0 by omega)
          have := Int.emod_lt_of_pos b (show (0 : Int) < h by omega)
          omega
        · have := Int.emod_nonneg a (show (w : Int) ≠ 0 by omega)
          have := Int.emod_lt_of_pos a (show (0 : Int) < w by omega)
          omega
        · rw [Int.toNat_of_nonneg (Int.emod_nonneg a (by omega)), Int.toNat_of_nonneg (Int.emod_nonneg b (by omega))]
          exact Sy_mod.mpr s
        · unfold ds_im
          rw [Int.toNat_of_nonneg (Int.emod_nonneg a (by omega)), Int.toNat_of_nonneg (Int.emod_nonneg b (by omega)), ix_mod, ← q1, ← q2, ix_in (ins_of ij).1 (ins_of ij).2]
          omega
  unfold fX8_laysKinds_6
  refine ds_it_inv _ (fun k s => s.1 = nI k ∧ ds_KI (ds_Kd w h hex o t) (D (fun tn _ _ => tn < k)) s.2) _ (ds_nt hex) 1000 0 _ (Nat.zero_le _) ⟨rfl, KI_imp g0 (fun a b ⟨tn, dy, dx, x, y, q, _⟩ => absurd q (Nat.not_lt_zero tn))⟩ (by omega) ?_ ?_
  · rintro tn ⟨s1, s2⟩ ht ⟨e1, e2⟩
    dsimp only at e1 e2
    subst e1
    left
    dsimp only
    unfold fX8_laysKinds_6_b
    rw [m_turnings m2, Option.bind_some, if_neg (nI_ge ht (by omega))]
    unfold fX8_laysKinds_16
    suffices hq : ∃ r, ds_it (fun s => fX8_laysKinds_16_b al sh ds_tabF (nI tn) s.1 s.2) 1000 ((0 : Int32), s2) = some r ∧ ∃ s', r = .inl s' ∧ s'.1 = nI (tn + 1) ∧ ds_KI (ds_Kd w h hex o t) (D (fun n _ _ => n < tn + 1)) s'.2 by
      obtain ⟨r, e, s', rfl, e3, e4⟩ := hq; exact ⟨s', e, e3, e4⟩
    refine ds_it_inv _ (fun k s => s.1 = nI k ∧ ds_KI (ds_Kd w h hex o t) (D (fun n dy _ => n < tn ∨ (n = tn ∧ dy < k))) s.2) _ h 1000 0 _ (Nat.zero_le _) ⟨rfl, KI_imp e2 (Dm _ _ (fun n dy dx _ _ q => by omega))⟩ (by omega) ?_ ?_
    · rintro dy ⟨t1, t2⟩ hy ⟨f1, f2⟩
      dsimp only at f1 f2
      subst f1
      left
      dsimp only
      unfold fX8_laysKinds_16_b
      rw [l_1, m1, if_neg (nI_ge hy (by omega))]
      unfold fX8_laysKinds_28
      suffices hq : ∃ r, ds_it (fun s => fX8_laysKinds_28_b al sh ds_tabF (nI tn) (nI dy) s.1 s.2) 1000 ((0 : Int32), t2) = some r ∧ ∃ s', r = .inl s' ∧ s'.1 = nI (dy + 1) ∧ ds_KI (ds_Kd w h hex o t) (D (fun n y _ => n < tn ∨ (n = tn ∧ y < dy + 1))) s'.2 by
        obtain ⟨r, e, s', rfl, e3, e4⟩ := hq; exact ⟨s', e, e3, e4⟩
      refine ds_it_inv _ (fun k s => s.1 = nI k ∧ ds_KI (ds_Kd w h hex o t) (D (fun n y x => n < tn ∨ (n = tn ∧ (y < dy ∨ (y = dy ∧ x < k))))) s.2) _ w 1000 0 _ (Nat.zero_le _) ⟨rfl, KI_imp f2 (Dm _ _ (fun n y x _ _ q => by omega))⟩ (by omega) ?_ ?_
      · rintro dx ⟨v1, v2⟩ hx ⟨p1, p2⟩
        dsimp only at p1 p2
        subst p1
        left
        dsimp only
        have sv := hv tn ht dx dy hx hy
        unfold fX8_laysKinds_28_b fX8_laysKinds_64
        rw [l_0, m0, if_neg (nI_ge hx (by omega)), i_768 (by omega) (by omega) (by omega), if_pos (in_nI (by omega) (by omega)), nI_clamp (by omega)]
        rcases h01 (64 * tn + 8 * dy + dx) with c | c
        · rw [if_pos c, nI_1]
          refine ⟨_, rfl, rfl, KI_imp p2 ?_⟩
          rintro a b ⟨n, y', x', x, y, q1, q2, q3, q4, q5⟩
          refine ⟨n, y', x', x, y, ?_, q2, q3, q4, q5⟩
          by_cases cc : n = tn ∧ y' = dy ∧ x' = dx
          · obtain ⟨rfl, rfl, rfl⟩ := cc
            have := sv.mpr q4
            rw [c] at this; exact absurd this (by decide)
          · omega
        · obtain ⟨R', g1, g2⟩ := m_joinsBy hk hm Kd_Eq p2 ht (dx := dx) (dy := dy) (by omega) (by omega) (by omega) (by omega) (fun x y qx qy => Kd_im hk ht (sv.mp c) qx qy)
          rw [← z_nI, ← z_nI] at g1
          rw [if_neg (by rw [c]; decide), g1, Option.bind_some, nI_1]
          refine ⟨_, rfl, rfl, KI_imp g2 ?_⟩
          rintro a b ⟨n, y', x', x, y, q1, q2, q3, q4, q5, q6, q7, q8⟩
          by_cases cc : n = tn ∧ y' = dy ∧ x' = dx
          · obtain ⟨rfl, rfl, rfl⟩ := cc
            exact Or.inr ⟨x, y, q5, q6, q7, q8⟩
          · exact Or.inl ⟨n, y', x', x, y, by omega, q2, q3, q4, q5, q6, q7, q8⟩
      · rintro ⟨v1, v2⟩ ⟨p1, p2⟩
        dsimp only at p1 p2
        subst p1
        dsimp only
        unfold fX8_laysKinds_28_b fX8_laysKinds_70
        rw [l_0, m0, if_pos (nI_le (Nat.le_refl _) (by omega)), Option.bind_some, nI_1]
        exact ⟨_, rfl, _, rfl, rfl, KI_imp p2 (Dm _ _ (fun n y x _ _ q => by omega))⟩
    · rintro ⟨t1, t2⟩ ⟨f1, f2⟩
      dsimp only at f1 f2
      subst f1
      dsimp only
      unfold fX8_laysKinds_16_b fX8_laysKinds_76
      rw [l_1, m1, if_pos (nI_le (Nat.le_refl _) (by omega)), Option.bind_some, nI_1]
      exact ⟨_, rfl, _, rfl, rfl, KI_imp f2 (Dm _ _ (fun n y x _ _ q => by omega))⟩
  · rintro ⟨s1, s2⟩ ⟨e1, e2⟩
    dsimp only at e1 e2
    subst e1
    dsimp only
    unfold fX8_laysKinds_6_b
    rw [m_turnings m2, Option.bind_some, if_pos (nI_le (Nat.le_refl _) (by omega))]
    exact ⟨_, rfl, e2⟩
