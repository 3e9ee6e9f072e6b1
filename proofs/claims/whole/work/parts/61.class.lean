/-! the reference's shortest steps; orders; the class of the ornament -/
theorem m_short {w h : Nat} (hk : ds_ok w h) {hex : Bool} {o t : Int64} {al sh : Nat → Int32} (hm : ds_MT w h hex o t al) (h01 : ds_01 sh) (hv : ∀ tn, tn < ds_nt hex → ds_SV w h hex o t sh tn) {a b : Int} (h1 : -9 ≤ a) (h2 : a ≤ 9) (h3 : -9 ≤ b) (h4 : b ≤ 9) (hl : ds_lg hex a b ≤ 64) : fX8_isShortTurned (ds_z a) (ds_z b) al sh ds_tabF = some (ds_q (ds_sh w h hex o t a b)) := by
  obtain ⟨n1, n2, n3, n4⟩ := nt_le hex
  obtain ⟨m0, m1, m2, m3⟩ := id hm
  have bl := lg_bd (hex := hex) (x := a) (y := b) (by omega) (by omega) (by omega) (by omega)
  unfold fX8_isShortTurned
  rw [m_turnings m2, Option.bind_some, nt_half]
  unfold fX8_isShortTurned_7
  let P : Nat → Nat → Nat → Prop := fun k x y => ds_St w h o t ((x : Int) - 10) ((y : Int) - 10) ∧ ds_lg hex ((x : Int) - 10) ((y : Int) - 10) = ds_lg hex a b ∧ ds_bk hex ((x : Int) - 10) ((y : Int) - 10) (ds_n2 hex + k)
  refine (ds_any (body := fun s => fX8_isShortTurned_7_b (ds_z a) (ds_z b) al sh ds_tabF s) (ds_n2 hex) (fun k => nI (ds_n2 hex + k)) (fun k => ds_fl w h hex o t (ds_n2 hex + k) = true ∧ ∃ x, x < 21 ∧ ∃ y, y < 21 ∧ P k x y) (1 : Int32) (0 : Int32) (by omega) (fun k hk2 => ?_) ?_).trans ?_
  · try dsimp only
    have ht : ds_n2 hex + k < ds_nt hex := by omega
    unfold fX8_isShortTurned_7_b
    rw [m_turnings m2, Option.bind_some, if_neg (nI_ge ht (by omega))]
    unfold fX8_isShortTurned_18
    cases c0 : ds_fl w h hex o t (ds_n2 hex + k)
    · rw [d_false (fun z => Bool.noConfusion z.1), if_neg (by decide)]
      have e : fX8_isShortTurned_18_b (ds_z a) (ds_z b) al sh ds_tabF (nI (ds_n2 hex + k)) (-10 : Int32) = some (.inr (.inl (nI (ds_n2 hex + (k + 1))))) := by
        unfold fX8_isShortTurned_18_b fX8_isShortTurned_109
        rw [if_neg (by decide), m_flipThere hk hm h01 ht (hv _ ht), Option.bind_some, c0, if_pos (show ds_q false = 0 from rfl), Option.bind_some, nI_1]; rfl
      show ds_it _ (999 + 1) _ = _
      unfold ds_it
      rw [e]
    · refine (ds_any (body := fun s => fX8_isShortTurned_18_b (ds_z a) (ds_z b) al sh ds_tabF (nI (ds_n2 hex + k)) s) 21 (fun x => ds_z ((x : Int) - 10)) (fun x => ∃ y, y < 21 ∧ P k x y) (.inr (1 : Int32)) (.inl (nI (ds_n2 hex + (k + 1)))) (by omega) (fun x hx => ?_) ?_).trans ?_
      · try dsimp only
        unfold fX8_isShortTurned_18_b
        rw [show (10 : Int32) = ds_z 10 from rfl, if_neg (fun z => by have := (z_lt (by omega) (by omega) (by omega) (by omega)).mp z; omega), m_flipThere hk hm h01 ht (hv _ ht), Option.bind_some, c0, if_neg (show ¬ ds_q true = 0 by decide)]
        unfold fX8_isShortTurned_35
        refine (ds_any (body := fun s => fX8_isShortTurned_35_b (ds_z a) (ds_z b) al sh ds_tabF (nI (ds_n2 hex + k)) (ds_z ((x : Int) - 10)) s) 21 (fun y => ds_z ((y : Int) - 10)) (fun y => P k x y) (.inr (.inr (1 : Int32))) (.inl (ds_z (((x + 1 : Nat) : Int) - 10))) (by omega) (fun y hy => ?_) ?_).trans ?_
        · try dsimp only
          have bx := lg_bd (hex := hex) (x := (x : Int) - 10) (y := (y : Int) - 10) (by omega) (by omega) (by omega) (by omega)
          obtain ⟨⟨s1, s2⟩, s3, s4⟩ := t_small ht (x := (x : Int) - 10) (y := (y : Int) - 10) (n := 10) (by omega) (by omega) (by omega) (by omega)
          obtain ⟨q, e1, e2⟩ := m_step hk hm h01 (hv 0 (by omega)) (x := (x : Int) - 10) (y := (y : Int) - 10) (by omega) (by omega) (by omega) (by omega)
          unfold fX8_isShortTurned_35_b fX8_isShortTurned_97
          rw [show (10 : Int32) = ds_z 10 from rfl, if_neg (fun z => by have := (z_lt (by omega) (by omega) (by omega) (by omega)).mp z; omega), e1, Option.bind_some, m_lg hm, Option.bind_some, m_lg hm, Option.bind_some, m_tx m2 ht, Option.bind_some, m_ty m2 ht, Option.bind_some, z_neg, z_neg, z_succ]
          cases q
          · rw [if_pos (show ds_q false = 0 from rfl), d_false (show ¬ P k x y from fun z => Bool.noConfusion (e2.mpr z.1)), if_neg (by decide)]
          · rw [if_neg (show ¬ ds_q true = 0 by decide)]
            by_cases c1 : ds_lg hex ((x : Int) - 10) ((y : Int) - 10) = ds_lg hex a b
            · rw [if_pos (by rw [c1])]
              by_cases c2 : ds_tx hex (ds_n2 hex + k) ((x : Int) - 10) ((y : Int) - 10) = -((x : Int) - 10)
              · rw [if_pos (by rw [c2])]
                by_cases c3 : ds_ty2 hex (ds_n2 hex + k) ((x : Int) - 10) ((y : Int) - 10) = -((y : Int) - 10)
                · rw [if_pos (by rw [c3]), d_true (show P k x y from ⟨e2.mp rfl, c1, c2, c3⟩), if_pos rfl]
                · rw [if_neg (fun z => c3 ((z_eq (by omega) (by omega) (by omega) (by omega)).mp z)), d_false (show ¬ P k x y from fun z => c3 z.2.2.2), if_neg (by decide)]
              · rw [if_neg (fun z => c2 ((z_eq (by omega) (by omega) (by omega) (by omega)).mp z)), d_false (show ¬ P k x y from fun z => c2 z.2.2.1), if_neg (by decide)]
            · rw [if_neg (fun z => c1 ((z_eq (by omega) (by omega) (by omega) (by omega)).mp z)), d_false (show ¬ P k x y from fun z => c1 z.2.1), if_neg (by decide)]
        · try dsimp only
          unfold fX8_isShortTurned_35_b fX8_isShortTurned_103
          rw [if_pos (by decide), Option.bind_some, z_succ]
        · try dsimp only
          cases ds_d (∃ y, y < 21 ∧ P k x y)
          · rw [if_neg (by decide), if_neg (by decide)]
          · rw [if_pos rfl, if_pos rfl]
      · try dsimp only
        unfold fX8_isShortTurned_18_b fX8_isShortTurned_109
        rw [if_pos (by decide), Option.bind_some, nI_1]; rfl
      · try dsimp only
        by_cases c : ∃ x, x < 21 ∧ ∃ y, y < 21 ∧ P k x y
        · rw [d_true c, if_pos rfl, d_true ⟨rfl, c⟩, if_pos rfl]
        · rw [d_false c, if_neg (by decide), d_false (fun z => c z.2), if_neg (by decide)]
  · try dsimp only
    unfold fX8_isShortTurned_7_b
    rw [m_turnings m2, Option.bind_some, if_pos (nI_le (by omega) (by omega))]
  · rw [q_if]
    unfold ds_sh
    congr 2
    rw [Bool.eq_iff_iff, d_iff, d_iff]
    constructor
    · rintro ⟨k, g1, g2, x, hx, y, hy, q1, q2, q3⟩
      exact ⟨ds_n2 hex + k, by omega, g2, _, _, q1, q2, q3⟩
    · rintro ⟨tn, q3, q5, x, y, q2, q1, q4⟩
      have nf : ¬ ((x ≤ -10 ∨ 10 ≤ x) ∨ (y ≤ -10 ∨ 10 ≤ y)) := fun z => by have := lg_far (hex := hex) z; omega
      have g5 : ds_n2 hex ≤ tn := by unfold ds_fl at q5; simp at q5; exact q5.1
      obtain ⟨k, rfl⟩ := Nat.exists_eq_add_of_le g5
      refine ⟨k, by omega, q5, (x + 10).toNat, by omega, (y + 10).toNat, by omega, ?_⟩
      show ds_St w h o t (((x + 10).toNat : Int) - 10) (((y + 10).toNat : Int) - 10) ∧ ds_lg hex (((x + 10).toNat : Int) - 10) (((y + 10).toNat : Int) - 10) = _ ∧ ds_bk hex (((x + 10).toNat : Int) - 10) (((y + 10).toNat : Int) - 10) _
      rw [show ((x + 10).toNat : Int) - 10 = x by omega, show ((y + 10).toNat : Int) - 10 = y by omega]
      exact ⟨q2, q1, q4⟩
-- turnings composed
def ds_cp (hex : Bool) (a b : Nat) : Nat := ((List.range 12).find? (fun c => decide (c < ds_nt hex ∧ ds_m hex c 0 = ds_m hex a 0 * ds_m hex b 0 + ds_m hex a 1 * ds_m hex b 2 ∧ ds_m hex c 1 = ds_m hex a 0 * ds_m hex b 1 + ds_m hex a 1 * ds_m hex b 3 ∧ ds_m hex c 2 = ds_m hex a 2 * ds_m hex b 0 + ds_m hex a 3 * ds_m hex b 2 ∧ ds_m hex c 3 = ds_m hex a 2 * ds_m hex b 1 + ds_m hex a 3 * ds_m hex b 3))).getD 0
theorem cp_m : ∀ hex : Bool, ∀ a, a < ds_nt hex → ∀ b, b < ds_nt hex → (ds_cp hex a b < ds_nt hex ∧ ds_m hex (ds_cp hex a b) 0 = ds_m hex a 0 * ds_m hex b 0 + ds_m hex a 1 * ds_m hex b 2 ∧ ds_m hex (ds_cp hex a b) 1 = ds_m hex a 0 * ds_m hex b 1 + ds_m hex a 1 * ds_m hex b 3 ∧ ds_m hex (ds_cp hex a b) 2 = ds_m hex a 2 * ds_m hex b 0 + ds_m hex a 3 * ds_m hex b 2 ∧ ds_m hex (ds_cp hex a b) 3 = ds_m hex a 2 * ds_m hex b 1 + ds_m hex a 3 * ds_m hex b 3) := by decide +kernel
theorem cp_r : ∀ hex : Bool, ∀ a, a < ds_n2 hex → ∀ b, b < ds_n2 hex → ds_cp hex a b = (a + b) % ds_n2 hex := by decide +kernel
theorem cp_f : ∀ hex : Bool, ∀ a, a < ds_n2 hex → ∀ b, b < ds_n2 hex → (ds_cp hex (ds_n2 hex + a) (ds_n2 hex + b) < ds_n2 hex ∧ (ds_cp hex (ds_n2 hex + a) (ds_n2 hex + b) = 0 → a = b)) := by decide +kernel
theorem cp_t {hex : Bool} {a b : Nat} (ha : a < ds_nt hex) (hb : b < ds_nt hex) (x y : Int) : ds_tx hex (ds_cp hex a b) x y = ds_tx hex a (ds_tx hex b x y) (ds_ty2 hex b x y) ∧ ds_ty2 hex (ds_cp hex a b) x y = ds_ty2 hex a (ds_tx hex b x y) (ds_ty2 hex b x y) := by
  obtain ⟨_, e0, e1, e2, e3⟩ := cp_m hex a ha b hb
  unfold ds_tx ds_ty2
  rw [e0, e1, e2, e3]
  constructor <;> grind
theorem Sy_cp {w h : Nat} {hex : Bool} {o t : Int64} {a b : Nat} (ha : a < ds_nt hex) (hb : b < ds_nt hex) {u v p q : Int} (h1 : ds_Sy w h hex o t a u v) (h2 : ds_Sy w h hex o t b p q) : ds_Sy w h hex o t (ds_cp hex a b) (ds_tx hex a p q + u) (ds_ty2 hex a p q + v) := by
  intro x y
  have e1 := h1 (ds_tx hex b x y + p) (ds_ty2 hex b x y + q)
  rw [h2 x y, (tx_add _ _ _ _).1, (tx_add _ _ _ _).2] at e1
  rw [(cp_t ha hb x y).1, (cp_t ha hb x y).2, ← e1]
  congr 1 <;> omega
theorem hs_cp {w h : Nat} {hex : Bool} {o t : Int64} {a b : Nat} (ha : a < ds_nt hex) (hb : b < ds_nt hex) (h1 : ds_hs w h hex o t a = true) (h2 : ds_hs w h hex o t b = true) : ds_hs w h hex o t (ds_cp hex a b) = true := by
  unfold ds_hs at *
  obtain ⟨u, v, s1⟩ := (d_iff _).mp h1
  obtain ⟨p, q, s2⟩ := (d_iff _).mp h2
  exact d_true ⟨_, _, Sy_cp ha hb s1 s2⟩
theorem hs_0 {w h : Nat} {hex : Bool} {o t : Int64} : ds_hs w h hex o t 0 = true := d_true ⟨0, 0, Sy_0.mpr St_zero⟩
theorem or_ok {w h : Nat} {hex : Bool} {o t : Int64} : ds_or w h hex o t = 1 ∨ ds_or w h hex o t = 2 ∨ ds_or w h hex o t = 3 ∨ ds_or w h hex o t = 4 ∨ ds_or w h hex o t = 6 := by
  have r : ∀ a b, a < ds_n2 hex → b < ds_n2 hex → ds_hs w h hex o t a = true → ds_hs w h hex o t b = true → ds_hs w h hex o t ((a + b) % ds_n2 hex) = true := by
    intro a b ha hb q1 q2
    obtain ⟨n1, n2, n3, n4⟩ := nt_le hex
    rw [← cp_r hex a ha b hb]
    exact hs_cp (by omega) (by omega) q1 q2
  have z := hs_0 (w := w) (h := h) (hex := hex) (o := o) (t := t)
  unfold ds_or
  generalize ds_hs w h hex o t = f at r z
  cases hex
  · have a1 := r 1 1 (by decide) (by decide)
    have a2 := r 1 2 (by decide) (by decide)
    have a3 := r 3 3 (by decide) (by decide)
    have a4 := r 3 2 (by decide) (by decide)
    simp [ds_n2] at a1 a2 a3 a4
    simp [ds_n2, ds_ct, z]
    generalize f 1 = b1 at *
    generalize f 2 = b2 at *
    generalize f 3 = b3 at *
    clear r
    revert b1 b2 b3
    decide
  · have a1 := r 1 1 (by decide) (by decide)
    have a2 := r 1 2 (by decide) (by decide)
    have a3 := r 1 3 (by decide) (by decide)
    have a4 := r 1 4 (by decide) (by decide)
    have a5 := r 5 5 (by decide) (by decide)
    have a6 := r 5 4 (by decide) (by decide)
    have a7 := r 5 3 (by decide) (by decide)
    have a8 := r 5 2 (by decide) (by decide)
    have a9 := r 2 2 (by decide) (by decide)
    have b1 := r 4 4 (by decide) (by decide)
    have b2 := r 2 3 (by decide) (by decide)
    have b3 := r 4 3 (by decide) (by decide)
    simp [ds_n2] at a1 a2 a3 a4 a5 a6 a7 a8 a9 b1 b2 b3
    simp [ds_n2, ds_ct, z]
    generalize f 1 = c1 at *
    generalize f 2 = c2 at *
    generalize f 3 = c3 at *
    generalize f 4 = c4 at *
    generalize f 5 = c5 at *
    clear r
    cases c1 <;> cases c2 <;> cases c3 <;> cases c4 <;> cases c5 <;> first | decide | (exfalso; simp at *)
theorem ct_one {p : Nat → Bool} : ∀ {n : Nat}, (∀ i j, i < n → j < n → p i = true → p j = true → i = j) → ds_ct p n ≤ 1
  | 0, _ => Nat.zero_le 1
  | n + 1, h => by
    unfold ds_ct
    by_cases c : p n = true
    · rw [if_pos c, ct_false (fun k hk => by
        cases e : p k
        · rfl
        · have := h k n (by omega) (by omega) e c; omega)]; omega
    · rw [if_neg c]; exact ct_one (fun i j hi hj => h i j (by omega) (by omega))
theorem fc_one {w h : Nat} {hex : Bool} {o t : Int64} {p : Nat → Bool} (ho : ds_or w h hex o t = 1) : ds_fc w h hex o t p ≤ 1 := by
  obtain ⟨n1, n2, n3, n4⟩ := nt_le hex
  unfold ds_fc
  refine ct_one (fun i j hi hj q1 q2 => ?_)
  rw [Bool.and_eq_true] at q1 q2
  have c := cp_f hex i hi j hj
  have g := hs_cp (by omega) (by omega) q1.1 q2.1
  refine c.2 ?_
  by_cases e : ds_cp hex (ds_n2 hex + i) (ds_n2 hex + j) = 0
  · exact e
  · exfalso
    unfold ds_or at ho
    have one : ∀ (f : Nat → Bool) (n k : Nat), f 0 = true → k < n → 0 < k → f k = true → 2 ≤ ds_ct f n := by
      intro f n k z hk h0 hf
      obtain ⟨m, rfl⟩ := Nat.exists_eq_add_of_le (show 1 ≤ n by omega)
      rw [ct_add]
      have : 0 < ds_ct (fun i => f (1 + i)) m := ct_pos.mpr ⟨k - 1, by omega, by rw [show 1 + (k - 1) = k by omega]; exact hf⟩
      have : ds_ct f 1 = 1 := by unfold ds_ct ds_ct; rw [if_pos z]
      omega
    have := one _ _ _ hs_0 c.1 (by omega) g
    omega
