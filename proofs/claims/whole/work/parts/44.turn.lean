/-! a tile turned -/
theorem b_one : ∀ j, j < 64 → ds_b 1 j = decide (j = 0) := by decide +kernel
theorem b_put (a : Int64) {n m i : Nat} (hn : n < 64) (hm : m < 64) (hi : i < 64) : ds_b (ds_lshl ((ds_lushr a (nI n)) &&& 1) (nI m)) i = (decide (i = m) && ds_b a n) := by
  rw [b_shl _ hm, b_and, b_shr _ hn]
  by_cases h : i = m
  · subst h
    rw [Nat.sub_self, b_one 0 (by omega)]
    simp [hi]
  · by_cases h2 : m ≤ i
    · rw [b_one _ (by omega), show decide (i - m = 0) = false by simp; omega]
      simp [h]
    · simp [h, h2]
theorem z_idx {w h : Nat} (hk : ds_ok w h) (x y : Int) : (8 : Int32) * nI (y % h).toNat + nI (x % w).toNat = nI (ds_ix w h x y) := by
  rw [sh_8, nI_add]; rfl
theorem p_turn {w h : Nat} (hk : ds_ok w h) {o t : Int64} (ho : ds_sub w h o) (ht : ds_sub w h t) (hex hx2 : Bool) {tn : Nat} (htn : tn < ds_nt hex) :
    ∃ (q : Bool) (o' t' : Int64), fX6_turnFrom (nI w) (nI h) (ds_q hx2) o t (ds_q hex) (nI tn) = some (ds_q q, nI w, nI h, ds_q hx2, o', t') ∧ ds_sub w h o' ∧ ds_sub w h t' ∧
      (q = true ↔ ds_St w h o t (ds_tx hex (ds_iv hex tn) w 0) (ds_ty2 hex (ds_iv hex tn) w 0) ∧ ds_St w h o t (ds_tx hex (ds_iv hex tn) 0 h) (ds_ty2 hex (ds_iv hex tn) 0 h)) ∧
      (q = true → ∀ x y : Int, ds_P w h o' t' x y = ds_P w h o t (ds_tx hex (ds_iv hex tn) x y) (ds_ty2 hex (ds_iv hex tn) x y)) := by
  obtain ⟨k1, k2, k3, k4⟩ := id hk
  obtain ⟨iv1, iv2⟩ := n_inv hex tn htn
  generalize ds_iv hex tn = b at iv1 iv2 ⊢
  have m0 := n_small hex b iv2 0 (by omega)
  have m1 := n_small hex b iv2 1 (by omega)
  have m2 := n_small hex b iv2 2 (by omega)
  have m3 := n_small hex b iv2 3 (by omega)
  have hz1 : (1 : Int32) = ds_z 1 := rfl
  have hz0 : (0 : Int32) = ds_z 0 := rfl
  unfold fX6_turnFrom
  have ec : fX6_clear (nI w) (nI h) (ds_q hx2) = some (nI w, nI h, ds_q hx2, (0 : Int64), (0 : Int64)) := by
    unfold fX6_clear; rw [if_pos (q_01 hx2)]
  rw [ec, Option.bind_some, iv1, Option.bind_some, hz1, hz0, p_tx iv2, Option.bind_some, p_ty iv2, Option.bind_some, p_tx iv2, Option.bind_some, p_ty iv2, Option.bind_some]
  have g1 : ds_tx hex b 1 0 = ds_m hex b 0 := by unfold ds_tx; omega
  have g2 : ds_ty2 hex b 1 0 = ds_m hex b 2 := by unfold ds_ty2; omega
  have g3 : ds_tx hex b 0 1 = ds_m hex b 1 := by unfold ds_tx; omega
  have g4 : ds_ty2 hex b 0 1 = ds_m hex b 3 := by unfold ds_ty2; omega
  rw [g1, g2, g3, g4]
  dsimp only
  rw [z_nI w, z_nI h, z_mul, z_mul, z_mul, z_mul, ← z_nI w, ← z_nI h]
  have w1 : ds_tx hex b w 0 = (w : Int) * ds_m hex b 0 := by unfold ds_tx; grind
  have w2 : ds_ty2 hex b w 0 = (w : Int) * ds_m hex b 2 := by unfold ds_ty2; grind
  have w3 : ds_tx hex b 0 h = (h : Int) * ds_m hex b 1 := by unfold ds_tx; grind
  have w4 : ds_ty2 hex b 0 h = (h : Int) * ds_m hex b 3 := by unfold ds_ty2; grind
  rw [w1, w2, w3, w4]
  have bd : ∀ (n : Nat) (z : Int), n ≤ 8 → -1 ≤ z → z ≤ 1 → -2147483648 ≤ (n : Int) * z ∧ (n : Int) * z < 2147483648 := by
    intro n z hn h1 h2
    have : z = -1 ∨ z = 0 ∨ z = 1 := by omega
    rcases this with rfl | rfl | rfl <;> omega
  have b0 := bd w _ k2 m0.1 m0.2
  have b1 := bd h _ k4 m1.1 m1.2
  have b2 := bd w _ k2 m2.1 m2.2
  have b3 := bd h _ k4 m3.1 m3.2
  obtain ⟨q1, e1, d1⟩ := p_comes hk ho ht b0.1 b0.2 b2.1 b2.2
  obtain ⟨q2, e2, d2⟩ := p_comes hk ho ht b1.1 b1.2 b3.1 b3.2
  rw [e1, Option.bind_some]
  have zs : ds_sub w h 0 := fun i _ hb => by rw [b_zero] at hb; cases hb
  cases q1 with
  | false =>
    rw [if_pos (show ds_q false = ds_z 0 from rfl)]
    exact ⟨false, 0, 0, rfl, zs, zs, ⟨fun q => (by cases q), fun q => by have := d1.mpr q.1; cases this⟩, fun q => by cases q⟩
  | true =>
    rw [if_neg (by decide), e2, Option.bind_some]
    cases q2 with
    | false =>
      rw [if_pos (show ds_q false = ds_z 0 from rfl)]
      exact ⟨false, 0, 0, rfl, zs, zs, ⟨fun q => (by cases q), fun q => by have := d2.mpr q.2; cases this⟩, fun q => by cases q⟩
    | true =>
      rw [if_neg (by decide)]
      have S1 := d1.mp rfl
      have S2 := d2.mp rfl
      -- the two loops
      have loops : ∃ r, fX6_turnFrom_110 o t (nI w) (nI h) (ds_q hx2) (ds_z (ds_m hex b 0)) (ds_z (ds_m hex b 2)) (ds_z (ds_m hex b 1)) (ds_z (ds_m hex b 3)) (ds_z 0) 0 0 = some r ∧ ∃ o' t' : Int64, r = (1, nI w, nI h, ds_q hx2, o', t') ∧ ds_sub w h o' ∧ ds_sub w h t' ∧ ∀ x y : Nat, x < w → y < h → ds_b o' (8 * y + x) = ds_pt w h o (ds_tx hex b x y) (ds_ty2 hex b x y) ∧ ds_b t' (8 * y + x) = ds_pt w h t (ds_tx hex b x y) (ds_ty2 hex b x y) := by
        unfold fX6_turnFrom_110
        refine ds_it_inv _ (fun k s => s.1 = nI k ∧ ds_sub w h s.2.1 ∧ ds_sub w h s.2.2 ∧ ∀ x y : Nat, x < w → y < h → ds_b s.2.1 (8 * y + x) = (decide (y < k) && ds_pt w h o (ds_tx hex b x y) (ds_ty2 hex b x y)) ∧ ds_b s.2.2 (8 * y + x) = (decide (y < k) && ds_pt w h t (ds_tx hex b x y) (ds_ty2 hex b x y))) _ h 1000 0 _ (Nat.zero_le _) ⟨rfl, zs, zs, fun x y _ _ => by simp [b_zero]⟩ (by omega) ?_ ?_
        · intro y s hy ⟨f1, f2, f3, f4⟩
          obtain ⟨v9, o1, t1⟩ := s
          dsimp only at f1 f2 f3 f4
          subst f1
          left
          show ∃ s', fX6_turnFrom_110_b o t (nI w) (nI h) (ds_q hx2) (ds_z (ds_m hex b 0)) (ds_z (ds_m hex b 2)) (ds_z (ds_m hex b 1)) (ds_z (ds_m hex b 3)) (nI y) o1 t1 = some (.inl s') ∧ _
          unfold fX6_turnFrom_110_b
          rw [if_neg (nI_ge hy (by omega))]
          unfold fX6_turnFrom_122
          have key : ∃ r, ds_it (fun s => fX6_turnFrom_122_b o t (nI w) (nI h) (ds_z (ds_m hex b 0)) (ds_z (ds_m hex b 2)) (ds_z (ds_m hex b 1)) (ds_z (ds_m hex b 3)) (nI y) s.1 s.2.1 s.2.2) 1000 ((0 : Int32), o1, t1) = some r ∧ ∃ o2 t2 : Int64, r = .inl (nI (y + 1), o2, t2) ∧ ds_sub w h o2 ∧ ds_sub w h t2 ∧ ∀ x y' : Nat, x < w → y' < h → ds_b o2 (8 * y' + x) = (decide (y' < y + 1) && ds_pt w h o (ds_tx hex b x y') (ds_ty2 hex b x y')) ∧ ds_b t2 (8 * y' + x) = (decide (y' < y + 1) && ds_pt w h t (ds_tx hex b x y') (ds_ty2 hex b x y')) := by
            refine ds_it_inv _ (fun k s => s.1 = nI k ∧ ds_sub w h s.2.1 ∧ ds_sub w h s.2.2 ∧ ∀ x y' : Nat, x < w → y' < h → ds_b s.2.1 (8 * y' + x) = (decide (y' < y ∨ (y' = y ∧ x < k)) && ds_pt w h o (ds_tx hex b x y') (ds_ty2 hex b x y')) ∧ ds_b s.2.2 (8 * y' + x) = (decide (y' < y ∨ (y' = y ∧ x < k)) && ds_pt w h t (ds_tx hex b x y') (ds_ty2 hex b x y'))) _ w 1000 0 _ (Nat.zero_le _) ⟨rfl, f2, f3, fun x y' hx hy' => by have := f4 x y' hx hy'; rw [this.1, this.2]; simp⟩ (by omega) ?_ ?_
            · intro x s hx ⟨j1, j2, j3, j4⟩
              obtain ⟨v10, o2, t2⟩ := s
              dsimp only at j1 j2 j3 j4
              subst j1
              left
              show ∃ s', fX6_turnFrom_122_b o t (nI w) (nI h) (ds_z (ds_m hex b 0)) (ds_z (ds_m hex b 2)) (ds_z (ds_m hex b 1)) (ds_z (ds_m hex b 3)) (nI y) (nI x) o2 t2 = some (.inl s') ∧ _
              unfold fX6_turnFrom_122_b
              have tb : ∀ (n : Nat) (z : Int), n ≤ 8 → -1 ≤ z → z ≤ 1 → -8 ≤ (n : Int) * z ∧ (n : Int) * z ≤ 8 := by
                intro n z hn h1 h2
                have : z = -1 ∨ z = 0 ∨ z = 1 := by omega
                rcases this with rfl | rfl | rfl <;> omega
              have c0 := tb x _ (by omega) m0.1 m0.2
              have c1 := tb y _ (by omega) m1.1 m1.2
              have c2 := tb x _ (by omega) m2.1 m2.2
              have c3 := tb y _ (by omega) m3.1 m3.2
              rw [if_neg (nI_ge hx (by omega)), z_nI x, z_nI y, z_mul, z_mul, z_add, p_rest (by omega) (by omega) k3 (by omega), Option.bind_some, z_mul, z_mul, z_add, p_rest (by omega) (by omega) k1 (by omega), Option.bind_some, Option.bind_some, Option.bind_some, z_idx hk, ← z_nI y, ← z_nI x, sh_8, nI_add]
              have ex : (x : Int) * ds_m hex b 0 + (y : Int) * ds_m hex b 1 = ds_tx hex b x y := by unfold ds_tx; grind
              have ey : (x : Int) * ds_m hex b 2 + (y : Int) * ds_m hex b 3 = ds_ty2 hex b x y := by unfold ds_ty2; grind
              rw [ex, ey]
              have il := (ix_lt hk (ds_tx hex b x y) (ds_ty2 hex b x y)).2.2.1
              have sb : ∀ (a c : Int64), ds_sub w h c → ds_sub w h (c ||| ds_lshl ((ds_lushr a (nI (ds_ix w h (ds_tx hex b x y) (ds_ty2 hex b x y)))) &&& 1) (nI (8 * y + x))) := by
                intro a c hc i hi hb
                rw [b_or, b_put a il (by omega) hi] at hb
                rcases Bool.or_eq_true_iff.mp hb with h1 | h1
                · exact hc i hi h1
                · have : i = 8 * y + x := by simpa using (Bool.and_eq_true_iff.mp h1).1
                  omega
              refine ⟨_, rfl, nI_1 x, sb o o2 j2, sb t t2 j3, fun x' y' hx' hy' => ?_⟩
              dsimp only
              have := j4 x' y' hx' hy'
              rw [b_or, b_or, b_put o il (by omega) (by omega), b_put t il (by omega) (by omega), this.1, this.2]
              by_cases e : y' = y ∧ x' = x
              · obtain ⟨e1, e2⟩ := e
                subst e1; subst e2
                unfold ds_pt
                simp
              · have n1 : decide (8 * y' + x' = 8 * y + x) = false := by simp; omega
                have n2 : decide (y' < y ∨ (y' = y ∧ x' < x + 1)) = decide (y' < y ∨ (y' = y ∧ x' < x)) := by
                  apply decide_eq_decide.mpr; omega
                rw [n1, n2]
                simp
            · intro s ⟨j1, j2, j3, j4⟩
              obtain ⟨v10, o2, t2⟩ := s
              dsimp only at j1 j2 j3 j4
              subst j1
              show ∃ r, fX6_turnFrom_122_b o t (nI w) (nI h) (ds_z (ds_m hex b 0)) (ds_z (ds_m hex b 2)) (ds_z (ds_m hex b 1)) (ds_z (ds_m hex b 3)) (nI y) (nI w) o2 t2 = some (.inr r) ∧ _
              unfold fX6_turnFrom_122_b
              rw [if_pos (nI_le (Nat.le_refl w) (by omega))]
              refine ⟨_, rfl, o2, t2, ?_, j2, j3, fun x y' hx hy' => ?_⟩
              · rw [nI_1]
              · have := j4 x y' hx hy'
                have n2 : decide (y' < y ∨ (y' = y ∧ x < w)) = decide (y' < y + 1) := by
                  apply decide_eq_decide.mpr; omega
                rw [this.1, this.2, n2]
                exact ⟨rfl, rfl⟩
          obtain ⟨r, er, o2, t2, rfl, p1, p2, p3⟩ := key
          exact ⟨_, er, rfl, p1, p2, p3⟩
        · intro s ⟨f1, f2, f3, f4⟩
          obtain ⟨v9, o1, t1⟩ := s
          dsimp only at f1 f2 f3 f4
          subst f1
          show ∃ r, fX6_turnFrom_110_b o t (nI w) (nI h) (ds_q hx2) (ds_z (ds_m hex b 0)) (ds_z (ds_m hex b 2)) (ds_z (ds_m hex b 1)) (ds_z (ds_m hex b 3)) (nI h) o1 t1 = some (.inr r) ∧ _
          unfold fX6_turnFrom_110_b
          rw [if_pos (nI_le (Nat.le_refl h) (by omega))]
          refine ⟨_, rfl, o1, t1, rfl, f2, f3, fun x y hx hy => ?_⟩
          have := f4 x y hx hy
          rw [this.1, this.2]
          simp [hy]
      obtain ⟨r, er, o', t', rfl, p1, p2, p3⟩ := loops
      refine ⟨true, o', t', er, p1, p2, ⟨fun _ => ⟨S1, S2⟩, fun _ => rfl⟩, fun _ x y => ?_⟩
      -- on the whole plane
      obtain ⟨i1, i2, -⟩ := ix_lt hk x y
      have q := p3 _ _ i1 i2
      have a1 := Int.emod_nonneg x (b := (w : Int)) (by omega)
      have a3 := Int.emod_nonneg y (b := (h : Int)) (by omega)
      rw [Int.toNat_of_nonneg a1, Int.toNat_of_nonneg a3] at q
      have lhs : ds_P w h o' t' x y = ds_P w h o t (ds_tx hex b (x % w) (y % h)) (ds_ty2 hex b (x % w) (y % h)) := by
        unfold ds_P
        rw [← q.1, ← q.2]; rfl
      rw [lhs]
      have dx : x = x % w + w * (x / w) := by have := Int.emod_add_mul_ediv x w; omega
      have dy : y = y % h + h * (y / h) := by have := Int.emod_add_mul_ediv y h; omega
      have T1 := St_mul S1 (x / w)
      have T2 := St_mul S2 (y / h)
      have T := St_add T1 T2
      have := T (ds_tx hex b (x % w) (y % h)) (ds_ty2 hex b (x % w) (y % h))
      rw [← this]
      congr 1
      · conv => rhs; rw [dx, dy]
        unfold ds_tx; grind
      · conv => rhs; rw [dx, dy]
        unfold ds_ty2; grind
