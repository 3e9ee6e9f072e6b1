/-! steps, turnings: what the class finds -/
def ds_q (b : Bool) : Int32 := if b then 1 else 0
theorem q_0 (b : Bool) : ds_q b = 0 ↔ b = false := by cases b <;> decide
theorem q_01 (b : Bool) : ds_q b = 0 ∨ ds_q b = 1 := by cases b <;> decide
def ds_P (w h : Nat) (o t : Int64) (x y : Int) : Bool × Bool := (ds_pt w h o x y, ds_pt w h t x y)
def ds_St (w h : Nat) (o t : Int64) (a b : Int) : Prop := ∀ x y : Int, ds_P w h o t (x + a) (y + b) = ds_P w h o t x y
theorem ds_it_inv {σ ρ : Type} (body : σ → Option (σ ⊕ ρ)) (I : Nat → σ → Prop) (Q : ρ → Prop) : ∀ (N fuel k : Nat) (s : σ), k ≤ N → I k s → N - k < fuel →
    (∀ k s, k < N → I k s → (∃ s', body s = some (.inl s') ∧ I (k + 1) s') ∨ ∃ r, body s = some (.inr r) ∧ Q r) → (∀ s, I N s → ∃ r, body s = some (.inr r) ∧ Q r) → ∃ r, ds_it body fuel s = some r ∧ Q r := by
  intro N fuel
  induction fuel with
  | zero => intro k s _ _ h; omega
  | succ f ih =>
    intro k s hk hI hf hstep hexit
    unfold ds_it
    by_cases hkN : k = N
    · subst hkN
      obtain ⟨r, e, hq⟩ := hexit s hI
      rw [e]
      exact ⟨r, rfl, hq⟩
    · rcases hstep k s (by omega) hI with ⟨s', e, hI'⟩ | ⟨r, e, hq⟩
      · rw [e]
        exact ih (k + 1) s' (by omega) hI' (by omega) hstep hexit
      · rw [e]
        exact ⟨r, rfl, hq⟩
theorem St_zero {w h : Nat} {o t : Int64} : ds_St w h o t 0 0 := fun x y => by rw [Int.add_zero, Int.add_zero]
theorem St_add {w h : Nat} {o t : Int64} {a b c d : Int} (h1 : ds_St w h o t a b) (h2 : ds_St w h o t c d) : ds_St w h o t (a + c) (b + d) := fun x y => by
  rw [← Int.add_assoc, ← Int.add_assoc, h2, h1]
theorem St_neg {w h : Nat} {o t : Int64} {a b : Int} (h1 : ds_St w h o t a b) : ds_St w h o t (-a) (-b) := fun x y => by
  have := h1 (x + -a) (y + -b)
  rw [show x + -a + a = x by omega, show y + -b + b = y by omega] at this
  exact this.symm
theorem St_nat {w h : Nat} {o t : Int64} {a b : Int} (h1 : ds_St w h o t a b) (n : Nat) : ds_St w h o t (n * a) (n * b) := by
  induction n with
  | zero => rw [Int.natCast_zero, Int.zero_mul, Int.zero_mul]; exact St_zero
  | succ n ih =>
    rw [Int.natCast_succ, Int.add_mul, Int.add_mul, Int.one_mul, Int.one_mul]
    exact St_add ih h1
theorem St_mul {w h : Nat} {o t : Int64} {a b : Int} (h1 : ds_St w h o t a b) (k : Int) : ds_St w h o t (k * a) (k * b) := by
  rcases Int.le_total 0 k with hk | hk
  · obtain ⟨n, rfl⟩ := Int.eq_ofNat_of_zero_le hk
    exact St_nat h1 n
  · obtain ⟨n, hn⟩ := Int.eq_ofNat_of_zero_le (show 0 ≤ -k by omega)
    have := St_neg (St_nat h1 n)
    rw [← Int.neg_mul, ← Int.neg_mul, ← hn, Int.neg_neg] at this
    exact this
theorem at_per {w h : Nat} (a : Int64) (x y k m : Int) : ds_pt w h a (x + w * k) (y + h * m) = ds_pt w h a x y := by
  unfold ds_pt ds_ix
  rw [Int.add_mul_emod_self_left, Int.add_mul_emod_self_left]
theorem St_w {w h : Nat} {o t : Int64} : ds_St w h o t w 0 := fun x y => by
  have e1 := at_per (w := w) (h := h) o x y 1 0
  have e2 := at_per (w := w) (h := h) t x y 1 0
  unfold ds_P
  rw [Int.mul_one, Int.mul_zero] at e1 e2
  rw [e1, e2]
theorem St_h {w h : Nat} {o t : Int64} : ds_St w h o t 0 h := fun x y => by
  have e1 := at_per (w := w) (h := h) o x y 0 1
  have e2 := at_per (w := w) (h := h) t x y 0 1
  unfold ds_P
  rw [Int.mul_one, Int.mul_zero] at e1 e2
  rw [e1, e2]
theorem roll_eq {w h : Nat} (hk : ds_ok w h) {c c' : Int64} {a b : Int} (hc : ds_sub w h c) (hc' : ds_sub w h c') (hg : ∀ x y : Int, ds_pt w h c' x y = ds_pt w h c (x - a) (y - b)) : c' = c ↔ ∀ x y : Int, ds_pt w h c (x + a) (y + b) = ds_pt w h c x y := by
  rw [sub_at hk hc' hc]
  constructor
  · intro e x y
    have := e (x + a) (y + b)
    rw [hg, show x + a - a = x by omega, show y + b - b = y by omega] at this
    exact this.symm
  · intro e x y
    rw [hg]
    have := e (x - a) (y - b)
    rw [show x - a + a = x by omega, show y - b + b = y by omega] at this
    exact this.symm
theorem St_iff {w h : Nat} {o t : Int64} {a b : Int} : ds_St w h o t a b ↔ (∀ x y : Int, ds_pt w h o (x + a) (y + b) = ds_pt w h o x y) ∧ ∀ x y : Int, ds_pt w h t (x + a) (y + b) = ds_pt w h t x y := by
  unfold ds_St ds_P
  constructor
  · intro e; exact ⟨fun x y => (Prod.mk.inj (e x y)).1, fun x y => (Prod.mk.inj (e x y)).2⟩
  · intro e x y; rw [e.1, e.2]
theorem p_comes {w h : Nat} (hk : ds_ok w h) {o t : Int64} (ho : ds_sub w h o) (ht : ds_sub w h t) {a b : Int} (h1 : -2147483648 ≤ a) (h2 : a < 2147483648) (h3 : -2147483648 ≤ b) (h4 : b < 2147483648) : ∃ q : Bool, fX6_comesAgainBy (nI w) (nI h) o t (ds_z a) (ds_z b) = some (ds_q q) ∧ (q = true ↔ ds_St w h o t a b) := by
  obtain ⟨c1, e1, s1, g1⟩ := p_rolled hk ho h1 h2 h3 h4
  obtain ⟨c2, e2, s2, g2⟩ := p_rolled hk ht h1 h2 h3 h4
  have r1 := roll_eq hk ho s1 g1
  have r2 := roll_eq hk ht s2 g2
  unfold fX6_comesAgainBy
  rw [e1, Option.bind_some, e2, Option.bind_some, St_iff, ← r1, ← r2]
  by_cases k1 : c1 = o
  · rw [if_pos ((b_cmp _ _).mpr k1)]
    by_cases k2 : c2 = t
    · rw [if_pos ((b_cmp _ _).mpr k2)]
      exact ⟨true, rfl, fun _ => ⟨k1, k2⟩, fun _ => rfl⟩
    · rw [if_neg (fun q => k2 ((b_cmp _ _).mp q))]
      exact ⟨false, rfl, fun q => (by cases q), fun q => absurd q.2 k2⟩
  · rw [if_neg (fun q => k1 ((b_cmp _ _).mp q))]
    exact ⟨false, rfl, fun q => (by cases q), fun q => absurd q.1 k1⟩
-- the steps by which another tile comes to be this one
def ds_From (w h : Nat) (o t o' t' : Int64) (x y : Int) : Prop := ∀ u v : Int, ds_P w h o' t' (u - x) (v - y) = ds_P w h o t u v
theorem p_bit {x y : Nat} (hx : x < 8) (hy : y < 8) : fX6_bit (nI x) (nI y) = some (ds_lshl 1 (nI (8 * y + x))) := by
  unfold fX6_bit
  rw [sh_8, nI_add]
theorem p_steps {w h : Nat} (hk : ds_ok w h) {o t o' t' : Int64} (ho : ds_sub w h o) (ht : ds_sub w h t) (ho' : ds_sub w h o') (ht' : ds_sub w h t') : ∃ c, fX6_stepsFrom (nI w) (nI h) o t o' t' = some c ∧ ds_sub w h c ∧ ∀ x y : Nat, x < w → y < h → (ds_b c (8 * y + x) = true ↔ ds_From w h o t o' t' x y) := by
  obtain ⟨k1, k2, k3, k4⟩ := id hk
  unfold fX6_stepsFrom fX6_stepsFrom_5
  refine (fun ⟨r, e, p⟩ => ⟨r, e, p⟩ : (∃ r, ds_it _ 1000 ((0 : Int64), (0 : Int32)) = some r ∧ (ds_sub w h r ∧ ∀ x y : Nat, x < w → y < h → (ds_b r (8 * y + x) = true ↔ ds_From w h o t o' t' x y))) → _) ?_
  refine ds_it_inv _ (fun k s => s.2 = nI k ∧ ds_sub w h s.1 ∧ ∀ x y : Nat, x < w → y < h → (ds_b s.1 (8 * y + x) = true ↔ y < k ∧ ds_From w h o t o' t' x y)) _ h 1000 0 _ (Nat.zero_le _) ⟨rfl, (fun i _ hb => by rw [b_zero] at hb; cases hb), (fun x y _ _ => ⟨(fun q => by rw [b_zero] at q; cases q), (fun q => absurd q.1 (Nat.not_lt_zero y))⟩)⟩ (by omega) ?_ ?_
  · intro y s hy ⟨e1, e2, e3⟩
    obtain ⟨u, v⟩ := s
    dsimp only at e1 e2 e3
    subst e1
    left
    obtain ⟨c1, d1, s1, g1⟩ := p_down hk ho' hy
    obtain ⟨c2, d2, s2, g2⟩ := p_down hk ht' hy
    show ∃ s', fX6_stepsFrom_5_b (nI w) (nI h) o t o' t' u (nI y) = some (.inl s') ∧ _
    unfold fX6_stepsFrom_5_b
    rw [if_neg (nI_ge hy (by omega)), d1, Option.bind_some, d2, Option.bind_some]
    unfold fX6_stepsFrom_41
    have key : ∃ r, ds_it (fun s => fX6_stepsFrom_41_b (nI w) (nI h) o t (nI y) c1 c2 s.1 s.2) 1000 (u, (0 : Int32)) = some r ∧ ∃ u', r = .inl (u', nI (y + 1)) ∧ ds_sub w h u' ∧ ∀ x y' : Nat, x < w → y' < h → (ds_b u' (8 * y' + x) = true ↔ y' < y + 1 ∧ ds_From w h o t o' t' x y') := by
      refine ds_it_inv _ (fun k s => s.2 = nI k ∧ ds_sub w h s.1 ∧ ∀ x y' : Nat, x < w → y' < h → (ds_b s.1 (8 * y' + x) = true ↔ (y' < y ∨ (y' = y ∧ x < k)) ∧ ds_From w h o t o' t' x y')) _ w 1000 0 _ (Nat.zero_le _) ⟨rfl, e2, fun x y' hx hy' => by rw [e3 x y' hx hy']; constructor <;> (intro q; exact ⟨by omega, q.2⟩)⟩ (by omega) ?_ ?_
      · intro x s hx ⟨f1, f2, f3⟩
        obtain ⟨u1, v1⟩ := s
        dsimp only at f1 f2 f3
        subst f1
        left
        obtain ⟨a1, l1, t1, m1⟩ := p_along hk s1 hx
        obtain ⟨a2, l2, t2, m2⟩ := p_along hk s2 hx
        have gd : (a1 = o ∧ a2 = t) ↔ ds_From w h o t o' t' x y := by
          have z1 : a1 = o ↔ ∀ u v : Int, ds_pt w h o' (u - x) (v - y) = ds_pt w h o u v := by
            rw [sub_at hk t1 ho]
            have : ∀ u v : Int, ds_pt w h a1 u v = ds_pt w h o' (u - x) (v - y) := by
              intro u v
              obtain ⟨i1, i2, -⟩ := ix_lt hk u v
              have j1 : ((x : Int) % w).toNat = x := by rw [Int.emod_eq_of_lt (by omega) (by omega)]; omega
              have j2 : ((y : Int) % h).toNat = y := by rw [Int.emod_eq_of_lt (by omega) (by omega)]; omega
              unfold ds_pt ds_ix
              have := m1 _ _ i1 i2
              rw [this]
              have n1 := mod_sub k1 u (x : Int); rw [j1] at n1; rw [n1]
              obtain ⟨i3, i4, -⟩ := ix_lt hk (u - x) v
              rw [g1 _ _ i3 i4]
              have n2 := mod_sub k3 v (y : Int); rw [j2] at n2; rw [n2]
            constructor
            · intro e u v; rw [← this, e]
            · intro e u v; rw [this, e]
          have z2 : a2 = t ↔ ∀ u v : Int, ds_pt w h t' (u - x) (v - y) = ds_pt w h t u v := by
            rw [sub_at hk t2 ht]
            have : ∀ u v : Int, ds_pt w h a2 u v = ds_pt w h t' (u - x) (v - y) := by
              intro u v
              obtain ⟨i1, i2, -⟩ := ix_lt hk u v
              have j1 : ((x : Int) % w).toNat = x := by rw [Int.emod_eq_of_lt (by omega) (by omega)]; omega
              have j2 : ((y : Int) % h).toNat = y := by rw [Int.emod_eq_of_lt (by omega) (by omega)]; omega
              unfold ds_pt ds_ix
              have := m2 _ _ i1 i2
              rw [this]
              have n1 := mod_sub k1 u (x : Int); rw [j1] at n1; rw [n1]
              obtain ⟨i3, i4, -⟩ := ix_lt hk (u - x) v
              rw [g2 _ _ i3 i4]
              have n2 := mod_sub k3 v (y : Int); rw [j2] at n2; rw [n2]
            constructor
            · intro e u v; rw [← this, e]
            · intro e u v; rw [this, e]
          rw [z1, z2]
          unfold ds_From ds_P
          constructor
          · intro q u v; rw [q.1, q.2]
          · intro q; exact ⟨fun u v => (Prod.mk.inj (q u v)).1, fun u v => (Prod.mk.inj (q u v)).2⟩
        show ∃ s', fX6_stepsFrom_41_b (nI w) (nI h) o t (nI y) c1 c2 u1 (nI x) = some (.inl s') ∧ _
        unfold fX6_stepsFrom_41_b
        rw [if_neg (nI_ge hx (by omega)), l1, Option.bind_some, l2, Option.bind_some, p_bit (by omega) (by omega), Option.bind_some]
        have no : ¬ ds_From w h o t o' t' x y → ∃ s', fX6_stepsFrom_92 u1 (nI x) = some (.inl s') ∧ s'.2 = nI (x + 1) ∧ ds_sub w h s'.1 ∧ ∀ x' y' : Nat, x' < w → y' < h → (ds_b s'.1 (8 * y' + x') = true ↔ (y' < y ∨ (y' = y ∧ x' < x + 1)) ∧ ds_From w h o t o' t' x' y') := by
          intro hn
          refine ⟨_, rfl, nI_1 x, f2, fun x' y' hx' hy' => ?_⟩
          rw [f3 x' y' hx' hy']
          constructor
          · intro q; exact ⟨by omega, q.2⟩
          · intro q
            refine ⟨?_, q.2⟩
            rcases q.1 with q1 | ⟨q1, q2⟩
            · exact Or.inl q1
            · by_cases q3 : x' = x
              · subst q3; subst q1; exact absurd q.2 hn
              · exact Or.inr ⟨q1, by omega⟩
        by_cases c1 : a1 = o
        · rw [if_pos ((b_cmp _ _).mpr c1)]
          by_cases c2 : a2 = t
          · rw [if_pos ((b_cmp _ _).mpr c2)]
            refine ⟨_, rfl, nI_1 x, ?_, fun x' y' hx' hy' => ?_⟩
            · intro i hi hb
              dsimp only at hb
              rw [b_or, b_bit _ (by omega) i hi] at hb
              rcases Bool.or_eq_true_iff.mp hb with q | q
              · exact f2 i hi q
              · have : i = 8 * y + x := by simpa using q
                omega
            · dsimp only
              rw [b_or, b_bit _ (by omega) _ (by omega), Bool.or_eq_true_iff, f3 x' y' hx' hy', decide_eq_true_iff]
              have := gd.mp ⟨c1, c2⟩
              constructor
              · rintro (q | q)
                · exact ⟨by omega, q.2⟩
                · have q1 : y' = y := by omega
                  have q2 : x' = x := by omega
                  subst q1; subst q2; exact ⟨by omega, this⟩
              · intro q
                by_cases q3 : y' = y ∧ x' = x
                · right; omega
                · left; exact ⟨by omega, q.2⟩
          · rw [if_neg (fun q => c2 ((b_cmp _ _).mp q))]
            exact no (fun q => c2 (gd.mpr q).2)
        · rw [if_neg (fun q => c1 ((b_cmp _ _).mp q))]
          exact no (fun q => c1 (gd.mpr q).1)
      · intro s ⟨f1, f2, f3⟩
        obtain ⟨u1, v1⟩ := s
        dsimp only at f1 f2 f3
        subst f1
        show ∃ r, fX6_stepsFrom_41_b (nI w) (nI h) o t (nI y) c1 c2 u1 (nI w) = some (.inr r) ∧ _
        unfold fX6_stepsFrom_41_b
        rw [if_pos (nI_le (Nat.le_refl w) (by omega))]
        refine ⟨_, rfl, u1, ?_, f2, fun x y' hx hy' => ?_⟩
        · rw [nI_1]
        · rw [f3 x y' hx hy']
          constructor <;> (intro q; exact ⟨by omega, q.2⟩)
    obtain ⟨r, er, u', rfl, p1, p2⟩ := key
    exact ⟨_, er, rfl, p1, p2⟩
  · intro s ⟨e1, e2, e3⟩
    obtain ⟨u, v⟩ := s
    dsimp only at e1 e2 e3
    subst e1
    show ∃ r, fX6_stepsFrom_5_b (nI w) (nI h) o t o' t' u (nI h) = some (.inr r) ∧ _
    unfold fX6_stepsFrom_5_b
    rw [if_pos (nI_le (Nat.le_refl h) (by omega))]
    exact ⟨_, rfl, e2, fun x y hx hy => by rw [e3 x y hx hy]; constructor; exact fun q => q.2; exact fun q => ⟨hy, q⟩⟩
