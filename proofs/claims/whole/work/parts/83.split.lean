/-! orbits: the class -/
theorem g_brought {n : Nat} (hk : ds_ok n n) {c : Nat} (hc : c < 17) {m : Nat} (hm : m < 2) {a : Nat} (ha : a < 64) : fX2_brought (nI c) (nI (3 * m)) (nI n) (nI a) = some (ds_lshl 1 (nI (ds_ph n c m a))) := by
  obtain ⟨k1, k2, k3, k4⟩ := id hk
  obtain ⟨t0, t1, t2, tl, th, _⟩ := mk_tab c hc m hm
  obtain ⟨r1, r2, _⟩ := n_r8 a ha
  have ts := t_small tl (x := ((a % 8 : Nat) : Int)) (y := ((a / 8 : Nat) : Int)) (n := 8) (by omega) (by omega) (by omega) (by omega)
  have b1 : ds_mkh c m % 2 * (n / 2) ≤ 1 * 4 := Nat.mul_le_mul (by omega) (by omega)
  have b2 : ds_mkh c m / 2 * (n / 2) ≤ 1 * 4 := Nat.mul_le_mul (by omega) (by omega)
  have px := p_tx tl ((a % 8 : Nat) : Int) ((a / 8 : Nat) : Int)
  have py := p_ty tl ((a % 8 : Nat) : Int) ((a / 8 : Nat) : Int)
  rw [← z_nI, ← z_nI] at px py
  have core : fX2_brought_11 (nI c) (nI (3 * m)) (nI n) (nI a) (ds_q (ds_chx c)) = some (ds_lshl 1 (nI (ds_ph n c m a))) := by
    unfold fX2_brought_11
    rw [t0, Option.bind_some, r1, r2, px, Option.bind_some, t1, Option.bind_some, py, Option.bind_some, t2, Option.bind_some, n_half n (by omega), n_mul, n_mul, z_nI (ds_mkh c m % 2 * (n / 2)), z_nI (ds_mkh c m / 2 * (n / 2)), z_add, z_add, p_rest (by omega) (by omega) k1 (by omega), Option.bind_some, p_rest (by omega) (by omega) k1 (by omega), Option.bind_some]
    have l1 := (ix_lt hk (ds_tx (ds_chx c) (ds_mkt c m) (a % 8 : Nat) (a / 8 : Nat) + (ds_mkh c m % 2 * (n / 2) : Nat)) (ds_ty2 (ds_chx c) (ds_mkt c m) (a % 8 : Nat) (a / 8 : Nat) + (ds_mkh c m / 2 * (n / 2) : Nat)))
    rw [p_bit (by omega) (by omega), Option.bind_some]
    rfl
  unfold fX2_brought
  by_cases cc : c < 12
  · rw [if_pos (show nI c < 12 by rw [z_nI]; exact (z_lt (by omega) (by omega) (by omega) (by omega)).mpr (show (c : Int) < 12 by omega))]
    have : ds_q (ds_chx c) = 0 := by unfold ds_chx; rw [decide_eq_false (by omega)]; rfl
    rw [this] at core; exact core
  · rw [if_neg (show ¬ nI c < 12 by rw [z_nI]; intro z; have := (z_lt (by omega) (by omega) (by omega) (by omega)).mp (show ds_z c < ds_z 12 from z); omega)]
    have : ds_q (ds_chx c) = 1 := by unfold ds_chx; rw [decide_eq_true (by omega)]; rfl
    rw [this] at core; exact core
theorem ct_sub {p q : Nat → Bool} : ∀ {n : Nat}, (∀ i, i < n → p i = true → q i = true) → ds_ct p n ≤ ds_ct q n
  | 0, _ => Nat.le_refl _
  | n + 1, h => by
    have ih := ct_sub (p := p) (q := q) (n := n) (fun i hi => h i (by omega))
    show ds_ct p n + (if p n = true then 1 else 0) ≤ ds_ct q n + (if q n = true then 1 else 0)
    by_cases c : p n = true
    · rw [if_pos c, if_pos (h n (by omega) c)]; omega
    · rw [if_neg c]; omega
theorem ct_more {p q : Nat → Bool} : ∀ {n : Nat}, (∀ i, i < n → p i = true → q i = true) → (∃ i, i < n ∧ q i = true ∧ p i = false) → ds_ct p n < ds_ct q n
  | 0, _, ⟨i, hi, _⟩ => by omega
  | n + 1, h, ⟨i, hi, h1, h2⟩ => by
    show ds_ct p n + (if p n = true then 1 else 0) < ds_ct q n + (if q n = true then 1 else 0)
    by_cases e : i = n
    · subst e
      have ih := ct_sub (p := p) (q := q) (n := i) (fun j hj => h j (by omega))
      rw [h1, h2]; simp; omega
    · have ih := ct_more (p := p) (q := q) (n := n) (fun j hj => h j (by omega)) ⟨i, by omega, h1, h2⟩
      by_cases c : p n = true
      · rw [if_pos c, if_pos (h n (by omega) c)]; omega
      · rw [if_neg c]; omega
theorem g_closed {n : Nat} (hk : ds_ok n n) {c : Nat} (hc : c < 17) {p : Nat} (hp : p < 64) : ∃ m, fX2_closed (nI c) (nI n) (ds_lshl 1 (nI p)) = some m ∧ ∀ i, i < 64 → (ds_b m i = true ↔ ds_Rc n c p i) := by
  have inner : ∀ u k, (∀ i, i < 64 → ds_b u i = true → ds_Rc n c p i) → ∃ z, fX2_closed_20 (nI c) (nI n) (nI k) u u 0 = some z ∧ ∃ cells, (∀ i, i < 64 → ds_b u i = true → ds_b cells i = true) ∧ (∀ i, i < 64 → ds_b cells i = true → ds_Rc n c p i) ∧ (∀ a, a < 64 → ds_b u a = true → ds_b cells (ds_ph n c 0 a) = true ∧ ds_b cells (ds_ph n c 1 a) = true) ∧ z = (if cells = u then .inr cells else .inl (cells, nI (k + 1))) := by
    intro u k hu
    unfold fX2_closed_20
    refine ds_it_inv _ (fun q s => ∃ cells, s = (cells, nI q) ∧ (∀ i, i < 64 → ds_b u i = true → ds_b cells i = true) ∧ (∀ i, i < 64 → ds_b cells i = true → ds_Rc n c p i) ∧ (∀ a, a < q → ds_b u a = true → ds_b cells (ds_ph n c 0 a) = true ∧ ds_b cells (ds_ph n c 1 a) = true)) _ 64 1000 0 _ (Nat.zero_le _) ⟨u, rfl, fun i _ z => z, hu, fun a ha => by omega⟩ (by omega) ?_ ?_
    · rintro q s hq ⟨cells, rfl, i1, i2, i3⟩
      left
      try dsimp only
      unfold fX2_closed_20_b fX2_closed_61
      rw [show (64 : Int32) = nI 64 from rfl, if_neg (nI_ge hq (by omega)), nI_1]
      cases cq : ds_b cells q
      · rw [if_pos ((b_cmp _ _).mpr ((b_low cells hq).mpr cq))]
        refine ⟨_, rfl, cells, rfl, i1, i2, fun a ha hb => ?_⟩
        by_cases e : a = q
        · subst e
          have := i1 a hq hb
          rw [cq] at this; cases this
        · exact i3 a (by omega) hb
      · have g0 := g_brought hk hc (m := 0) (by omega) hq
        have g1 := g_brought hk hc (m := 1) (by omega) hq
        rw [show nI (3 * 0) = (0 : Int32) from rfl] at g0
        rw [show nI (3 * 1) = (3 : Int32) from rfl] at g1
        rw [if_neg (fun z => by have := (b_low cells hq).mp ((b_cmp _ _).mp z); rw [cq] at this; cases this), g0, Option.bind_some, g1, Option.bind_some]
        have hb : ∀ i, i < 64 → ds_b (cells ||| (ds_lshl 1 (nI (ds_ph n c 0 q)) ||| ds_lshl 1 (nI (ds_ph n c 1 q)))) i = (ds_b cells i || (decide (i = ds_ph n c 0 q) || decide (i = ds_ph n c 1 q))) := by
          intro i hi
          rw [b_or, b_or, b_bit _ (ph_lt hk c 0 q).1 i hi, b_bit _ (ph_lt hk c 1 q).1 i hi]
        refine ⟨_, rfl, _, rfl, fun i hi z => ?_, fun i hi z => ?_, fun a ha z => ?_⟩
        · rw [hb i hi, i1 i hi z]; rfl
        · rw [hb i hi] at z
          by_cases z1 : ds_b cells i = true
          · exact i2 i hi z1
          · have rq := i2 q hq cq
            by_cases z2 : i = ds_ph n c 0 q
            · rw [z2]; exact Rc_trans rq (Rc_step (by omega) q)
            · by_cases z3 : i = ds_ph n c 1 q
              · rw [z3]; exact Rc_trans rq (Rc_step (by omega) q)
              · rw [decide_eq_false z2, decide_eq_false z3] at z
                simp at z; exact absurd z z1
        · rw [hb _ (ph_lt hk c 0 a).1, hb _ (ph_lt hk c 1 a).1]
          by_cases e : a = q
          · subst e
            rw [decide_eq_true (rfl : ds_ph n c 0 a = _), decide_eq_true (rfl : ds_ph n c 1 a = _)]; simp
          · have := i3 a (by omega) z
            rw [this.1, this.2]; exact ⟨rfl, rfl⟩
    · rintro s ⟨cells, rfl, i1, i2, i3⟩
      try dsimp only
      unfold fX2_closed_20_b fX2_closed_67
      rw [if_pos (by decide), nI_1]
      by_cases e : cells = u
      · rw [if_pos ((b_cmp _ _).mpr e)]
        exact ⟨_, rfl, cells, i1, i2, i3, by rw [if_pos e]⟩
      · rw [if_neg (fun z => e ((b_cmp _ _).mp z))]
        exact ⟨_, rfl, cells, i1, i2, i3, by rw [if_neg e]⟩
  unfold fX2_closed fX2_closed_6
  refine ds_it_inv _ (fun k s => ∃ u, s = (u, nI k) ∧ ds_b u p = true ∧ (∀ i, i < 64 → ds_b u i = true → ds_Rc n c p i) ∧ k + 1 ≤ ds_ct (ds_b u) 64) _ 64 1000 0 _ (Nat.zero_le _) ⟨_, rfl, by rw [b_bit p hp p hp, decide_eq_true rfl], fun i hi z => by
    rw [b_bit p hp i hi] at z
    have := of_decide_eq_true z
    rw [this]; exact Rc_refl, by
    have := ct_strict (ds_b (ds_lshl 1 (nI p))) hp (by rw [b_bit p hp p hp, decide_eq_true rfl])
    omega⟩ (by omega) ?_ ?_
  · rintro k s hk4 ⟨u, rfl, u1, u2, u3⟩
    try dsimp only
    unfold fX2_closed_6_b
    obtain ⟨z, e, cells, i1, i2, i3, hz⟩ := inner u k u2
    rw [show (64 : Int32) = nI 64 from rfl, if_neg (nI_ge hk4 (by omega)), e]
    by_cases ee : cells = u
    · right
      rw [if_pos ee] at hz
      subst hz ee
      refine ⟨_, rfl, fun i hi => ⟨u2 i hi, fun r => ?_⟩⟩
      exact (r (fun a => a < 64 ∧ ds_b cells a = true) ⟨hp, u1⟩ (fun a ⟨a1, a2⟩ => ⟨⟨(ph_lt hk c 0 a).1, (i3 a a1 a2).1⟩, ⟨(ph_lt hk c 1 a).1, (i3 a a1 a2).2⟩⟩)).2
    · left
      rw [if_neg ee] at hz
      subst hz
      refine ⟨_, rfl, cells, rfl, i1 p hp u1, i2, ?_⟩
      have : ds_ct (ds_b u) 64 < ds_ct (ds_b cells) 64 := by
        refine ct_more i1 ?_
        apply Classical.byContradiction
        intro nn
        apply ee
        apply b_ext
        intro i hi
        cases q1 : ds_b cells i
        · cases q2 : ds_b u i
          · rfl
          · have := i1 i hi q2; rw [q1] at this; cases this
        · cases q2 : ds_b u i
          · exact absurd ⟨i, hi, q1, q2⟩ nn
          · rfl
      omega
  · rintro s ⟨u, rfl, u1, u2, u3⟩
    have := ct_le (ds_b u) 64
    omega
def ds_OV (n c : Nat) (mem : Nat → Int64) (q : Nat) : Prop := (ds_ld n n (ds_Ko n c) q → ds_sub n n (mem q) ∧ ∀ i, i < 64 → ds_ins n n i = true → (ds_b (mem q) i = true ↔ ds_Ko n c q i)) ∧ (¬ ds_ld n n (ds_Ko n c) q → mem q = 0)
theorem g_split {n : Nat} (hk : ds_ok n n) {c : Nat} (hc : c < 17) (hf : ds_fit n c = true) (mem : Nat → Int64) : ∃ mem', fX2_split mem (nI c) (nI n) = some (nI (ds_lc n n (ds_Ko n c) 64), mem') ∧ ∀ q, q < 64 → ds_OV n c mem' q := by
  obtain ⟨k1, k2, k3, k4⟩ := id hk
  have hK := Ko_Eq hk hc hf
  unfold fX2_split fX2_split_10
  have fin := ds_it_inv (fun s : Int64 × Int32 × Int32 × (Nat → Int64) => fX2_split_10_b (nI c) (nI n) s.1 s.2.1 s.2.2.1 s.2.2.2) (fun k s => ∃ u mem, s = (u, nI k, nI (ds_lc n n (ds_Ko n c) k), mem) ∧ (∀ i, i < 64 → ds_ins n n i = true → (ds_b u i = true ↔ ∃ q, q < k ∧ ds_ld n n (ds_Ko n c) q ∧ ds_Ko n c q i)) ∧ ∀ q, q < k → ds_OV n c mem q) (fun r => ∃ mem', r = (nI (ds_lc n n (ds_Ko n c) 64), mem') ∧ ∀ q, q < 64 → ds_OV n c mem' q) 64 1000 0 (0, 0, 0, mem) (Nat.zero_le _) ⟨0, mem, rfl, fun i hi _ => ⟨fun z => (by rw [b_zero] at z; cases z), fun ⟨q, z, _⟩ => absurd z (Nat.not_lt_zero q)⟩, fun q z => absurd z (Nat.not_lt_zero q)⟩ (by omega) ?_ ?_
  · obtain ⟨r, e, mem', rfl, q⟩ := fin
    exact ⟨mem', e, q⟩
  · rintro k s hk6 ⟨u, mem, rfl, hu, hq⟩
    left
    try dsimp only
    have in1 : fX2_split_10_b (nI c) (nI n) u (nI k) (nI (ds_lc n n (ds_Ko n c) k)) mem = fX2_split_43 (nI (ds_lc n n (ds_Ko n c) k)) mem (nI c) (nI n) u (nI k) (ds_q (ds_ins n n k)) := by
      obtain ⟨r1, r2, _⟩ := n_r8 k hk6
      unfold fX2_split_10_b fX2_split_42
      rw [show (64 : Int32) = nI 64 from rfl, if_neg (nI_ge hk6 (by omega)), r1, r2]
      unfold ds_ins
      by_cases c1 : k / 8 < n
      · rw [if_neg (nI_ge c1 (by omega)), decide_eq_true c1, Bool.and_true]
        by_cases c2 : k % 8 < n
        · rw [if_neg (nI_ge c2 (by omega)), decide_eq_true c2]; rfl
        · rw [if_pos (nI_le (by omega) (by omega)), decide_eq_false c2]; rfl
      · rw [if_pos (nI_le (by omega) (by omega)), decide_eq_false c1, Bool.and_false]; rfl
    have lcs : ds_lc n n (ds_Ko n c) (k + 1) = ds_lc n n (ds_Ko n c) k + (if ds_d (ds_ld n n (ds_Ko n c) k) = true then 1 else 0) := rfl
    have old : ∀ v : Int64, ∀ q, q < k → ds_OV n c (vp_updL mem k v) q := by
      intro v q hqk
      have := hq q hqk
      unfold ds_OV at this ⊢
      rw [updL_ne mem v (show q ≠ k by omega)]
      exact this
    rw [in1]
    unfold fX2_split_43 fX2_split_105
    rw [if_pos (in_nI hk6 (by omega)), nI_clamp (by omega), nI_1]
    have no : ¬ ds_ld n n (ds_Ko n c) k → ∃ u' mem', (u, nI (k + 1), nI (ds_lc n n (ds_Ko n c) k), vp_updL mem k 0) = (u', nI (k + 1), nI (ds_lc n n (ds_Ko n c) (k + 1)), mem') ∧ (∀ i, i < 64 → ds_ins n n i = true → (ds_b u' i = true ↔ ∃ q, q < k + 1 ∧ ds_ld n n (ds_Ko n c) q ∧ ds_Ko n c q i)) ∧ ∀ q, q < k + 1 → ds_OV n c mem' q := by
      intro nl
      refine ⟨u, vp_updL mem k 0, by rw [lcs, d_false nl]; rfl, fun i hi ii => ?_, fun q hq' => ?_⟩
      · rw [hu i hi ii]
        constructor
        · rintro ⟨q, q1, q2⟩; exact ⟨q, by omega, q2⟩
        · rintro ⟨q, q1, q2, q3⟩
          by_cases e : q = k
          · subst e; exact absurd q2 nl
          · exact ⟨q, by omega, q2, q3⟩
      · by_cases e : q = k
        · subst e
          exact ⟨fun z => absurd z nl, fun _ => updL_at _ _ _⟩
        · exact old 0 q (by omega)
    cases ik : ds_ins n n k
    · rw [if_pos (show ds_q false = 0 from rfl)]
      exact ⟨_, rfl, no (fun z => by have := z.2.1; rw [ik] at this; cases this)⟩
    · rw [if_neg (show ¬ ds_q true = 0 by decide)]
      have ldk := ld_no hK hk6 ik
      have huk := (hu k hk6 ik).trans ldk
      cases bk : ds_b u k
      · rw [if_pos ((b_cmp _ _).mpr ((b_low u hk6).mpr bk))]
        have yes : ds_ld n n (ds_Ko n c) k := by
          apply Classical.byContradiction
          intro z
          have := huk.mpr z
          rw [bk] at this; cases this
        obtain ⟨m, em, hb⟩ := g_closed hk hc hk6
        rw [em, Option.bind_some, if_pos (in_nI hk6 (by omega)), if_pos (in_nI hk6 (by omega)), Option.bind_some, updL_at, nI_1]
        have hb2 : ∀ i, i < 64 → ds_ins n n i = true → (ds_b m i = true ↔ ds_Ko n c k i) := by
          intro i hi ii
          rw [hb i hi]
          constructor
          · intro z; exact Or.inr ⟨ik, ii, z⟩
          · rintro (z | ⟨_, _, z⟩)
            · rw [z]; exact Rc_refl
            · exact z
        refine ⟨_, rfl, _, _, by rw [lcs, d_true yes]; rfl, fun i hi ii => ?_, fun q hq' => ?_⟩
        · rw [b_or]
          constructor
          · intro z
            by_cases z1 : ds_b u i = true
            · obtain ⟨q, q1, q2⟩ := (hu i hi ii).mp z1
              exact ⟨q, by omega, q2⟩
            · have z2 : ds_b m i = true := by
                cases q : ds_b u i
                · rw [q] at z; exact z
                · exact absurd q z1
              exact ⟨k, by omega, yes, (hb2 i hi ii).mp z2⟩
          · rintro ⟨q, q1, q2, q3⟩
            by_cases e : q = k
            · subst e; rw [(hb2 i hi ii).mpr q3, Bool.or_true]
            · rw [(hu i hi ii).mpr ⟨q, by omega, q2, q3⟩, Bool.true_or]
        · by_cases e : q = k
          · subst e
            refine ⟨fun _ => ?_, fun z => absurd yes z⟩
            rw [updL_at]
            refine ⟨fun i hi z => ?_, hb2⟩
            have := (Rc_ins hk ((hb i hi).mp z) hk6 ik).2
            exact ins_of this
          · have := hq q (by omega)
            unfold ds_OV at this ⊢
            rw [updL_ne _ _ e, updL_ne _ _ e]
            exact this
      · rw [if_neg (fun z => by have := (b_low u hk6).mp ((b_cmp _ _).mp z); rw [bk] at this; cases this)]
        exact ⟨_, rfl, no (huk.mp bk)⟩
  · rintro s ⟨u, mem, rfl, hu, hq⟩
    try dsimp only
    unfold fX2_split_10_b
    rw [if_pos (by decide)]
    exact ⟨_, rfl, mem, rfl, hq⟩
