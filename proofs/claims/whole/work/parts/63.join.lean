/-! the reference's trees: cells joined -/
def ds_UF (R : Nat → Int32) (r : Nat → Nat) : Prop := ∀ i, i < 64 → r i ≤ i ∧ ∃ j, R i = nI j ∧ j ≤ i ∧ r j = r i ∧ (j = i ↔ r i = i)
theorem n_inj {a b : Nat} (h1 : a < 1000) (h2 : b < 1000) : nI a = nI b ↔ a = b := by
  rw [z_nI, z_nI, z_eq (by omega) (by omega) (by omega) (by omega)]; omega
theorem n_le {a b : Nat} (h1 : a < 1000) (h2 : b < 1000) : nI a ≤ nI b ↔ a ≤ b := by
  rw [z_nI, z_nI, z_le (by omega) (by omega) (by omega) (by omega)]; omega
theorem uf_it {R : Nat → Int32} {r : Nat → Nat} (h : ds_UF R r) : ∀ (fuel i : Nat), i < 64 → i < fuel → ds_it (fun s => fX8_root_2_b R s) fuel (nI i) = some (nI (r i)) := by
  intro fuel
  induction fuel with
  | zero => intro i _ q; omega
  | succ f ih =>
    intro i hi hf
    obtain ⟨h1, j, e1, e2, e3, e4⟩ := h i hi
    unfold ds_it
    have e : fX8_root_2_b R (nI i) = if j = i then some (.inr (nI i)) else some (.inl (nI j)) := by
      unfold fX8_root_2_b
      rw [if_pos (in_nI hi (by omega)), nI_clamp (by omega), e1]
      by_cases c : j = i
      · rw [if_pos (by rw [c]), if_pos c]
      · rw [if_neg (fun z => c ((n_inj (by omega) (by omega)).mp z)), if_neg c, if_pos (in_nI hi (by omega))]
    try dsimp only
    rw [e]
    by_cases c : j = i
    · rw [if_pos c, e4.mp c]
    · rw [if_neg c]
      dsimp only
      rw [ih j (by omega) (by omega), e3]
theorem uf_root {R : Nat → Int32} {r : Nat → Nat} (h : ds_UF R r) {i : Nat} (hi : i < 64) : fX8_root R (nI i) = some (nI (r i)) := uf_it h 1000 i hi (by omega)
theorem uf_rr {R : Nat → Int32} {r : Nat → Nat} (h : ds_UF R r) : ∀ i, i < 64 → r (r i) = r i := by
  intro i
  induction i using Nat.strongRecOn with
  | ind i ih =>
    intro hi
    obtain ⟨h1, j, e1, e2, e3, e4⟩ := h i hi
    by_cases c : j = i
    · rw [e4.mp c]; exact e4.mp c
    · rw [← e3]; exact ih j (by omega) (by omega)
theorem uf_lead {R : Nat → Int32} {r : Nat → Nat} (h : ds_UF R r) {i : Nat} (hi : i < 64) : R i = nI i ↔ r i = i := by
  obtain ⟨h1, j, e1, e2, e3, e4⟩ := h i hi
  rw [e1, n_inj (by omega) (by omega)]; exact e4
theorem uf_join {R : Nat → Int32} {r : Nat → Nat} (h : ds_UF R r) {p q : Nat} (hp : p < 64) (rp : r p = p) (rq : r q = q) (hq : q ≤ p) : ds_UF (upd R p (nI q)) (fun k => if r k = p then q else r k) := by
  intro k hk
  obtain ⟨h1, j, e1, e2, e3, e4⟩ := h k hk
  refine ⟨?_, ?_⟩
  · dsimp only; split <;> omega
  · by_cases c : k = p
    · subst c
      refine ⟨q, upd_at _ _ _, hq, ?_, ?_⟩
      · dsimp only
        rw [if_pos rp, rq]
        split
        · rfl
        · rfl
      · dsimp only
        rw [if_pos rp]
    · refine ⟨j, by rw [upd_ne _ _ c, e1], e2, ?_, ?_⟩
      · dsimp only; rw [e3]
      · dsimp only
        rw [e4]
        by_cases c2 : r k = p
        · rw [if_pos c2]
          constructor
          · intro z; omega
          · intro z; subst z; omega
        · rw [if_neg c2]
def ds_KI (K D : Nat → Nat → Prop) (R : Nat → Int32) : Prop := ∃ r, ds_UF R r ∧ (∀ i j, i < 64 → j < 64 → r i = r j → K i j) ∧ ∀ i j, i < 64 → j < 64 → D i j → r i = r j
def ds_Eq (K : Nat → Nat → Prop) : Prop := (∀ i, i < 64 → K i i) ∧ (∀ i j, i < 64 → j < 64 → K i j → K j i) ∧ ∀ i j k, i < 64 → j < 64 → k < 64 → K i j → K j k → K i k
theorem m_joins {K D : Nat → Nat → Prop} {R : Nat → Int32} (hK : ds_Eq K) (h : ds_KI K D R) {i j : Nat} (hi : i < 64) (hj : j < 64) (hk : K i j) : ∃ R', fX8_joins R (nI i) (nI j) = some R' ∧ ds_KI K (fun a b => D a b ∨ (a = i ∧ b = j)) R' := by
  obtain ⟨r, hu, hs, hd⟩ := h
  obtain ⟨K1, K2, K3⟩ := hK
  have bi := (hu i hi).1
  have bj := (hu j hj).1
  have ri := uf_rr hu i hi
  have rj := uf_rr hu j hj
  -- p, q: the two roots
  have core : ∀ p q, p < 64 → q < 64 → r p = p → r q = q → q ≤ p → K p q → (r i = p ∧ r j = q ∨ r i = q ∧ r j = p) → ds_KI K (fun a b => D a b ∨ (a = i ∧ b = j)) (upd R p (nI q)) := by
    intro p q hp hq rp rq hqp kpq hij
    refine ⟨_, uf_join hu hp rp rq hqp, ?_, ?_⟩
    · intro a b ha hb e
      try dsimp only at e
      have sa : K a (r a) := hs a (r a) ha (by have := (hu a ha).1; omega) (uf_rr hu a ha).symm
      have sb : K b (r b) := hs b (r b) hb (by have := (hu b hb).1; omega) (uf_rr hu b hb).symm
      have la := (hu a ha).1
      have lb := (hu b hb).1
      by_cases c1 : r a = p
      · by_cases c2 : r b = p
        · exact hs a b ha hb (by omega)
        · rw [if_pos c1, if_neg c2] at e
          rw [c1] at sa; rw [← e] at sb
          exact K3 a q b ha hq hb (K3 a p q ha hp hq sa kpq) (K2 b q hb hq sb)
      · by_cases c2 : r b = p
        · rw [if_neg c1, if_pos c2] at e
          rw [c2] at sb; rw [e] at sa
          exact K3 a q b ha hq hb sa (K2 b q hb hq (K3 b p q hb hp hq sb kpq))
        · rw [if_neg c1, if_neg c2] at e
          exact hs a b ha hb e
    · intro a b ha hb e
      try dsimp only
      rcases e with e | ⟨rfl, rfl⟩
      · rw [hd a b ha hb e]
      · rcases hij with ⟨x1, x2⟩ | ⟨x1, x2⟩
        · rw [if_pos x1, x2]; split <;> rfl
        · rw [if_pos x2, x1]; split <;> rfl
  have si : K i (r i) := hs i (r i) hi (by omega) ri.symm
  have sj : K j (r j) := hs j (r j) hj (by omega) rj.symm
  have kr : K (r i) (r j) := K3 _ i _ (by omega) hi (by omega) (K2 _ _ hi (by omega) si) (K3 i j _ hi hj (by omega) hk sj)
  unfold fX8_joins
  rw [uf_root hu hi, Option.bind_some, uf_root hu hj, Option.bind_some]
  by_cases c : r j ≤ r i
  · rw [if_pos ((n_le (by omega) (by omega)).mpr c), if_pos (in_nI (show r i < 64 by omega) (by omega)), nI_clamp (by omega)]
    exact ⟨_, rfl, core _ _ (by omega) (by omega) ri rj c kr (Or.inl ⟨rfl, rfl⟩)⟩
  · rw [if_neg (fun z => c ((n_le (by omega) (by omega)).mp z)), if_pos (in_nI (show r j < 64 by omega) (by omega)), nI_clamp (by omega)]
    exact ⟨_, rfl, core _ _ (by omega) (by omega) rj ri (by omega) (K2 _ _ (by omega) (by omega) kr) (Or.inr ⟨rfl, rfl⟩)⟩
theorem KI_imp {K D D' : Nat → Nat → Prop} {R : Nat → Int32} (h : ds_KI K D R) (hd : ∀ i j, D' i j → D i j) : ds_KI K D' R := by
  obtain ⟨r, h1, h2, h3⟩ := h
  exact ⟨r, h1, h2, fun i j hi hj q => h3 i j hi hj (hd i j q)⟩
theorem m_alone {K : Nat → Nat → Prop} (hK : ds_Eq K) (R : Nat → Int32) : ∃ R', fX8_alone R = some R' ∧ ds_KI K (fun _ _ => False) R' := by
  unfold fX8_alone fX8_alone_2
  suffices hq : ∃ r, ds_it (fun s => fX8_alone_2_b s.1 s.2) 1000 ((0 : Int32), R) = some r ∧ ∀ i, i < 64 → r i = nI i by
    obtain ⟨r, e, g⟩ := hq
    refine ⟨r, e, id, ?_, ?_, fun i j _ _ q => q.elim⟩
    · intro i hi
      exact ⟨Nat.le_refl i, i, g i hi, Nat.le_refl i, rfl, Iff.rfl⟩
    · intro i j hi hj e
      have e : i = j := e
      subst e; exact hK.1 i hi
  refine ds_it_inv _ (fun k s => s.1 = nI k ∧ ∀ i, i < k → s.2 i = nI i) _ 64 1000 0 _ (Nat.zero_le _) ⟨rfl, fun i hi => absurd hi (Nat.not_lt_zero i)⟩ (by omega) ?_ ?_
  · rintro k ⟨s1, s2⟩ hk ⟨e1, e2⟩
    dsimp only at e1 e2
    subst e1
    left
    dsimp only
    unfold fX8_alone_2_b
    rw [show (64 : Int32) = nI 64 from rfl, if_neg (fun z => by have := (n_le (by omega) (by omega)).mp z; omega), if_pos (in_nI hk (by omega)), nI_clamp (by omega), nI_1]
    refine ⟨_, rfl, rfl, fun i hi => ?_⟩
    dsimp only
    by_cases c : i = k
    · subst c; exact upd_at _ _ _
    · rw [upd_ne _ _ c]; exact e2 i (by omega)
  · rintro ⟨s1, s2⟩ ⟨e1, e2⟩
    dsimp only at e1 e2
    subst e1
    dsimp only
    unfold fX8_alone_2_b
    rw [if_pos (by decide)]
    exact ⟨_, rfl, e2⟩
/-- cells joined by one symmetry -/
def ds_im (w h : Nat) (hex : Bool) (tn : Nat) (dx dy : Int) (x y : Nat) : Nat := ds_ix w h (ds_tx hex tn x y + dx) (ds_ty2 hex tn x y + dy)
theorem m_joinsBy {w h : Nat} (hk : ds_ok w h) {hex : Bool} {o t : Int64} {al : Nat → Int32} (hm : ds_MT w h hex o t al) {K D : Nat → Nat → Prop} (hK : ds_Eq K) {R : Nat → Int32} (hr : ds_KI K D R) {tn : Nat} (ht : tn < ds_nt hex) {dx dy : Int} (d1 : -1000 ≤ dx) (d2 : dx ≤ 1000) (d3 : -1000 ≤ dy) (d4 : dy ≤ 1000) (hs : ∀ x y : Nat, x < w → y < h → K (8 * y + x) (ds_im w h hex tn dx dy x y)) : ∃ R', fX8_joinsBy al ds_tabF R (nI tn) (ds_z dx) (ds_z dy) = some R' ∧ ds_KI K (fun a b => D a b ∨ ∃ x y : Nat, x < w ∧ y < h ∧ a = 8 * y + x ∧ b = ds_im w h hex tn dx dy x y) R' := by
  obtain ⟨k1, k2, k3, k4⟩ := id hk
  obtain ⟨m0, m1, m2, m3⟩ := id hm
  unfold fX8_joinsBy fX8_joinsBy_3
  refine ds_it_inv _ (fun k s => s.1 = nI k ∧ ds_KI K (fun a b => D a b ∨ ∃ x y : Nat, x < w ∧ y < k ∧ a = 8 * y + x ∧ b = ds_im w h hex tn dx dy x y) s.2) _ h 1000 0 _ (Nat.zero_le _) ⟨rfl, KI_imp hr (fun i j q => q.elim id (fun ⟨x, y, _, q, _⟩ => absurd q (Nat.not_lt_zero y)))⟩ (by omega) ?_ ?_
  · rintro y ⟨s1, s2⟩ hy ⟨e1, e2⟩
    dsimp only at e1 e2
    subst e1
    left
    dsimp only
    unfold fX8_joinsBy_3_b
    rw [l_1, m1, if_neg (nI_ge hy (by omega))]
    unfold fX8_joinsBy_17
    suffices hq : ∃ r, ds_it (fun s => fX8_joinsBy_17_b al ds_tabF (nI tn) (ds_z dx) (ds_z dy) (nI y) s.1 s.2) 1000 ((0 : Int32), s2) = some r ∧ ∃ s', r = .inl s' ∧ s'.1 = nI (y + 1) ∧ ds_KI K (fun a b => D a b ∨ ∃ x y' : Nat, x < w ∧ y' < y + 1 ∧ a = 8 * y' + x ∧ b = ds_im w h hex tn dx dy x y') s'.2 by
      obtain ⟨r, e, s', rfl, e3, e4⟩ := hq; exact ⟨s', e, e3, e4⟩
    refine ds_it_inv _ (fun k s => s.1 = nI k ∧ ds_KI K (fun a b => D a b ∨ ∃ x y' : Nat, x < w ∧ (y' < y ∨ (y' = y ∧ x < k)) ∧ a = 8 * y' + x ∧ b = ds_im w h hex tn dx dy x y') s.2) _ w 1000 0 _ (Nat.zero_le _) ⟨rfl, KI_imp e2 (fun i j q => q.elim Or.inl (fun ⟨x, y', q1, q2, q3⟩ => Or.inr ⟨x, y', q1, by omega, q3⟩))⟩ (by omega) ?_ ?_
    · rintro x ⟨t1, t2⟩ hx ⟨f1, f2⟩
      dsimp only at f1 f2
      subst f1
      left
      dsimp only
      obtain ⟨⟨b1, b2⟩, b3, b4⟩ := t_small ht (x := (x : Int)) (y := (y : Int)) (n := 8) (by omega) (by omega) (by omega) (by omega)
      have il := (ix_lt hk (ds_tx hex tn x y + dx) (ds_ty2 hex tn x y + dy)).2.2.1
      obtain ⟨R', g1, g2⟩ := m_joins hK f2 (i := 8 * y + x) (j := ds_im w h hex tn dx dy x y) (by omega) il (hs x y hx hy)
      have tX := m_tx m2 ht (x : Int) (y : Int)
      have tY := m_ty m2 ht (x : Int) (y : Int)
      rw [← z_nI, ← z_nI] at tX tY
      have e8 : (8 : Int32) * nI y + nI x = nI (8 * y + x) := by rw [z_nI, z_nI, show (8 : Int32) = ds_z 8 from rfl, z_mul, z_add, z_nI]; congr 1
      unfold fX8_joinsBy_17_b
      rw [l_0, m0, if_neg (nI_ge hx (by omega)), tX, Option.bind_some, tY, Option.bind_some, z_add, z_add, m_at hk m0 m1 (by omega) (by omega) (by omega) (by omega), Option.bind_some, e8, show ds_ix w h (ds_tx hex tn x y + dx) (ds_ty2 hex tn x y + dy) = ds_im w h hex tn dx dy x y from rfl, g1, Option.bind_some, nI_1]
      refine ⟨_, rfl, rfl, KI_imp g2 ?_⟩
      rintro a b (q | ⟨x', y', q1, q2, q3, q4⟩)
      · exact Or.inl (Or.inl q)
      · by_cases c : y' = y ∧ x' = x
        · obtain ⟨rfl, rfl⟩ := c
          exact Or.inr ⟨q3, q4⟩
        · exact Or.inl (Or.inr ⟨x', y', q1, by omega, q3, q4⟩)
    · rintro ⟨t1, t2⟩ ⟨f1, f2⟩
      dsimp only at f1 f2
      subst f1
      dsimp only
      unfold fX8_joinsBy_17_b fX8_joinsBy_72
      rw [l_0, m0, if_pos (nI_le (Nat.le_refl _) (by omega)), Option.bind_some, nI_1]
      refine ⟨_, rfl, _, rfl, rfl, KI_imp f2 ?_⟩
      rintro a b (q | ⟨x', y', q1, q2, q3, q4⟩)
      · exact Or.inl q
      · exact Or.inr ⟨x', y', q1, by omega, q3, q4⟩
  · rintro ⟨s1, s2⟩ ⟨e1, e2⟩
    dsimp only at e1 e2
    subst e1
    dsimp only
    unfold fX8_joinsBy_3_b
    rw [l_1, m1, if_pos (nI_le (Nat.le_refl _) (by omega))]
    exact ⟨_, rfl, e2⟩
