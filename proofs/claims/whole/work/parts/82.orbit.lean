/-! orbits: the makers, and the reference -/
def ds_mrF : Nat → Int32 := ds_LF [-1, -1, 2, -1, 5, -1, 5, -1, 6, -1, 5, 4, 2, 5, 2, 5, 2, 6, 1, -1, 1, 6, 1, 7, 2, -1, 2, 6, 2, 7, 1, -1, 1, 6]
def ds_hvF : Nat → Int32 := ds_LF [0, 0, 0, 0, 0, 0, 2, 0, 0, 0, 0, 0, 0, 1, 0, 3, 0, 0, 0, 0, 0, 0, 0, 3, 0, 0, 0, 0, 0, 0, 0, 0, 0, 0]
def ds_mkt (c m : Nat) : Nat := [0, 0, 2, 0, 5, 0, 5, 0, 6, 0, 5, 4, 2, 5, 2, 5, 2, 6, 1, 0, 1, 6, 1, 7, 2, 0, 2, 6, 2, 7, 1, 0, 1, 6].getD (2 * c + m) 0
def ds_mkh (c m : Nat) : Nat := [0, 0, 0, 0, 0, 0, 2, 0, 0, 0, 0, 0, 0, 1, 0, 3, 0, 0, 0, 0, 0, 0, 0, 3, 0, 0, 0, 0, 0, 0, 0, 0, 0, 0].getD (2 * c + m) 0
def ds_chx (c : Nat) : Bool := decide (12 ≤ c)
def ds_fit (n c : Nat) : Bool := decide (ds_mkh c 0 + ds_mkh c 1 = 0) || decide (n % 2 = 0)
def ds_ph (n c m i : Nat) : Nat := ds_ix n n (ds_tx (ds_chx c) (ds_mkt c m) (i % 8 : Nat) (i / 8 : Nat) + (ds_mkh c m % 2 * (n / 2) : Nat)) (ds_ty2 (ds_chx c) (ds_mkt c m) (i % 8 : Nat) (i / 8 : Nat) + (ds_mkh c m / 2 * (n / 2) : Nat))
theorem mk_tab : ∀ c, c < 17 → ∀ m, m < 2 → fX2_maker (nI c) (nI (3 * m)) = some (nI (ds_mkt c m)) ∧ fX2_maker (nI c) (nI (3 * m) + 1) = some (nI (ds_mkh c m % 2)) ∧ fX2_maker (nI c) (nI (3 * m) + 2) = some (nI (ds_mkh c m / 2)) ∧ ds_mkt c m < ds_nt (ds_chx c) ∧ ds_mkh c m < 4 ∧ ((ds_mrF (2 * c + m) = -1 ∧ ds_mkt c m = 0 ∧ ds_mkh c m = 0) ∨ (ds_mrF (2 * c + m) = nI (ds_mkt c m) ∧ ds_mrF (2 * c + m) ≠ -1)) ∧ ds_hvF (2 * c + m) &&& 1 = nI (ds_mkh c m % 2) ∧ ds_hvF (2 * c + m) >>> (1 &&& 31) = nI (ds_mkh c m / 2) := by decide +kernel
def ds_itr (f : Nat → Nat) : Nat → Nat → Nat
  | 0, i => i
  | k + 1, i => ds_itr f k (f i)
def ds_od (hex : Bool) (t : Nat) : Nat := if t = 0 then 0 else if ds_n2 hex ≤ t then 1 else if hex then (if t = 1 then 5 else 2) else if t = 1 then 3 else 1
def ds_phc (n c m i : Nat) : Bool := !(ds_fit n c && ds_ins n n i) || (ds_itr (ds_ph n c m) (ds_od (ds_chx c) (ds_mkt c m)) (ds_ph n c m i) == i)
theorem ph_od0 : ∀ n, n < 9 → ∀ c, c < 17 → ∀ m, m < 2 → ∀ i, i < 64 → ds_phc n c m i = true := by decide +kernel
theorem ph_od (n : Nat) (hn : n < 9) (_ : 1 ≤ n) (c : Nat) (hc : c < 17) (hf : ds_fit n c = true) (m : Nat) (hm : m < 2) (i : Nat) (hi : i < 64) (ii : ds_ins n n i = true) : ds_itr (ds_ph n c m) (ds_od (ds_chx c) (ds_mkt c m)) (ds_ph n c m i) = i := by
  have := ph_od0 n hn c hc m hm i hi
  unfold ds_phc at this
  rw [hf, ii] at this
  simpa using this
theorem ph_lt {n : Nat} (hk : ds_ok n n) (c m i : Nat) : ds_ph n c m i < 64 ∧ ds_ins n n (ds_ph n c m i) = true := ⟨(ix_lt hk _ _).2.2.1, ins_ix hk _ _⟩
def ds_Rc (n c i j : Nat) : Prop := ∀ S : Nat → Prop, S i → (∀ a, S a → S (ds_ph n c 0 a) ∧ S (ds_ph n c 1 a)) → S j
theorem Rc_refl {n c i : Nat} : ds_Rc n c i i := fun _ h _ => h
theorem Rc_trans {n c i j k : Nat} (h1 : ds_Rc n c i j) (h2 : ds_Rc n c j k) : ds_Rc n c i k := fun S h hs => h2 S (h1 S h hs) hs
theorem Rc_step {n c m : Nat} (hm : m < 2) (i : Nat) : ds_Rc n c i (ds_ph n c m i) := by
  intro S h hs
  rcases (show m = 0 ∨ m = 1 by omega) with rfl | rfl
  · exact (hs i h).1
  · exact (hs i h).2
theorem Rc_itr {n c m : Nat} (hm : m < 2) : ∀ k i, ds_Rc n c i (ds_itr (ds_ph n c m) k i)
  | 0, i => Rc_refl
  | k + 1, i => Rc_trans (Rc_step hm i) (Rc_itr hm k _)
theorem Rc_ins {n c i j : Nat} (hk : ds_ok n n) (h : ds_Rc n c i j) (hi : i < 64) (ii : ds_ins n n i = true) : j < 64 ∧ ds_ins n n j = true :=
  h (fun a => a < 64 ∧ ds_ins n n a = true) ⟨hi, ii⟩ (fun a _ => ⟨ph_lt hk c 0 a, ph_lt hk c 1 a⟩)
theorem Rc_symm {n c i j : Nat} (hk : ds_ok n n) (hc : c < 17) (hf : ds_fit n c = true) (h : ds_Rc n c i j) (hi : i < 64) (ii : ds_ins n n i = true) : ds_Rc n c j i := by
  obtain ⟨k1, k2, k3, k4⟩ := id hk
  have back : ∀ a m, a < 64 → ds_ins n n a = true → m < 2 → ds_Rc n c (ds_ph n c m a) a := by
    intro a m ha ia hm
    have := Rc_itr (n := n) (c := c) hm (ds_od (ds_chx c) (ds_mkt c m)) (ds_ph n c m a)
    rw [ph_od n (by omega) k1 c hc hf m hm a ha ia] at this
    exact this
  have := h (fun a => a < 64 ∧ ds_ins n n a = true ∧ ds_Rc n c a i) ⟨hi, ii, Rc_refl⟩ (fun a ⟨a1, a2, a3⟩ => ⟨⟨(ph_lt hk c 0 a).1, (ph_lt hk c 0 a).2, Rc_trans (back a 0 a1 a2 (by omega)) a3⟩, ⟨(ph_lt hk c 1 a).1, (ph_lt hk c 1 a).2, Rc_trans (back a 1 a1 a2 (by omega)) a3⟩⟩)
  exact this.2.2
def ds_Ko (n c i j : Nat) : Prop := i = j ∨ (ds_ins n n i = true ∧ ds_ins n n j = true ∧ ds_Rc n c i j)
theorem Ko_Eq {n c : Nat} (hk : ds_ok n n) (hc : c < 17) (hf : ds_fit n c = true) : ds_Eq (ds_Ko n c) := by
  refine ⟨fun i _ => Or.inl rfl, ?_, ?_⟩
  · rintro i j hi hj (q | ⟨q1, q2, q3⟩)
    · exact Or.inl q.symm
    · exact Or.inr ⟨q2, q1, Rc_symm hk hc hf q3 hi q1⟩
  · rintro i j k hi hj hk' (q | ⟨q1, q2, q3⟩) (p | ⟨p1, p2, p3⟩)
    · exact Or.inl (q.trans p)
    · subst q; exact Or.inr ⟨p1, p2, p3⟩
    · subst p; exact Or.inr ⟨q1, q2, q3⟩
    · exact Or.inr ⟨q1, p2, Rc_trans q3 p3⟩
theorem n_half : ∀ n, n < 9 → nI n / 2 = nI (n / 2) := by decide +kernel
theorem m_orbits {n : Nat} (hk : ds_ok n n) {c : Nat} (hc : c < 17) (hf : ds_fit n c = true) {o t : Int64} {al : Nat → Int32} (hm : ds_MT n n (ds_chx c) o t al) (R : Nat → Int32) : ∃ R', fX8_laysOrbits R al ds_mrF ds_hvF ds_tabF (nI c) = some R' ∧ ds_KR n n (ds_Ko n c) R' := by
  obtain ⟨k1, k2, k3, k4⟩ := id hk
  obtain ⟨m0, m1, m2, m3⟩ := id hm
  have hK := Ko_Eq hk hc hf
  obtain ⟨R0, e0, g0⟩ := m_alone hK R
  unfold fX8_laysOrbits fX8_laysOrbits_8
  rw [e0, Option.bind_some, show (2 : Int32) = nI 2 from rfl, n_mul]
  have fin := ds_it_inv (fun s : Int32 × (Nat → Int32) => fX8_laysOrbits_8_b al ds_mrF ds_hvF ds_tabF (nI c) s.1 s.2) (fun m s => s.1 = nI (2 * c + m) ∧ ds_KI (ds_Ko n c) (fun a b => ∃ m', m' < m ∧ a < 64 ∧ ds_ins n n a = true ∧ b = ds_ph n c m' a) s.2) (fun r => ds_KI (ds_Ko n c) (fun a b => ∃ m', m' < 2 ∧ a < 64 ∧ ds_ins n n a = true ∧ b = ds_ph n c m' a) r) 2 1000 0 (nI (2 * c), R0) (Nat.zero_le _) ⟨rfl, KI_imp g0 (fun a b ⟨m', q, _⟩ => by omega)⟩ (by omega) ?_ ?_
  · obtain ⟨R', e, r, u1, u2, u3⟩ := fin
    refine ⟨R', e, r, u1, ?_, ?_⟩
    · intro i hi hin
      have b := (u1 i hi).1
      rcases u2 i (r i) hi (by omega) (uf_rr u1 i hi).symm with q | q
      · rw [← q]; exact hin
      · exact q.2.1
    · intro i j hi hj ii ij
      refine ⟨u2 i j hi hj, ?_⟩
      rintro (q | ⟨_, _, q⟩)
      · rw [q]
      · have := q (fun a => a < 64 ∧ ds_ins n n a = true ∧ r a = r i) ⟨hi, ii, rfl⟩ (fun a ⟨a1, a2, a3⟩ => ⟨⟨(ph_lt hk c 0 a).1, (ph_lt hk c 0 a).2, by rw [← u3 a _ a1 (ph_lt hk c 0 a).1 ⟨0, by omega, a1, a2, rfl⟩, a3]⟩, ⟨(ph_lt hk c 1 a).1, (ph_lt hk c 1 a).2, by rw [← u3 a _ a1 (ph_lt hk c 1 a).1 ⟨1, by omega, a1, a2, rfl⟩, a3]⟩⟩)
        exact this.2.2.symm
  · rintro m ⟨s1, s2⟩ hm2 ⟨e1, e2⟩
    dsimp only at e1 e2
    subst e1
    obtain ⟨_, _, _, tl, th, tm, hx, hy⟩ := mk_tab c hc m hm2
    left
    dsimp only
    unfold fX8_laysOrbits_8_b fX8_laysOrbits_66
    rw [l_0, m0, n_half n (by omega), show (2 : Int32) = nI 2 from rfl, n_mul, nI_add, if_neg (nI_ge (by omega) (by omega)), Option.bind_some, if_pos (in_nI (show 2 * c + m < 34 by omega) (by omega)), if_pos (in_nI (show 2 * c + m < 34 by omega) (by omega)), if_pos (in_nI (show 2 * c + m < 34 by omega) (by omega)), if_pos (in_nI (show 2 * c + m < 34 by omega) (by omega)), nI_clamp (by omega), nI_1]
    rcases tm with ⟨t1, t2, t3⟩ | ⟨t1, t2⟩
    · rw [if_pos t1]
      refine ⟨_, rfl, rfl, ?_⟩
      obtain ⟨r, u1, u2, u3⟩ := e2
      refine ⟨r, u1, u2, ?_⟩
      rintro a b ha hb ⟨m', q1, q2, q3, q4⟩
      by_cases cc : m' = m
      · subst cc
        have : ds_ph n c m' a = a := by
          have := ph_od n (by omega) k1 c hc hf m' hm2 a ha q3
          rw [t2] at this
          exact this
        rw [q4, this]
      · exact u3 a b ha hb ⟨m', by omega, q2, q3, q4⟩
    · rw [if_neg t2, t1, hx, hy, n_mul, n_mul]
      obtain ⟨R', g1, g2⟩ := m_joinsBy hk hm hK e2 tl (dx := (ds_mkh c m % 2 * (n / 2) : Nat)) (dy := (ds_mkh c m / 2 * (n / 2) : Nat)) (by omega) (by
        have : ds_mkh c m % 2 * (n / 2) ≤ 1 * 4 := Nat.mul_le_mul (by omega) (by omega)
        omega) (by omega) (by
        have : ds_mkh c m / 2 * (n / 2) ≤ 1 * 4 := Nat.mul_le_mul (by omega) (by omega)
        omega) (by
        intro x y hx hy
        obtain ⟨j1, j2, j3, j4⟩ := ins_xy hk hx hy
        have e : ds_im n n (ds_chx c) (ds_mkt c m) (ds_mkh c m % 2 * (n / 2) : Nat) (ds_mkh c m / 2 * (n / 2) : Nat) x y = ds_ph n c m (8 * y + x) := by
          unfold ds_im ds_ph; rw [j2, j3]
        rw [e]
        exact Or.inr ⟨j1, (ph_lt hk c m _).2, Rc_step hm2 _⟩)
      rw [← z_nI, ← z_nI] at g1
      rw [g1, Option.bind_some]
      refine ⟨_, rfl, rfl, KI_imp g2 ?_⟩
      rintro a b ⟨m', q1, q2, q3, q4⟩
      by_cases cc : m' = m
      · subst cc
        have ie := ins_of q3
        refine Or.inr ⟨a % 8, a / 8, ie.1, ie.2, by omega, ?_⟩
        rw [q4]; rfl
      · exact Or.inl ⟨m', by omega, q2, q3, q4⟩
  · rintro ⟨s1, s2⟩ ⟨e1, e2⟩
    dsimp only at e1 e2
    subst e1
    dsimp only
    unfold fX8_laysOrbits_8_b
    rw [show (2 : Int32) = nI 2 from rfl, n_mul, nI_add, if_pos (nI_le (Nat.le_refl _) (by omega))]
    exact ⟨_, rfl, e2⟩
