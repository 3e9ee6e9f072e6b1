/-! orbits: their sizes, colours and flaws -/
noncomputable def ds_ob1 (n c q i : Nat) : Bool := ds_ins n n i && ds_d (ds_Ko n c q i)
noncomputable def ds_oz (n c q : Nat) : Nat := ds_ct (ds_ob1 n c q) 64
noncomputable def ds_okc (n c : Nat) (o t : Int64) (q col : Nat) : Nat := ds_ct (fun i => ds_ob1 n c q i && decide (ds_co o t i = col)) 64
def ds_bs (f : Nat → Nat) : Nat → Nat
  | 0 => 0
  | k + 1 => if f (k + 1) ≤ f (ds_bs f k) then ds_bs f k else k + 1
theorem bs_le (f : Nat → Nat) : ∀ k, ds_bs f k ≤ k
  | 0 => Nat.le_refl _
  | k + 1 => by
    have := bs_le f k
    unfold ds_bs
    split <;> omega
def ds_sm (F : Nat → Nat) : Nat → Nat
  | 0 => 0
  | k + 1 => ds_sm F k + F k
noncomputable def ds_Fl (n c : Nat) (o t : Int64) (q : Nat) : Nat := if ds_d (ds_ld n n (ds_Ko n c) q) = true then ds_ct (fun i => ds_ob1 n c q i && !decide (ds_co o t i = ds_bs (ds_okc n c o t q) 3)) 64 else 0
theorem oz_split {n c : Nat} {o t : Int64} {q : Nat} (col : Nat) : ds_oz n c q = ds_okc n c o t q col + ds_ct (fun i => ds_ob1 n c q i && !decide (ds_co o t i = col)) 64 := ct_both (ds_ob1 n c q) (fun i => decide (ds_co o t i = col)) 64
theorem ob_b {n c : Nat} {mem : Nat → Int64} {q : Nat} (hv : ds_OV n c mem q) (hl : ds_ld n n (ds_Ko n c) q) {i : Nat} (hi : i < 64) : ds_b (mem q) i = ds_ob1 n c q i := by
  obtain ⟨s, h⟩ := hv.1 hl
  unfold ds_ob1
  cases ci : ds_ins n n i
  · cases cb : ds_b (mem q) i
    · rfl
    · have := s i hi cb
      unfold ds_ins at ci
      rw [decide_eq_true this.1, decide_eq_true this.2] at ci; cases ci
  · rw [Bool.true_and]
    cases cb : ds_b (mem q) i
    · symm; apply d_false
      intro z; rw [(h i hi ci).mpr z] at cb; cases cb
    · exact (d_true ((h i hi ci).mp cb)).symm
-- the class
theorem g_mostly {w h : Nat} (hk : ds_ok w h) (o t m : Int64) : fX6_mostlyOf (nI w) (nI h) o t m = some (nI (ds_bs (fun col => ds_ct (fun i => (ds_b m i && ds_ins w h i) && decide (ds_co o t i = col)) 64) 3)) := by
  obtain ⟨f, hf⟩ : ∃ f : Nat → Nat, ∀ col, f col = ds_ct (fun i => (ds_b m i && ds_ins w h i) && decide (ds_co o t i = col)) 64 := ⟨_, fun _ => rfl⟩
  have hf' : (fun col => ds_ct (fun i => (ds_b m i && ds_ins w h i) && decide (ds_co o t i = col)) 64) = f := funext fun col => (hf col).symm
  rw [hf']
  have cnt : ∀ col, col < 4 → ∃ x, fX6_ofColour (nI w) (nI h) o t (nI col) = some x ∧ fJ13_bitCount_95d88 (m &&& x) = some (nI (f col)) := by
    intro col hc
    obtain ⟨x, e, s, hb⟩ := p_ofColour hk o t hc
    refine ⟨x, e, ?_⟩
    rw [p_bitCount, hf]
    congr 2
    exact ct_cong (fun i hi => by rw [b_and, hb i hi, Bool.and_assoc])
  have f64 : ∀ col, f col < 1000 := fun col => by rw [hf]; have := ct_le (fun i => (ds_b m i && ds_ins w h i) && decide (ds_co o t i = col)) 64; omega
  unfold fX6_mostlyOf fX6_mostlyOf_5
  refine ds_it_up _ (fun k => (nI (ds_bs f k), nI (k + 1))) 3 1000 (some (nI (ds_bs f 3))) (fun k hk3 => ?_) ?_ (by omega)
  · dsimp only
    have bl := bs_le f k
    obtain ⟨x, e1, e2⟩ := cnt (k + 1) (by omega)
    obtain ⟨y, e3, e4⟩ := cnt (ds_bs f k) (by omega)
    unfold fX6_mostlyOf_5_b fX6_mostlyOf_38
    rw [show (4 : Int32) = nI 4 from rfl, if_neg (nI_ge (by omega) (by omega)), e1, Option.bind_some, e2, Option.bind_some, e3, Option.bind_some, e4, Option.bind_some, nI_1]
    have ub : ds_bs f (k + 1) = if f (k + 1) ≤ f (ds_bs f k) then ds_bs f k else k + 1 := rfl
    rw [ub]
    by_cases c : f (k + 1) ≤ f (ds_bs f k)
    · rw [if_pos ((n_le (f64 _) (f64 _)).mpr c), if_pos c]
    · rw [if_neg (fun z => c ((n_le (f64 _) (f64 _)).mp z)), if_neg c]
  · dsimp only
    unfold fX6_mostlyOf_5_b
    rw [if_pos (by decide)]; rfl
theorem g_most {n : Nat} (hk : ds_ok n n) {c : Nat} (o t : Int64) {mem : Nat → Int64} {q : Nat} (hv : ds_OV n c mem q) (hl : ds_ld n n (ds_Ko n c) q) : fX6_mostlyOf (nI n) (nI n) o t (mem q) = some (nI (ds_bs (ds_okc n c o t q) 3)) := by
  rw [g_mostly hk]
  have : (fun col => ds_ct (fun i => (ds_b (mem q) i && ds_ins n n i) && decide (ds_co o t i = col)) 64) = ds_okc n c o t q := by
    funext col
    unfold ds_okc
    refine ct_cong (fun i hi => ?_)
    rw [ob_b hv hl hi]
    unfold ds_ob1
    cases ds_ins n n i <;> simp
  rw [this]
theorem g_flaws {n : Nat} (hk : ds_ok n n) {c : Nat} (hc : c < 17) (hf : ds_fit n c = true) (o t : Int64) {mem : Nat → Int64} (hv : ∀ q, q < 64 → ds_OV n c mem q) : fX2_flawsOf mem (nI n) (nI n) o t = some (nI (ds_sm (ds_Fl n c o t) 64)) := by
  have hK := Ko_Eq hk hc hf
  unfold fX2_flawsOf fX2_flawsOf_4
  refine ds_it_up _ (fun k => (nI (ds_sm (ds_Fl n c o t) k), nI k)) 64 1000 (some (nI (ds_sm (ds_Fl n c o t) 64))) (fun k hk6 => ?_) ?_ (by omega)
  · dsimp only
    unfold fX2_flawsOf_4_b fX2_flawsOf_51
    rw [show (64 : Int32) = nI 64 from rfl, if_neg (nI_ge hk6 (by omega)), if_pos (in_nI hk6 (by omega)), nI_clamp (by omega), nI_1]
    have es : ds_sm (ds_Fl n c o t) (k + 1) = ds_sm (ds_Fl n c o t) k + ds_Fl n c o t k := rfl
    rw [es]
    have hvk := hv k hk6
    by_cases l : ds_ld n n (ds_Ko n c) k
    · have nz : ¬ mem k = 0 := by
        intro z
        have := ob_b hvk l hk6
        unfold ds_ob1 at this
        rw [z, b_zero, l.2.1, d_true (hK.1 k hk6)] at this; cases this
      have bl := bs_le (ds_okc n c o t k) 3
      obtain ⟨x, e, s, hb⟩ := p_ofColour hk o t (c := ds_bs (ds_okc n c o t k) 3) (by omega)
      rw [if_neg (fun z => nz ((b_cmp _ _).mp z)), g_most hk o t hvk l, Option.bind_some, e, Option.bind_some, p_bitCount, Option.bind_some, nI_add]
      have : ds_ct (ds_b (mem k &&& (x ^^^ -1))) 64 = ds_Fl n c o t k := by
        unfold ds_Fl
        rw [d_true l, if_pos rfl]
        refine ct_cong (fun i hi => ?_)
        rw [b_and, b_not hi, hb i hi, ob_b hvk l hi]
        unfold ds_ob1
        cases ds_ins n n i <;> simp
      rw [this]
    · rw [if_pos ((b_cmp _ _).mpr (hvk.2 l))]
      have : ds_Fl n c o t k = 0 := by unfold ds_Fl; rw [d_false l, if_neg (by decide)]
      rw [this]; rfl
  · dsimp only
    unfold fX2_flawsOf_4_b
    rw [if_pos (by decide)]; rfl
-- the reference
theorem KR_ob {n : Nat} (hk : ds_ok n n) {c : Nat} (hc : c < 17) (hf : ds_fit n c = true) {R : Nat → Int32} {r : Nat → Nat} (u : ds_UF R r) (uk : ∀ i j, i < 64 → j < 64 → ds_ins n n i = true → ds_ins n n j = true → (r i = r j ↔ ds_Ko n c i j)) {q : Nat} (hq : q < 64) (iq : ds_ins n n q = true) (rq : r q = q) {i : Nat} (hi : i < 64) (ii : ds_ins n n i = true) : r i = q ↔ ds_d (ds_Ko n c q i) = true := by
  have hK := Ko_Eq hk hc hf
  rw [d_iff]
  have := uk q i hq hi iq ii
  rw [rq] at this
  rw [← this]
  exact ⟨fun z => z.symm, fun z => z.symm⟩
theorem m_orbitSize {n : Nat} (hk : ds_ok n n) {c : Nat} (hc : c < 17) (hf : ds_fit n c = true) {hex : Bool} {o t : Int64} {al : Nat → Int32} (hm : ds_MT n n hex o t al) {R : Nat → Int32} {r : Nat → Nat} (u : ds_UF R r) (uk : ∀ i j, i < 64 → j < 64 → ds_ins n n i = true → ds_ins n n j = true → (r i = r j ↔ ds_Ko n c i j)) {q : Nat} (hq : q < 64) (iq : ds_ins n n q = true) (rq : r q = q) : fX8_orbitSize al R (nI q) = some (nI (ds_oz n c q)) := by
  obtain ⟨k1, k2, k3, k4⟩ := id hk
  obtain ⟨m0, m1, m2, m3⟩ := id hm
  have z0 : ∀ c : Nat, nI c + 0 = nI (c + 0) := fun c => by rw [show (0 : Int32) = nI 0 from rfl, nI_add]
  unfold fX8_orbitSize fX8_orbitSize_4
  obtain ⟨P, hP⟩ : ∃ P : Nat → Bool, ∀ i, P i = ds_d (ds_Ko n c q i) := ⟨_, fun _ => rfl⟩
  have G := (ds_grid (OB := fun s => fX8_orbitSize_4_b al R (nI q) s.1 s.2) (IB := fun y s => fX8_orbitSize_17_b al R (nI q) (nI y) s.1 s.2) n n (fun k y => (nI k, nI y)) (fun k _ x => (nI k, nI x)) (fun k (x y : Nat) => k + (if P (8 * y + x) then 1 else 0)) (fun _ => True) (by omega) (by omega)
    (fun k y hy _ => by
      dsimp only
      unfold fX8_orbitSize_4_b
      rw [l_1, m1, if_neg (nI_ge hy (by omega))]; rfl)
    (fun k y x hy hx _ => by
      refine ⟨?_, trivial⟩
      dsimp only
      obtain ⟨j1, j2, j3, j4⟩ := ins_xy hk hx hy
      have kr := KR_ob hk hc hf u uk hq iq rq j4 j1
      have rl := (u _ j4).1
      unfold fX8_orbitSize_17_b fX8_orbitSize_49
      rw [l_0, m0, if_neg (nI_ge hx (by omega)), sh_8, nI_add, uf_root u j4, Option.bind_some, z0, nI_1, nI_1, hP]
      by_cases c1 : r (8 * y + x) = q
      · rw [if_pos (by rw [c1]), kr.mp c1]; rfl
      · rw [if_neg (fun z => c1 ((n_inj (by omega) (by omega)).mp z)), show ds_d (ds_Ko n c q (8 * y + x)) = false by cases e : ds_d (ds_Ko n c q (8 * y + x)); rfl; exact absurd (kr.mpr e) c1]; rfl)
    (fun k y hy _ => by
      dsimp only
      unfold fX8_orbitSize_17_b fX8_orbitSize_57
      rw [l_0, m0, if_pos (nI_le (Nat.le_refl _) (by omega)), Option.bind_some, nI_1])
    (o := fun k => some (nI k))
    (fun k _ => by
      dsimp only
      unfold fX8_orbitSize_4_b
      rw [l_1, m1, if_pos (nI_le (Nat.le_refl _) (by omega))]; rfl)
    0 trivial).1
  refine G.trans ?_
  rw [fg_ct P, rc_64 _ k2 k4, Nat.zero_add]
  unfold ds_oz
  congr 2
  exact ct_cong (fun i hi => by rw [hP]; rfl)
theorem m_ofCol {n : Nat} (hk : ds_ok n n) {c : Nat} (hc : c < 17) (hf : ds_fit n c = true) {hex : Bool} {o t : Int64} {al : Nat → Int32} (hm : ds_MT n n hex o t al) {R : Nat → Int32} {r : Nat → Nat} (u : ds_UF R r) (uk : ∀ i j, i < 64 → j < 64 → ds_ins n n i = true → ds_ins n n j = true → (r i = r j ↔ ds_Ko n c i j)) {q : Nat} (hq : q < 64) (iq : ds_ins n n q = true) (rq : r q = q) {col : Nat} (hcol : col < 4) : fX8_ofColour al R (nI q) (nI col) = some (nI (ds_okc n c o t q col)) := by
  obtain ⟨k1, k2, k3, k4⟩ := id hk
  obtain ⟨m0, m1, m2, m3⟩ := id hm
  have z0 : ∀ c : Nat, nI c + 0 = nI (c + 0) := fun c => by rw [show (0 : Int32) = nI 0 from rfl, nI_add]
  unfold fX8_ofColour fX8_ofColour_5
  obtain ⟨P, hP⟩ : ∃ P : Nat → Bool, ∀ i, P i = (ds_d (ds_Ko n c q i) && decide (ds_co o t i = col)) := ⟨_, fun _ => rfl⟩
  have G := (ds_grid (OB := fun s => fX8_ofColour_5_b al R (nI q) (nI col) s.1 s.2) (IB := fun y s => fX8_ofColour_19_b al R (nI q) (nI col) (nI y) s.1 s.2) n n (fun k y => (nI k, nI y)) (fun k _ x => (nI k, nI x)) (fun k (x y : Nat) => k + (if P (8 * y + x) then 1 else 0)) (fun _ => True) (by omega) (by omega)
    (fun k y hy _ => by
      dsimp only
      unfold fX8_ofColour_5_b
      rw [l_1, m1, if_neg (nI_ge hy (by omega))]; rfl)
    (fun k y x hy hx _ => by
      refine ⟨?_, trivial⟩
      dsimp only
      obtain ⟨j1, j2, j3, j4⟩ := ins_xy hk hx hy
      have kr := KR_ob hk hc hf u uk hq iq rq j4 j1
      have rl := (u _ j4).1
      have mc := m_colour hk hm (x := (x : Int)) (y := (y : Int)) (by omega) (by omega) (by omega) (by omega)
      rw [← z_nI, ← z_nI, ix_in hx hy] at mc
      have cl := c_lt o t (8 * y + x)
      unfold fX8_ofColour_19_b fX8_ofColour_63 fX8_ofColour_64
      rw [l_0, m0, if_neg (nI_ge hx (by omega)), sh_8, nI_add, uf_root u j4, Option.bind_some, z0, nI_1, nI_1, hP, mc, Option.bind_some]
      by_cases c1 : r (8 * y + x) = q
      · rw [if_pos (by rw [c1]), kr.mp c1, Bool.true_and]
        by_cases c2 : ds_co o t (8 * y + x) = col
        · rw [if_pos (by rw [c2]), decide_eq_true c2]; rfl
        · rw [if_neg (fun z => c2 ((n_inj (by omega) (by omega)).mp z)), decide_eq_false c2]; rfl
      · rw [if_neg (fun z => c1 ((n_inj (by omega) (by omega)).mp z)), show ds_d (ds_Ko n c q (8 * y + x)) = false by cases e : ds_d (ds_Ko n c q (8 * y + x)); rfl; exact absurd (kr.mpr e) c1]; rfl)
    (fun k y hy _ => by
      dsimp only
      unfold fX8_ofColour_19_b fX8_ofColour_72
      rw [l_0, m0, if_pos (nI_le (Nat.le_refl _) (by omega)), Option.bind_some, nI_1])
    (o := fun k => some (nI k))
    (fun k _ => by
      dsimp only
      unfold fX8_ofColour_5_b
      rw [l_1, m1, if_pos (nI_le (Nat.le_refl _) (by omega))]; rfl)
    0 trivial).1
  refine G.trans ?_
  rw [fg_ct P, rc_64 _ k2 k4, Nat.zero_add]
  unfold ds_okc
  congr 2
  exact ct_cong (fun i hi => by rw [hP, ← Bool.and_assoc]; rfl)
theorem m_mostOf {n : Nat} (hk : ds_ok n n) {c : Nat} (hc : c < 17) (hf : ds_fit n c = true) {hex : Bool} {o t : Int64} {al : Nat → Int32} (hm : ds_MT n n hex o t al) {R : Nat → Int32} {r : Nat → Nat} (u : ds_UF R r) (uk : ∀ i j, i < 64 → j < 64 → ds_ins n n i = true → ds_ins n n j = true → (r i = r j ↔ ds_Ko n c i j)) {q : Nat} (hq : q < 64) (iq : ds_ins n n q = true) (rq : r q = q) : fX8_mostOf al R (nI q) = some (nI (ds_bs (ds_okc n c o t q) 3)) := by
  obtain ⟨f, hfe⟩ : ∃ f : Nat → Nat, f = ds_okc n c o t q := ⟨_, rfl⟩
  have f64 : ∀ col, f col < 1000 := fun col => by
    rw [hfe]; unfold ds_okc
    have := ct_le (fun i => ds_ob1 n c q i && decide (ds_co o t i = col)) 64; omega
  have cnt : ∀ col, col < 4 → fX8_ofColour al R (nI q) (nI col) = some (nI (f col)) := fun col hcol => by rw [hfe]; exact m_ofCol hk hc hf hm u uk hq iq rq hcol
  rw [← hfe]
  unfold fX8_mostOf fX8_mostOf_4
  refine ds_it_up _ (fun k => (nI (ds_bs f k), nI (k + 1))) 3 1000 (some (nI (ds_bs f 3))) (fun k hk3 => ?_) ?_ (by omega)
  · dsimp only
    have bl := bs_le f k
    unfold fX8_mostOf_4_b fX8_mostOf_29
    rw [show (4 : Int32) = nI 4 from rfl, if_neg (nI_ge (by omega) (by omega)), cnt (k + 1) (by omega), Option.bind_some, cnt (ds_bs f k) (by omega), Option.bind_some, nI_1]
    have ub : ds_bs f (k + 1) = if f (k + 1) ≤ f (ds_bs f k) then ds_bs f k else k + 1 := rfl
    rw [ub]
    by_cases c : f (k + 1) ≤ f (ds_bs f k)
    · rw [if_pos ((n_le (f64 _) (f64 _)).mpr c), if_pos c]
    · rw [if_neg (fun z => c ((n_le (f64 _) (f64 _)).mp z)), if_neg c]
  · dsimp only
    unfold fX8_mostOf_4_b
    rw [if_pos (by decide)]; rfl
theorem sm_gap {F : Nat → Nat} {a : Nat} : ∀ b, a ≤ b → (∀ i, a ≤ i → i < b → F i = 0) → ds_sm F a = ds_sm F b := by
  intro b
  induction b with
  | zero => intro h _; rw [show a = 0 by omega]
  | succ b ih =>
    intro h hz
    by_cases e : a = b + 1
    · rw [e]
    · show ds_sm F a = ds_sm F b + F b
      rw [hz b (by omega) (by omega), ih (by omega) (fun i h1 h2 => hz i h1 (by omega)), Nat.add_zero]
theorem m_flawed {n : Nat} (hk : ds_ok n n) {c : Nat} (hc : c < 17) (hf : ds_fit n c = true) {hex : Bool} {o t : Int64} {al : Nat → Int32} (hm : ds_MT n n hex o t al) {R : Nat → Int32} (hr : ds_KR n n (ds_Ko n c) R) : fX8_flawed al R = some (nI (ds_sm (ds_Fl n c o t) 64)) := by
  obtain ⟨k1, k2, k3, k4⟩ := id hk
  obtain ⟨m0, m1, m2, m3⟩ := id hm
  obtain ⟨r, u, ui, uk⟩ := hr
  have out : ∀ i, ds_ins n n i = false → ds_Fl n c o t i = 0 := by
    intro i hi
    unfold ds_Fl
    rw [d_false (fun z => by have := z.2.1; rw [hi] at this; cases this), if_neg (by decide)]
  have row : ∀ y, y < n → fX8_flawed_16 al R (nI y) (nI (ds_sm (ds_Fl n c o t) (8 * y))) 0 = some (.inl (nI (ds_sm (ds_Fl n c o t) (8 * (y + 1))), nI (y + 1))) := by
    intro y hy
    unfold fX8_flawed_16
    refine ds_it_up _ (fun x => (nI (ds_sm (ds_Fl n c o t) (8 * y + x)), nI x)) n 1000 (some (Sum.inl (nI (ds_sm (ds_Fl n c o t) (8 * (y + 1))), nI (y + 1)))) (fun x hx => ?_) ?_ (by omega)
    · dsimp only
      obtain ⟨j1, j2, j3, j4⟩ := ins_xy hk hx hy
      unfold fX8_flawed_16_b fX8_flawed_70
      rw [l_0, m0, if_neg (nI_ge hx (by omega)), sh_8, nI_add, if_pos (in_nI j4 (by omega)), nI_clamp (by omega), nI_1]
      have es : ds_sm (ds_Fl n c o t) (8 * y + (x + 1)) = ds_sm (ds_Fl n c o t) (8 * y + x) + ds_Fl n c o t (8 * y + x) := rfl
      rw [es]
      have kl := KR_lead u ui uk j4 j1
      have ul := uf_lead u j4
      by_cases l : ds_ld n n (ds_Ko n c) (8 * y + x)
      · have rr := kl.mpr l
        have bl := bs_le (ds_okc n c o t (8 * y + x)) 3
        rw [if_pos (ul.mpr rr), m_orbitSize hk hc hf hm u uk j4 j1 rr, Option.bind_some, m_mostOf hk hc hf hm u uk j4 j1 rr, Option.bind_some, m_ofCol hk hc hf hm u uk j4 j1 rr (by omega), Option.bind_some]
        have os := oz_split (n := n) (c := c) (o := o) (t := t) (q := 8 * y + x) (ds_bs (ds_okc n c o t (8 * y + x)) 3)
        have : nI (ds_oz n c (8 * y + x)) - nI (ds_okc n c o t (8 * y + x) (ds_bs (ds_okc n c o t (8 * y + x)) 3)) = nI (ds_Fl n c o t (8 * y + x)) := by
          unfold ds_Fl
          rw [d_true l, if_pos rfl, os, z_nI, z_nI, z_nI, z_sub]
          congr 1; omega
        rw [this, nI_add]
      · rw [if_neg (fun z => l (kl.mp (ul.mp z))), show (0 : Int32) = nI 0 from rfl, nI_add]
        have : ds_Fl n c o t (8 * y + x) = 0 := by unfold ds_Fl; rw [d_false l, if_neg (by decide)]
        rw [this]
    · dsimp only
      unfold fX8_flawed_16_b fX8_flawed_78
      rw [l_0, m0, if_pos (nI_le (Nat.le_refl _) (by omega)), nI_1, Option.bind_some, sm_gap (a := 8 * y + n) (8 * (y + 1)) (by omega) (fun i h1 h2 => out i (by unfold ds_ins; rw [decide_eq_false (show ¬ i % 8 < n by omega)]; rfl))]
      rfl
  unfold fX8_flawed fX8_flawed_4
  refine ds_it_up _ (fun y => (nI (ds_sm (ds_Fl n c o t) (8 * y)), nI y)) n 1000 (some (nI (ds_sm (ds_Fl n c o t) 64))) (fun y hy => ?_) ?_ (by omega)
  · dsimp only
    unfold fX8_flawed_4_b
    rw [l_1, m1, if_neg (nI_ge hy (by omega)), row y hy]
  · dsimp only
    unfold fX8_flawed_4_b
    rw [l_1, m1, if_pos (nI_le (Nat.le_refl _) (by omega)), sm_gap (a := 8 * n) 64 (by omega) (fun i h1 h2 => out i (by unfold ds_ins; rw [decide_eq_false (show ¬ i / 8 < n by omega), Bool.and_false]))]
    rfl
