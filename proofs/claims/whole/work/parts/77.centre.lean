/-! two loops side by side; centre; shifts -/
theorem ds_it_two {σ₁ σ₂ ρ₁ ρ₂ : Type} (b1 : σ₁ → Option (σ₁ ⊕ ρ₁)) (b2 : σ₂ → Option (σ₂ ⊕ ρ₂)) (I : Nat → σ₁ → σ₂ → Prop) (Q : ρ₁ → ρ₂ → Prop) : ∀ (N fuel k : Nat) (s1 : σ₁) (s2 : σ₂), k ≤ N → I k s1 s2 → N - k < fuel →
    (∀ k s1 s2, k < N → I k s1 s2 → (∃ s1' s2', b1 s1 = some (.inl s1') ∧ b2 s2 = some (.inl s2') ∧ I (k + 1) s1' s2') ∨ ∃ r1 r2, b1 s1 = some (.inr r1) ∧ b2 s2 = some (.inr r2) ∧ Q r1 r2) → (∀ s1 s2, I N s1 s2 → ∃ r1 r2, b1 s1 = some (.inr r1) ∧ b2 s2 = some (.inr r2) ∧ Q r1 r2) → ∃ r1 r2, ds_it b1 fuel s1 = some r1 ∧ ds_it b2 fuel s2 = some r2 ∧ Q r1 r2 := by
  intro N fuel
  induction fuel with
  | zero => intro k s1 s2 _ _ h; omega
  | succ f ih =>
    intro k s1 s2 hk hI hf hstep hexit
    unfold ds_it
    by_cases hkN : k = N
    · subst hkN
      obtain ⟨r1, r2, e1, e2, hq⟩ := hexit s1 s2 hI
      rw [e1, e2]
      exact ⟨r1, r2, rfl, rfl, hq⟩
    · rcases hstep k s1 s2 (by omega) hI with ⟨s1', s2', e1, e2, hI'⟩ | ⟨r1, r2, e1, e2, hq⟩
      · rw [e1, e2]
        exact ih (k + 1) s1' s2' (by omega) hI' (by omega) hstep hexit
      · rw [e1, e2]
        exact ⟨r1, r2, rfl, rfl, hq⟩
theorem n_mul (a b : Nat) : nI a * nI b = nI (a * b) := by rw [z_nI, z_nI, z_nI, z_mul, Int.natCast_mul]
theorem n_toInt {n : Nat} (h : n < 1000000) : (nI n).toInt = n := by rw [z_nI]; exact z_toInt (by omega) (by omega)
theorem i_eq (p : Int32) {k : Int} (h1 : -2147483648 ≤ k) (h2 : k < 2147483648) : p = ds_z k ↔ p.toInt = k := by
  have b := i_bd p
  rw [← z_of p]
  rw [z_eq b.1 b.2 h1 h2, z_toInt b.1 b.2]
theorem i_lt (p : Int32) {k : Int} (h1 : -2147483648 ≤ k) (h2 : k < 2147483648) : p < ds_z k ↔ p.toInt < k := by
  have b := i_bd p
  rw [← z_of p]
  rw [z_lt b.1 b.2 h1 h2, z_toInt b.1 b.2]
theorem i_gt (p : Int32) {k : Int} (h1 : -2147483648 ≤ k) (h2 : k < 2147483648) : ds_z k < p ↔ k < p.toInt := by
  have b := i_bd p
  rw [← z_of p]
  rw [z_lt h1 h2 b.1 b.2, z_toInt b.1 b.2]
theorem i_le (p : Int32) {k : Int} (h1 : -2147483648 ≤ k) (h2 : k < 2147483648) : p ≤ ds_z k ↔ p.toInt ≤ k := by
  have b := i_bd p
  rw [← z_of p]
  rw [z_le b.1 b.2 h1 h2, z_toInt b.1 b.2]
theorem i_ge (p : Int32) {k : Int} (h1 : -2147483648 ≤ k) (h2 : k < 2147483648) : ds_z k ≤ p ↔ k ≤ p.toInt := by
  have b := i_bd p
  rw [← z_of p]
  rw [z_le h1 h2 b.1 b.2, z_toInt b.1 b.2]
theorem i_lt0 (p : Int32) : p < 0 ↔ p.toInt < 0 := i_lt p (k := 0) (by omega) (by omega)
theorem i_le1 (p : Int32) : p ≤ 1 ↔ p.toInt ≤ 1 := i_le p (k := 1) (by omega) (by omega)
theorem i_le0 (p : Int32) : p ≤ 0 ↔ p.toInt ≤ 0 := i_le p (k := 0) (by omega) (by omega)
theorem i_eq0 (p : Int32) : p = 0 ↔ p.toInt = 0 := i_eq p (k := 0) (by omega) (by omega)
theorem p_in (p : Int32) {a b : Int} (h1 : -2147483648 ≤ a) (h2 : a < 2147483648) (h3 : -2147483648 ≤ b) (h4 : b < 2147483648) : fX8_in p (ds_z a) (ds_z b) = some (ds_q (decide (a ≤ p.toInt ∧ p.toInt ≤ b))) := by
  unfold fX8_in
  by_cases c1 : p.toInt < a
  · rw [if_pos ((i_lt p h1 h2).mpr c1), decide_eq_false (by omega)]; rfl
  · rw [if_neg (fun z => c1 ((i_lt p h1 h2).mp z))]
    by_cases c2 : b < p.toInt
    · rw [if_pos ((i_gt p h3 h4).mpr c2), decide_eq_false (by omega)]; rfl
    · rw [if_neg (fun z => c2 ((i_gt p h3 h4).mp z)), decide_eq_true (by omega)]; rfl
theorem m_in01 (p : Int32) : fX8_in p 0 1 = some (ds_q (decide (0 ≤ p.toInt ∧ p.toInt ≤ 1))) := p_in p (a := 0) (b := 1) (by omega) (by omega) (by omega) (by omega)
-- centre
theorem c_loops {w h : Nat} (hk : ds_ok w h) {hex : Bool} {o t : Int64} {fd : Nat → Int64} (gv : ∀ tn, tn < 12 → ds_GV w h hex o t fd tn) {al sr : Nat → Int32} (hm : ds_MT w h hex o t al) (s01 : ds_01 sr) (sv : ∀ tn, tn < ds_nt hex → ds_SV w h hex o t sr tn) (sf tw th tx : Int32) (to tt : Int64) (p1 p2 p3 : Int32) :
    ∃ v, fX7_centre_85 1 sf (nI w) (nI h) (ds_q hex) o t (nI w) (nI h) fd tw th tx to tt p1 p2 p3 0 0 = some (v, 1, sf, nI w, nI h, ds_q hex, o, t, fd, tw, th, tx, to, tt) ∧ fX8_centre_52 0 al ds_tabF sr p1 p2 p3 0 0 = some (v, 0, sr) ∧ (p2.toInt < -1 → v = -2) := by
  obtain ⟨k1, k2, k3, k4⟩ := id hk
  obtain ⟨m0, m1, m2, m3⟩ := id hm
  have inner : ∀ y n, y < 6 * h → n ≤ 48 * y → ∃ z1 z2, fX7_centre_106 1 sf (nI w) (nI h) (ds_q hex) o t (nI w) fd tw th tx to tt p1 p2 p3 (nI y) (nI n) 0 = some z1 ∧ fX8_centre_69 0 al ds_tabF sr p1 p2 p3 (nI y) (nI n) 0 = some z2 ∧ ((∃ n', n' ≤ 48 * (y + 1) ∧ z1 = .inl (nI n', nI (y + 1)) ∧ z2 = .inl (nI n', nI (y + 1))) ∨ ∃ v, z1 = .inr (v, 1, sf, nI w, nI h, ds_q hex, o, t, fd, tw, th, tx, to, tt) ∧ z2 = .inr (v, 0, sr) ∧ (p2.toInt < -1 → v = -2)) := by
    intro y n hy hn
    unfold fX7_centre_106 fX8_centre_69
    refine ds_it_two _ _ (fun x s1 s2 => ∃ n', n' ≤ 48 * y + x ∧ s1 = (nI n', nI x) ∧ s2 = (nI n', nI x)) _ (6 * w) 1000 0 _ _ (Nat.zero_le _) ⟨n, hn, rfl, rfl⟩ (by omega) ?_ ?_
    · rintro x s1 s2 hx ⟨n', hn', rfl, rfl⟩
      dsimp only
      have g := g_turnsAt hk gv (x := (x : Int)) (y := (y : Int)) (by omega) (by omega) (by omega) (by omega)
      have g2 := m_turnsAt hk hm s01 sv (x := (x : Int)) (y := (y : Int)) (by omega) (by omega) (by omega) (by omega)
      rw [← z_nI, ← z_nI] at g g2
      unfold fX7_centre_106_b fX8_centre_69_b fX7_centre_160 fX8_centre_116 fX7_centre_145 fX8_centre_101
      rw [show (0 : Int32).toNatClampNeg = 0 from rfl, m0, show (6 : Int32) = nI 6 from rfl, n_mul, if_neg (nI_ge hx (by omega)), if_neg (nI_ge hx (by omega)), g, g2, Option.bind_some, Option.bind_some]
      by_cases c1 : nI (ds_ta w h hex o t x y) = p1
      · rw [if_pos c1, if_pos c1]
        by_cases c2 : nI n' = p2
        · rw [if_pos c2, if_pos c2]
          right
          have np : ¬ p2.toInt < -1 := by rw [← c2, n_toInt (by omega)]; omega
          by_cases c3 : p3 = 0
          · rw [if_pos c3, if_pos c3]
            exact ⟨_, _, rfl, rfl, Or.inr ⟨_, rfl, rfl, fun z => absurd z np⟩⟩
          · rw [if_neg c3, if_neg c3]
            exact ⟨_, _, rfl, rfl, Or.inr ⟨_, rfl, rfl, fun z => absurd z np⟩⟩
        · rw [if_neg c2, if_neg c2, nI_1, nI_1]
          left
          exact ⟨_, _, rfl, rfl, n' + 1, by omega, rfl, rfl⟩
      · rw [if_neg c1, if_neg c1, nI_1]
        left
        exact ⟨_, _, rfl, rfl, n', by omega, rfl, rfl⟩
    · rintro s1 s2 ⟨n', hn', rfl, rfl⟩
      dsimp only
      unfold fX7_centre_106_b fX8_centre_69_b fX7_centre_166 fX8_centre_122
      rw [show (0 : Int32).toNatClampNeg = 0 from rfl, m0, show (6 : Int32) = nI 6 from rfl, n_mul, if_pos (nI_le (Nat.le_refl _) (by omega)), if_pos (nI_le (Nat.le_refl _) (by omega)), nI_1]
      exact ⟨_, _, rfl, rfl, Or.inl ⟨n', by omega, rfl, rfl⟩⟩
  unfold fX7_centre_85 fX8_centre_52
  have fin := ds_it_two (fun s : Int32 × Int32 => fX7_centre_85_b 1 sf (nI w) (nI h) (ds_q hex) o t (nI w) (nI h) fd tw th tx to tt p1 p2 p3 s.1 s.2) (fun s : Int32 × Int32 => fX8_centre_52_b 0 al ds_tabF sr p1 p2 p3 s.1 s.2) (fun y s1 s2 => ∃ n', n' ≤ 48 * y ∧ s1 = (nI n', nI y) ∧ s2 = (nI n', nI y)) (fun r1 r2 => ∃ v, r1 = (v, 1, sf, nI w, nI h, ds_q hex, o, t, fd, tw, th, tx, to, tt) ∧ r2 = (v, 0, sr) ∧ (p2.toInt < -1 → v = -2)) (6 * h) 1000 0 (0, 0) (0, 0) (Nat.zero_le _) ⟨0, by omega, rfl, rfl⟩ (by omega) ?_ ?_
  · obtain ⟨r1, r2, e1, e2, v, q1, q2, q3⟩ := fin
    exact ⟨v, e1.trans (congrArg some q1), e2.trans (congrArg some q2), q3⟩
  · rintro y s1 s2 hy ⟨n, hn, rfl, rfl⟩
    dsimp only
    obtain ⟨z1, z2, i1, i2, i3⟩ := inner y n hy hn
    unfold fX7_centre_85_b fX8_centre_52_b
    rw [show (1 : Int32).toNatClampNeg = 1 from rfl, m1, show (6 : Int32) = nI 6 from rfl, n_mul, if_neg (nI_ge hy (by omega)), if_neg (nI_ge hy (by omega)), i1, i2]
    rcases i3 with ⟨n', hn', rfl, rfl⟩ | ⟨v, rfl, rfl, q⟩
    · left; exact ⟨_, _, rfl, rfl, n', hn', rfl, rfl⟩
    · right; exact ⟨_, _, rfl, rfl, v, rfl, rfl, q⟩
  · rintro s1 s2 ⟨n, hn, rfl, rfl⟩
    dsimp only
    unfold fX7_centre_85_b fX8_centre_52_b fX7_centre_172 fX8_centre_128
    rw [show (1 : Int32).toNatClampNeg = 1 from rfl, m1, show (6 : Int32) = nI 6 from rfl, n_mul, if_pos (nI_le (Nat.le_refl _) (by omega)), if_pos (nI_le (Nat.le_refl _) (by omega))]
    by_cases c : p2 = -1
    · rw [if_pos c, if_pos c]
      refine ⟨_, _, rfl, rfl, _, rfl, rfl, fun z => ?_⟩
      rw [c] at z; exact absurd z (by decide)
    · rw [if_neg c, if_neg c]
      exact ⟨_, _, rfl, rfl, _, rfl, rfl, fun _ => rfl⟩
theorem q_centre {w h : Nat} (hk : ds_ok w h) {hex : Bool} {o t : Int64} (ho : ds_sub w h o) (ht : ds_sub w h t) {lk sf fx fy sx sy sw sh shx : Int32} {so st : Int64} {fd : Nat → Int64} (hg : ds_GI lk sf fx fy sx sy sw sh shx so st fd) (tw th tx : Int32) (to tt : Int64) {al sr : Nat → Int32} (hm : ds_MT w h hex o t al) (h01 : ds_01 sr) (p1 p2 p3 : Int32) :
    ∃ v lk' sf' sw' sh' shx' so' st' fd' tw' th' tx' to' tt', fX7_centre lk sf sw sh shx so st (nI w) (nI h) (ds_q hex) o t fd tw th tx to tt p1 p2 p3 = some (v, lk', sf', sw', sh', shx', so', st', fd', tw', th', tx', to', tt') ∧ ds_GI lk' sf' fx fy sx sy sw' sh' shx' so' st' fd' ∧ ∃ sr', fX8_centre al ds_tabF sr p1 p2 p3 = some (v, 0, sr') ∧ ds_01 sr' := by
  have bad : ∀ {A : Option (Int32 × Int32 × Int32 × Int32 × Int32 × Int32 × Int64 × Int64 × (Nat → Int64) × Int32 × Int32 × Int32 × Int64 × Int64)} {B : Option (Int32 × Int32 × (Nat → Int32))}, A = some (-2, lk, sf, sw, sh, shx, so, st, fd, tw, th, tx, to, tt) → B = some (-2, 0, sr) → ∃ v lk' sf' sw' sh' shx' so' st' fd' tw' th' tx' to' tt', A = some (v, lk', sf', sw', sh', shx', so', st', fd', tw', th', tx', to', tt') ∧ ds_GI lk' sf' fx fy sx sy sw' sh' shx' so' st' fd' ∧ ∃ sr', B = some (v, 0, sr') ∧ ds_01 sr' :=
    fun a b => ⟨_, _, _, _, _, _, _, _, _, _, _, _, _, _, a, hg, _, b, h01⟩
  have good : ∃ v lk' sf' sw' sh' shx' so' st' fd' tw' th' tx' to' tt', fX7_centre_26 lk sf sw sh shx so st (nI w) (nI h) (ds_q hex) o t fd tw th tx to tt p1 p2 p3 = some (v, lk', sf', sw', sh', shx', so', st', fd', tw', th', tx', to', tt') ∧ ds_GI lk' sf' fx fy sx sy sw' sh' shx' so' st' fd' ∧ ∃ sr', (Option.bind (fX8_in p3 (0 : Int32) (1 : Int32)) fun q23 => if q23 = 0 then some ((-2 : Int32), (0 : Int32), sr) else if p2 = (-1 : Int32) then if p3 = (1 : Int32) then some ((-2 : Int32), (0 : Int32), sr) else fX8_centre_42 (0 : Int32) al ds_tabF sr p1 p2 p3 else fX8_centre_42 (0 : Int32) al ds_tabF sr p1 p2 p3) = some (v, 0, sr') ∧ ds_01 sr' := by
    rw [m_in01, Option.bind_some]
    unfold fX7_centre_26 fX7_centre_31 fX7_centre_65 fX8_centre_42
    rw [if_neg (show ¬ (1 : Int32) = 0 by decide)]
    obtain ⟨sf', fd', tw', th', tx', to', tt', e, gv, s⟩ := look hk (hex := hex) ho ht hg tw th tx to tt
    obtain ⟨sr', e2, s01, sv⟩ := m_lays hk hm h01
    obtain ⟨v, l1, l2, l3⟩ := c_loops hk gv hm s01 sv sf' tw' th' tx' to' tt' p1 p2 p3
    rw [e, Option.bind_some, e2, Option.bind_some]
    dsimp only
    rw [l1, l2]
    by_cases a1 : p3.toInt < 0
    · have a1' : p3 < 0 := (i_lt0 p3).mpr a1
      rw [decide_eq_false (by omega), if_pos a1', if_pos (show ds_q false = 0 from rfl)]
      refine bad ?_ rfl
      split <;> rfl
    have a1' : ¬ p3 < 0 := fun z => a1 ((i_lt0 p3).mp z)
    by_cases a2 : 1 < p3.toInt
    · have a2' : 1 < p3 := (i_gt p3 (k := 1) (by omega) (by omega)).mpr a2
      rw [decide_eq_false (by omega), if_neg a1', if_pos a2', if_pos (show ds_q false = 0 from rfl)]
      refine bad ?_ rfl
      split <;> rfl
    have a2' : ¬ 1 < p3 := fun z => a2 ((i_gt p3 (k := 1) (by omega) (by omega)).mp z)
    rw [decide_eq_true (by omega), if_neg a1', if_neg a2', if_neg (show ¬ ds_q true = 0 by decide)]
    by_cases a3 : p2.toInt < -1
    · have a3' : p2 < -1 := (i_lt p2 (k := -1) (by omega) (by omega)).mpr a3
      have a4' : ¬ p2 = -1 := fun z => by rw [z] at a3; exact absurd a3 (by decide)
      rw [if_pos a3', if_neg a4', l3 a3]
      exact ⟨_, _, _, _, _, _, _, _, _, _, _, _, _, _, rfl, hg, _, rfl, s01⟩
    have a3' : ¬ p2 < -1 := fun z => a3 ((i_lt p2 (k := -1) (by omega) (by omega)).mp z)
    rw [if_neg a3']
    by_cases a4 : p2 = -1
    · rw [if_pos a4, if_pos a4]
      by_cases a5 : p3 = 1
      · rw [if_pos a5, if_pos a5]
        exact bad rfl rfl
      · rw [if_neg a5, if_neg a5]
        exact ⟨_, _, _, _, _, _, _, _, _, _, _, _, _, _, rfl, GI_of hk gv s, _, rfl, s01⟩
    · rw [if_neg a4, if_neg a4]
      exact ⟨_, _, _, _, _, _, _, _, _, _, _, _, _, _, rfl, GI_of hk gv s, _, rfl, s01⟩
  unfold fX7_centre fX8_centre
  have pin := p_in p1 (a := 1) (b := 6) (by omega) (by omega) (by omega) (by omega)
  have f1 : p1 = 1 ↔ p1.toInt = 1 := i_eq p1 (k := 1) (by omega) (by omega)
  have f2 : p1 = 2 ↔ p1.toInt = 2 := i_eq p1 (k := 2) (by omega) (by omega)
  have f3 : p1 = 3 ↔ p1.toInt = 3 := i_eq p1 (k := 3) (by omega) (by omega)
  have f4 : p1 = 4 ↔ p1.toInt = 4 := i_eq p1 (k := 4) (by omega) (by omega)
  have f5 : p1 = 5 ↔ p1.toInt = 5 := i_eq p1 (k := 5) (by omega) (by omega)
  have f6 : p1 = 6 ↔ p1.toInt = 6 := i_eq p1 (k := 6) (by omega) (by omega)
  rw [show fX8_in p1 1 6 = _ from pin, Option.bind_some]
  by_cases c : p1.toInt = 1 ∨ p1.toInt = 2 ∨ p1.toInt = 3 ∨ p1.toInt = 4 ∨ p1.toInt = 6
  · have n5 : ¬ p1 = 5 := fun z => by have := f5.mp z; omega
    have ec : ∀ {β : Type} (A B : β), (if p1 = 1 then A else if p1 = 2 then A else if p1 = 3 then A else if p1 = 4 then A else if p1 = 6 then A else B) = A := by
      intro β A B
      by_cases d1 : p1 = 1
      · rw [if_pos d1]
      rw [if_neg d1]
      by_cases d2 : p1 = 2
      · rw [if_pos d2]
      rw [if_neg d2]
      by_cases d3 : p1 = 3
      · rw [if_pos d3]
      rw [if_neg d3]
      by_cases d4 : p1 = 4
      · rw [if_pos d4]
      rw [if_neg d4, if_pos]
      rw [f1] at d1; rw [f2] at d2; rw [f3] at d3; rw [f4] at d4; rw [f6]; omega
    rw [ec, decide_eq_true (by omega), if_neg (show ¬ ds_q true = 0 by decide), if_neg n5]
    exact good
  · rw [if_neg (fun z => c (by have := f1.mp z; omega)), if_neg (fun z => c (by have := f2.mp z; omega)), if_neg (fun z => c (by have := f3.mp z; omega)), if_neg (fun z => c (by have := f4.mp z; omega)), if_neg (fun z => c (by have := f6.mp z; omega))]
    refine bad ?_ ?_
    · unfold fX7_centre_31
      rw [if_pos rfl]
    · by_cases c2 : p1.toInt = 5
      · rw [decide_eq_true (by omega), if_neg (show ¬ ds_q true = 0 by decide), if_pos (f5.mpr c2)]
      · rw [decide_eq_false (by omega), if_pos (show ds_q false = 0 from rfl)]
-- shifts
theorem ct_mono (p : Nat → Bool) {a b : Nat} (h : a ≤ b) : ds_ct p a ≤ ds_ct p b := by
  obtain ⟨c, rfl⟩ := Nat.exists_eq_add_of_le h
  rw [ct_add]; omega
theorem ct_strict (p : Nat → Bool) {a b : Nat} (h : a < b) (ha : p a = true) : ds_ct p a < ds_ct p b := by
  have := ct_mono p (show a + 1 ≤ b from h)
  have e : ds_ct p (a + 1) = ds_ct p a + (if p a = true then 1 else 0) := rfl
  rw [ha, if_pos rfl] at e
  omega
theorem ct_inj (p : Nat → Bool) {a b : Nat} (ha : p a = true) (hb : p b = true) (h : ds_ct p a = ds_ct p b) : a = b := by
  rcases Nat.lt_trichotomy a b with c | c | c
  · have := ct_strict p c ha; omega
  · exact c
  · have := ct_strict p c hb; omega
theorem m_shifts {w h : Nat} (hk : ds_ok w h) {hex : Bool} {o t : Int64} {al sr : Nat → Int32} (hm : ds_MT w h hex o t al) {m : Int64} (hs : ds_sub w h m) {tn : Nat} (ht : tn < 12) (hv : ∀ x y : Nat, x < w → y < h → (sr (64 * tn + 8 * y + x) = 0 ↔ ds_b m (8 * y + x) = false)) (p2 p3 : Int32) :
    ∃ v, fX8_shifts_61 0 al sr (nI tn) p2 p3 0 0 = some (v, 0, sr) ∧ ((v = -2 ∧ ∀ i, i < 64 → ds_b m i = true → nI (ds_ct (ds_b m) i) ≠ p2) ∨ ∃ i, i < 64 ∧ v = (if p3 = 0 then nI (i % 8) else nI (i / 8)) ∧ ds_b m i = true ∧ nI (ds_ct (ds_b m) i) = p2) := by
  obtain ⟨k1, k2, k3, k4⟩ := id hk
  obtain ⟨m0, m1, m2, m3⟩ := id hm
  have nob : ∀ i, i < 64 → ds_ins w h i = false → ds_b m i = false := by
    intro i hi q
    cases c : ds_b m i
    · rfl
    · have := hs i hi c
      unfold ds_ins at q
      rw [decide_eq_true this.1, decide_eq_true this.2] at q; cases q
  have inner : ∀ y, y < h → (∀ i, i < 8 * y → ds_b m i = true → nI (ds_ct (ds_b m) i) ≠ p2) → ∃ z, fX8_shifts_75 0 al sr (nI tn) p2 p3 (nI y) (nI (ds_ct (ds_b m) (8 * y))) 0 = some z ∧ ((z = .inl (nI (ds_ct (ds_b m) (8 * (y + 1))), nI (y + 1)) ∧ ∀ i, i < 8 * (y + 1) → ds_b m i = true → nI (ds_ct (ds_b m) i) ≠ p2) ∨ ∃ i, i < 64 ∧ z = .inr ((if p3 = 0 then nI (i % 8) else nI (i / 8)), 0, sr) ∧ ds_b m i = true ∧ nI (ds_ct (ds_b m) i) = p2) := by
    intro y hy hno
    unfold fX8_shifts_75
    refine ds_it_inv _ (fun x s => s = (nI (ds_ct (ds_b m) (8 * y + x)), nI x) ∧ ∀ i, i < 8 * y + x → ds_b m i = true → nI (ds_ct (ds_b m) i) ≠ p2) _ w 1000 0 _ (Nat.zero_le _) ⟨rfl, hno⟩ (by omega) ?_ ?_
    · rintro x s hx ⟨rfl, hn⟩
      dsimp only
      unfold fX8_shifts_75_b fX8_shifts_128 fX8_shifts_113
      rw [show (0 : Int32).toNatClampNeg = 0 from rfl, m0, if_neg (nI_ge hx (by omega)), i_768 (by omega) (by omega) (by omega), if_pos (in_nI (by omega) (by omega)), nI_clamp (by omega)]
      have nx : (ds_b m (8 * y + x) = true → nI (ds_ct (ds_b m) (8 * y + x)) ≠ p2) → ∀ i, i < 8 * y + (x + 1) → ds_b m i = true → nI (ds_ct (ds_b m) i) ≠ p2 := by
        intro z i hi
        by_cases c : i = 8 * y + x
        · rw [c]; exact z
        · exact hn i (by omega)
      have ee : ds_ct (ds_b m) (8 * y + (x + 1)) = ds_ct (ds_b m) (8 * y + x) + (if ds_b m (8 * y + x) = true then 1 else 0) := rfl
      cases c : ds_b m (8 * y + x)
      · rw [if_pos ((hv x y hx hy).mpr c), nI_1]
        left
        refine ⟨_, rfl, ?_, nx (fun z => by rw [c] at z; cases z)⟩
        rw [ee, c]; rfl
      · rw [if_neg (fun z => by have := (hv x y hx hy).mp z; rw [c] at this; cases this)]
        by_cases c2 : nI (ds_ct (ds_b m) (8 * y + x)) = p2
        · rw [if_pos c2]
          right
          refine ⟨_, ?_, Or.inr ⟨8 * y + x, by omega, rfl, c, c2⟩⟩
          rw [show (8 * y + x) % 8 = x by omega, show (8 * y + x) / 8 = y by omega]
          by_cases c3 : p3 = 0
          · rw [if_pos c3, if_pos c3]; rfl
          · rw [if_neg c3, if_neg c3]; rfl
        · rw [if_neg c2, nI_1, nI_1]
          left
          refine ⟨_, rfl, ?_, nx (fun _ => c2)⟩
          rw [ee, c]; rfl
    · rintro s ⟨rfl, hn⟩
      dsimp only
      unfold fX8_shifts_75_b fX8_shifts_134
      rw [show (0 : Int32).toNatClampNeg = 0 from rfl, m0, if_pos (nI_le (Nat.le_refl _) (by omega)), nI_1]
      have rowf : ∀ i, 8 * y + w ≤ i → i < 8 * (y + 1) → ds_b m i = false := by
        intro i h1 h2
        refine nob i (by omega) ?_
        unfold ds_ins
        rw [decide_eq_false (show ¬ i % 8 < w by omega)]; rfl
      have ce : ds_ct (ds_b m) (8 * (y + 1)) = ds_ct (ds_b m) (8 * y + w) := by
        rw [show 8 * (y + 1) = (8 * y + w) + (8 - w) by omega, ct_add, ct_false (p := fun i => ds_b m (8 * y + w + i)) (n := 8 - w) (fun k hk => rowf _ (by omega) (by omega)), Nat.add_zero]
      refine ⟨_, rfl, Or.inl ⟨by rw [ce], ?_⟩⟩
      intro i hi hb
      by_cases c : i < 8 * y + w
      · exact hn i c hb
      · rw [rowf i (by omega) hi] at hb; cases hb
  unfold fX8_shifts_61
  have fin := ds_it_inv (fun s : Int32 × Int32 => fX8_shifts_61_b 0 al sr (nI tn) p2 p3 s.1 s.2) (fun y s => s = (nI (ds_ct (ds_b m) (8 * y)), nI y) ∧ ∀ i, i < 8 * y → ds_b m i = true → nI (ds_ct (ds_b m) i) ≠ p2) (fun r => ∃ v, r = (v, 0, sr) ∧ ((v = -2 ∧ ∀ i, i < 64 → ds_b m i = true → nI (ds_ct (ds_b m) i) ≠ p2) ∨ ∃ i, i < 64 ∧ v = (if p3 = 0 then nI (i % 8) else nI (i / 8)) ∧ ds_b m i = true ∧ nI (ds_ct (ds_b m) i) = p2)) h 1000 0 (0, 0) (Nat.zero_le _) ⟨rfl, fun i hi => by omega⟩ (by omega) ?_ ?_
  · obtain ⟨r, e, v, q1, q2⟩ := fin
    exact ⟨v, e.trans (congrArg some q1), q2⟩
  · rintro y s hy ⟨rfl, hn⟩
    dsimp only
    unfold fX8_shifts_61_b
    rw [show (1 : Int32).toNatClampNeg = 1 from rfl, m1, if_neg (nI_ge hy (by omega))]
    obtain ⟨z, e, q⟩ := inner y hy hn
    rw [e]
    rcases q with ⟨rfl, q⟩ | ⟨i, q0, rfl, q⟩
    · left; exact ⟨_, rfl, rfl, q⟩
    · right; exact ⟨_, rfl, _, rfl, Or.inr ⟨i, q0, rfl, q⟩⟩
  · rintro s ⟨rfl, hn⟩
    dsimp only
    unfold fX8_shifts_61_b
    rw [show (1 : Int32).toNatClampNeg = 1 from rfl, m1, if_pos (nI_le (Nat.le_refl _) (by omega))]
    refine ⟨_, rfl, _, rfl, Or.inl ⟨rfl, ?_⟩⟩
    intro i hi hb
    refine hn i ?_ hb
    have := hs i hi hb
    omega
theorem n_r8 : ∀ i, i < 64 → ds_rem (nI i) 8 = nI (i % 8) ∧ nI i / 8 = nI (i / 8) ∧ nI i ≠ -1 := by decide +kernel
theorem q_shifts {w h : Nat} (hk : ds_ok w h) {hex : Bool} {o t : Int64} (ho : ds_sub w h o) (ht : ds_sub w h t) {lk sf fx fy sx sy sw sh shx : Int32} {so st : Int64} {fd : Nat → Int64} (hg : ds_GI lk sf fx fy sx sy sw sh shx so st fd) (tw th tx : Int32) (to tt : Int64) {al sr : Nat → Int32} (hm : ds_MT w h hex o t al) (h01 : ds_01 sr) (p1 p2 p3 : Int32) :
    ∃ v lk' sf' sw' sh' shx' so' st' fd' tw' th' tx' to' tt', fX7_shifts (nI w) (nI h) (ds_q hex) o t lk sf sw sh shx so st fd tw th tx to tt p1 p2 p3 = some (v, lk', sf', sw', sh', shx', so', st', fd', tw', th', tx', to', tt') ∧ ds_GI lk' sf' fx fy sx sy sw' sh' shx' so' st' fd' ∧ ∃ sr', fX8_shifts al ds_tabF sr p1 p2 p3 = some (v, 0, sr') ∧ ds_01 sr' := by
  obtain ⟨n1, n2, n3, n4⟩ := nt_le hex
  obtain ⟨m0, m1, m2, m3⟩ := id hm
  have bad : ∀ {A : Option (Int32 × Int32 × Int32 × Int32 × Int32 × Int32 × Int64 × Int64 × (Nat → Int64) × Int32 × Int32 × Int32 × Int64 × Int64)} {B : Option (Int32 × Int32 × (Nat → Int32))}, A = some (-2, lk, sf, sw, sh, shx, so, st, fd, tw, th, tx, to, tt) → B = some (-2, 0, sr) → ∃ v lk' sf' sw' sh' shx' so' st' fd' tw' th' tx' to' tt', A = some (v, lk', sf', sw', sh', shx', so', st', fd', tw', th', tx', to', tt') ∧ ds_GI lk' sf' fx fy sx sy sw' sh' shx' so' st' fd' ∧ ∃ sr', B = some (v, 0, sr') ∧ ds_01 sr' :=
    fun a b => ⟨_, _, _, _, _, _, _, _, _, _, _, _, _, _, a, hg, _, b, h01⟩
  obtain ⟨sf', fd', tw', th', tx', to', tt', e, gv, s⟩ := look hk (hex := hex) ho ht hg tw th tx to tt
  obtain ⟨sr', e2, s01, sv⟩ := m_lays hk hm h01
  have nm : nI (ds_nt hex) - 1 = ds_z ((ds_nt hex : Int) - 1) := by rw [z_nI, show (1 : Int32) = ds_z 1 from rfl, z_sub]
  unfold fX7_shifts fX8_shifts
  rw [m_turnings m2, Option.bind_some, nm, show (0 : Int32) = ds_z 0 from rfl, p_in p1 (by omega) (by omega) (by omega) (by omega), Option.bind_some, show ds_z 0 = (0 : Int32) from rfl]
  have isT : fX1_isTurning (ds_q hex) p1 = some (ds_q (decide (0 ≤ p1.toInt ∧ p1.toInt ≤ (ds_nt hex : Int) - 1))) := by
    unfold fX1_isTurning
    by_cases c1 : p1.toInt < 0
    · rw [if_pos ((i_lt0 p1).mpr c1), decide_eq_false (by omega)]; rfl
    · rw [if_neg (fun z => c1 ((i_lt0 p1).mp z)), (p_nt hex).1, Option.bind_some, z_nI]
      by_cases c2 : (ds_nt hex : Int) ≤ p1.toInt
      · rw [if_pos ((i_ge p1 (by omega) (by omega)).mpr c2), decide_eq_false (by omega)]; rfl
      · rw [if_neg (fun z => c2 ((i_ge p1 (by omega) (by omega)).mp z)), decide_eq_true (by omega)]; rfl
  rw [isT, Option.bind_some]
  by_cases c : 0 ≤ p1.toInt ∧ p1.toInt ≤ (ds_nt hex : Int) - 1
  rotate_left
  · rw [decide_eq_false c, if_pos (show ds_q false = 0 from rfl), if_pos (show ds_q false = 0 from rfl)]
    exact bad rfl rfl
  obtain ⟨tn, htn, rfl⟩ : ∃ tn, tn < ds_nt hex ∧ p1 = nI tn := ⟨p1.toInt.toNat, by omega, by rw [z_nI, Int.toNat_of_nonneg (by omega), z_of]⟩
  rw [decide_eq_true c, if_neg (show ¬ ds_q true = 0 by decide), if_neg (show ¬ ds_q true = 0 by decide), m_in01, Option.bind_some]
  by_cases a1 : p3.toInt < 0
  · rw [decide_eq_false (by omega), if_pos ((i_lt0 p3).mpr a1), if_pos (show ds_q false = 0 from rfl)]
    exact bad rfl rfl
  rw [if_neg (fun z => a1 ((i_lt0 p3).mp z))]
  by_cases a2 : p3.toInt ≤ 1
  rotate_left
  · rw [decide_eq_false (by omega), if_neg (fun z => a2 ((i_le1 p3).mp z)), if_pos (show ds_q false = 0 from rfl)]
    exact bad rfl rfl
  rw [decide_eq_true (by omega), if_pos ((i_le1 p3).mpr a2), if_neg (show ¬ ds_q true = 0 by decide), e, Option.bind_some, e2, Option.bind_some]
  dsimp only
  rw [p_sf (by omega), Option.bind_some]
  have fin : ∀ {A : Option (Int32 × Int32 × Int32 × Int32 × Int32 × Int32 × Int64 × Int64 × (Nat → Int64) × Int32 × Int32 × Int32 × Int64 × Int64)} {B : Option (Int32 × Int32 × (Nat → Int32))} {v : Int32}, A = some (v, 1, sf', nI w, nI h, ds_q hex, o, t, fd', tw', th', tx', to', tt') → B = some (v, 0, sr') → ∃ v lk' sf' sw' sh' shx' so' st' fd' tw' th' tx' to' tt', A = some (v, lk', sf', sw', sh', shx', so', st', fd', tw', th', tx', to', tt') ∧ ds_GI lk' sf' fx fy sx sy sw' sh' shx' so' st' fd' ∧ ∃ sr', B = some (v, 0, sr') ∧ ds_01 sr' :=
    fun a b => ⟨_, _, _, _, _, _, _, _, _, _, _, _, _, _, a, GI_of hk gv s, _, b, s01⟩
  have gvt := gv tn (by omega)
  have hv : ∀ x y : Nat, x < w → y < h → (sr' (64 * tn + 8 * y + x) = 0 ↔ ds_b (fd' tn) (8 * y + x) = false) := by
    intro x y hx hy
    have a := sv tn htn x y hx hy
    have b := gvt.2.1 htn x y hx hy
    constructor
    · intro z
      cases q : ds_b (fd' tn) (8 * y + x)
      · rfl
      · have := a.mpr (b.mp q)
        rw [z] at this; exact absurd this (by decide)
    · intro q
      rcases s01 (64 * tn + 8 * y + x) with z | z
      · exact z
      · rw [b.mpr (a.mp z)] at q; cases q
  -- the class by place
  have cls : ∃ v, fX7_shifts_68 1 sf' (nI w) (nI h) (ds_q hex) o t fd' tw' th' tx' to' tt' p2 p3 (fd' tn) = some (v, 1, sf', nI w, nI h, ds_q hex, o, t, fd', tw', th', tx', to', tt') ∧ ((v = -2 ∧ ∀ i, i < 64 → ds_b (fd' tn) i = true → nI (ds_ct (ds_b (fd' tn)) i) ≠ p2) ∨ ∃ i, i < 64 ∧ v = (if p3 = 0 then nI (i % 8) else nI (i / 8)) ∧ ds_b (fd' tn) i = true ∧ nI (ds_ct (ds_b (fd' tn)) i) = p2) := by
    unfold fX7_shifts_68
    obtain ⟨r, e, q⟩ := p_place (fd' tn) p2
    rw [e, Option.bind_some]
    rcases q with ⟨rfl, q⟩ | ⟨i, hi, rfl, q⟩
    · rw [if_pos rfl]
      exact ⟨_, rfl, Or.inl ⟨rfl, q⟩⟩
    · obtain ⟨r1, r2, r3⟩ := n_r8 i hi
      rw [if_neg r3, r1, r2]
      by_cases c3 : p3 = 0
      · rw [if_pos c3]
        exact ⟨_, rfl, Or.inr ⟨i, hi, by rw [if_pos c3], q⟩⟩
      · rw [if_neg c3]
        exact ⟨_, rfl, Or.inr ⟨i, hi, by rw [if_neg c3], q⟩⟩
  obtain ⟨v1, c1, d1⟩ := cls
  have neg1 : ∀ n, n < 65 → nI n ≠ -1 := by decide +kernel
  by_cases a4 : p2 = -1
  · rw [if_pos a4, if_pos a4]
    by_cases a5 : p3 = 0
    · rw [if_pos a5, if_pos a5, g_ns hk gvt htn, Option.bind_some, m_ns hk hm s01 htn (sv tn htn), Option.bind_some]
      exact fin rfl rfl
    · rw [if_neg a5, if_neg a5, c1]
      rcases d1 with ⟨rfl, _⟩ | ⟨i, hi, _, _, q⟩
      · exact fin rfl rfl
      · rw [a4] at q
        exact absurd q (neg1 _ (by have := ct_le (ds_b (fd' tn)) i; omega))
  · rw [if_neg a4, if_neg a4, c1]
    obtain ⟨v2, c2, d2⟩ := m_shifts hk hm gvt.1 (show tn < 12 by omega) hv p2 p3
    rw [c2]
    have : v1 = v2 := by
      rcases d1 with ⟨rfl, q⟩ | ⟨i, hi, rfl, q1, q2⟩
      · rcases d2 with ⟨rfl, _⟩ | ⟨j, hj, rfl, q3, q4⟩
        · rfl
        · exact absurd q4 (q j hj q3)
      · rcases d2 with ⟨rfl, q⟩ | ⟨j, hj, rfl, q3, q4⟩
        · exact absurd q2 (q i hi q1)
        · have l1 := ct_le (ds_b (fd' tn)) i
          have l2 := ct_le (ds_b (fd' tn)) j
          have := ct_inj _ q1 q3 ((n_inj (by omega) (by omega)).mp (q2.trans q4.symm))
          rw [this]
    rw [this]
    exact fin rfl rfl
