/-! kinds counted, on both sides -/
def ds_ld (w h : Nat) (K : Nat → Nat → Prop) (c : Nat) : Prop := c < 64 ∧ ds_ins w h c = true ∧ ∀ j, j < 64 → ds_ins w h j = true → K j c → c ≤ j
noncomputable def ds_lc (w h : Nat) (K : Nat → Nat → Prop) (n : Nat) : Nat := ds_ct (fun i => ds_d (ds_ld w h K i)) n
theorem KR_lead {w h : Nat} {K : Nat → Nat → Prop} {R : Nat → Int32} {r : Nat → Nat} (u : ds_UF R r) (ui : ∀ i, i < 64 → ds_ins w h i = true → ds_ins w h (r i) = true) (uk : ∀ i j, i < 64 → j < 64 → ds_ins w h i = true → ds_ins w h j = true → (r i = r j ↔ K i j)) {c : Nat} (hc : c < 64) (hi : ds_ins w h c = true) : r c = c ↔ ds_ld w h K c := by
  constructor
  · intro e
    refine ⟨hc, hi, fun j hj ij q => ?_⟩
    have := (uk j c hj hc ij hi).mpr q
    have := (u j hj).1
    omega
  · intro q
    have b := (u c hc).1
    have := q.2.2 (r c) (by omega) (ui c hc hi) ((uk _ _ (by omega) hc (ui c hc hi) hi).mp (uf_rr u c hc))
    omega
theorem m_leaders {w h : Nat} (hk : ds_ok w h) {hex : Bool} {o t : Int64} {al : Nat → Int32} (hm : ds_MT w h hex o t al) {K : Nat → Nat → Prop} {R : Nat → Int32} (hr : ds_KR w h K R) {p : Nat} (hp : p ≤ 64) : fX8_leaders al R (nI p) = some (nI (ds_lc w h K p)) := by
  obtain ⟨k1, k2, k3, k4⟩ := id hk
  obtain ⟨m0, m1, m2, m3⟩ := id hm
  obtain ⟨r, u, ui, uk⟩ := hr
  unfold fX8_leaders fX8_leaders_4
  have z0 : ∀ c : Nat, nI c + 0 = nI (c + 0) := fun c => by rw [show (0 : Int32) = nI 0 from rfl, nI_add]
  obtain ⟨P, hP⟩ : ∃ P : Nat → Bool, ∀ i, P i = (decide (i < p) && ds_d (ds_ld w h K i)) := ⟨_, fun _ => rfl⟩
  have G := (ds_grid (OB := fun s => fX8_leaders_4_b al R (nI p) s.1 s.2) (IB := fun y s => fX8_leaders_17_b al R (nI p) (nI y) s.1 s.2) w h (fun c y => (nI c, nI y)) (fun c _ x => (nI c, nI x)) (fun c (x y : Nat) => c + (if P (8 * y + x) then 1 else 0)) (fun _ => True) (by omega) (by omega)
    (fun c y hy _ => by
      dsimp only
      unfold fX8_leaders_4_b
      rw [l_1, m1, if_neg (nI_ge hy (by omega))]; rfl)
    (fun c y x hy hx _ => by
      refine ⟨?_, trivial⟩
      dsimp only
      obtain ⟨j1, j2, j3, j4⟩ := ins_xy hk hx hy
      have e8 : (8 : Int32) * nI y + nI x = nI (8 * y + x) := by rw [z_nI, z_nI, show (8 : Int32) = ds_z 8 from rfl, z_mul, z_add, z_nI]; congr 1
      have ld := KR_lead u ui uk j4 j1
      unfold fX8_leaders_17_b fX8_leaders_66 fX8_leaders_67
      rw [l_0, m0, if_neg (nI_ge hx (by omega)), e8, if_pos (in_nI j4 (by omega)), nI_clamp (by omega), z0, nI_1, nI_1]
      by_cases c1 : 8 * y + x < p
      · rw [if_neg (fun z => by have := (n_le (by omega) (by omega)).mp z; omega), hP, decide_eq_true c1, Bool.true_and]
        by_cases c2 : ds_ld w h K (8 * y + x)
        · rw [if_pos ((uf_lead u j4).mpr (ld.mpr c2)), d_true c2]; rfl
        · rw [if_neg (fun z => c2 (ld.mp ((uf_lead u j4).mp z))), d_false c2]; rfl
      · rw [if_pos ((n_le (by omega) (by omega)).mpr (by omega)), hP, decide_eq_false c1, Bool.false_and]; rfl)
    (fun c y hy _ => by
      dsimp only
      unfold fX8_leaders_17_b fX8_leaders_75
      rw [l_0, m0, if_pos (nI_le (Nat.le_refl _) (by omega)), Option.bind_some, nI_1])
    (o := fun c => some (nI c))
    (fun c _ => by
      dsimp only
      unfold fX8_leaders_4_b
      rw [l_1, m1, if_pos (nI_le (Nat.le_refl _) (by omega))]; rfl)
    0 trivial).1
  refine G.trans ?_
  rw [fg_ct P, rc_64 _ k2 k4, Nat.zero_add]
  unfold ds_lc
  rw [← ct_cut _ hp]
  congr 2
  apply ct_cong
  intro i hi
  rw [hP]
  by_cases c : ds_ld w h K i
  · rw [d_true c, c.2.1, Bool.true_and]
  · rw [d_false c, Bool.and_false, Bool.and_false]
-- the class
theorem GV_pt {w h : Nat} (hk : ds_ok w h) {hex : Bool} {o t : Int64} {fd : Nat → Int64} {tn : Nat} (hv : ds_GV w h hex o t fd tn) (ht : tn < ds_nt hex) (x y : Int) : ds_pt w h (fd tn) x y = ds_d (ds_Sy w h hex o t tn x y) := by
  unfold ds_pt
  rw [GV_b hk hv ht (ix_lt hk x y).2.2.1, sy_ix hk]
theorem b_pt {w h : Nat} {c : Int64} {i : Nat} (hi : ds_ins w h i = true) : ds_b c i = ds_pt w h c (i % 8 : Nat) (i / 8 : Nat) := by
  unfold ds_pt
  rw [ix_in (ins_of hi).1 (ins_of hi).2, show 8 * (i / 8) + i % 8 = i by omega]
theorem sub_or {w h : Nat} {a b : Int64} (ha : ds_sub w h a) (hb : ds_sub w h b) : ds_sub w h (a ||| b) := by
  intro i hi q
  rw [b_or, Bool.or_eq_true] at q
  exact q.elim (ha i hi) (hb i hi)
theorem sub_0 {w h : Nat} : ds_sub w h 0 := fun i _ q => by rw [b_zero] at q; cases q
theorem g_all {w h : Nat} (hk : ds_ok w h) {hex : Bool} {o t : Int64} {fd : Nat → Int64} (hv : ∀ tn, tn < 12 → ds_GV w h hex o t fd tn) {x y : Nat} (hx : x < w) (hy : y < h) : ∃ m, fX0_allOfKind (nI w) (nI h) (ds_q hex) fd (nI x) (nI y) = some m ∧ ds_sub w h m ∧ ∀ i, i < 64 → ds_ins w h i = true → (ds_b m i = true ↔ ds_Kd w h hex o t (8 * y + x) i) := by
  obtain ⟨n1, n2, n3, n4⟩ := nt_le hex
  obtain ⟨k1, k2, k3, k4⟩ := id hk
  obtain ⟨j1, j2, j3, j4⟩ := ins_xy hk hx hy
  unfold fX0_allOfKind fX0_allOfKind_5
  refine ds_it_inv _ (fun k s => s.2 = nI k ∧ ds_sub w h s.1 ∧ ∀ i, i < 64 → ds_ins w h i = true → (ds_b s.1 i = true ↔ ∃ tn, tn < k ∧ ds_Sy w h hex o t tn ((i % 8 : Nat) - ds_tx hex tn x y) ((i / 8 : Nat) - ds_ty2 hex tn x y))) _ (ds_nt hex) 1000 0 _ (Nat.zero_le _) ⟨rfl, sub_0, fun i _ _ => ⟨fun q => (by rw [b_zero] at q; cases q), fun ⟨tn, q, _⟩ => absurd q (Nat.not_lt_zero tn)⟩⟩ (by omega) ?_ ?_
  · rintro k ⟨s1, s2⟩ hk2 ⟨e1, e2, e3⟩
    dsimp only at e1 e2 e3
    subst e1
    left
    dsimp only
    obtain ⟨⟨b1, b2⟩, b3, b4⟩ := t_small hk2 (x := (x : Int)) (y := (y : Int)) (n := 8) (by omega) (by omega) (by omega) (by omega)
    have g := GV_0 hk (hv k (by omega)) hk2
    have tX := p_tx hk2 (x : Int) (y : Int)
    have tY := p_ty hk2 (x : Int) (y : Int)
    rw [← z_nI, ← z_nI] at tX tY
    obtain ⟨c', r1, r2, r3⟩ := p_rolled hk (hv k (by omega)).1 (a := ds_tx hex k x y) (b := ds_ty2 hex k x y) (by omega) (by omega) (by omega) (by omega)
    unfold fX0_allOfKind_5_b fX0_allOfKind_83
    rw [(p_nt hex).1, Option.bind_some, if_neg (nI_ge hk2 (by omega)), p_sf (by omega), Option.bind_some, tX, Option.bind_some, tY, Option.bind_some, r1, Option.bind_some, nI_1]
    by_cases c : fd k = 0
    · rw [if_pos ((b_cmp _ _).mpr c)]
      refine ⟨_, rfl, rfl, e2, fun i hi ii => ?_⟩
      rw [e3 i hi ii]
      constructor
      · rintro ⟨tn, q1, q2⟩; exact ⟨tn, by omega, q2⟩
      · rintro ⟨tn, q1, q2⟩
        by_cases cc : tn = k
        · subst cc
          have := g.mp c
          unfold ds_hs at this
          rw [d_true ⟨_, _, q2⟩] at this; cases this
        · exact ⟨tn, by omega, q2⟩
    · rw [if_neg (fun z => c ((b_cmp _ _).mp z))]
      refine ⟨_, rfl, rfl, sub_or e2 r2, fun i hi ii => ?_⟩
      dsimp only
      rw [b_or, Bool.or_eq_true, e3 i hi ii, b_pt ii (c := c'), r3, GV_pt hk (hv k (by omega)) hk2, d_iff]
      constructor
      · rintro (⟨tn, q1, q2⟩ | q)
        · exact ⟨tn, by omega, q2⟩
        · exact ⟨k, by omega, q⟩
      · rintro ⟨tn, q1, q2⟩
        by_cases cc : tn = k
        · subst cc; exact Or.inr q2
        · exact Or.inl ⟨tn, by omega, q2⟩
  · rintro ⟨s1, s2⟩ ⟨e1, e2, e3⟩
    dsimp only at e1 e2 e3
    subst e1
    dsimp only
    unfold fX0_allOfKind_5_b
    rw [(p_nt hex).1, Option.bind_some, if_pos (nI_le (Nat.le_refl _) (by omega))]
    refine ⟨_, rfl, e2, fun i hi ii => ?_⟩
    rw [e3 i hi ii]
    constructor
    · rintro ⟨tn, q1, q2⟩
      refine Or.inr ⟨j1, ii, tn, q1, _, _, q2, ?_, ?_⟩
      · rw [j2, j3]; omega
      · rw [j2, j3]; omega
    · rintro (q | ⟨_, _, tn, q1, a, b, q2, q3, q4⟩)
      · refine ⟨0, by omega, ?_⟩
        rw [← q, j2, j3, (tx_0 hex x y).1, (tx_0 hex x y).2, Int.sub_self, Int.sub_self]
        exact Sy_0.mpr St_zero
      · refine ⟨tn, q1, ?_⟩
        rw [j2, j3] at q3 q4
        rw [q3, q4, show ds_tx hex tn x y + a - ds_tx hex tn x y = a by omega, show ds_ty2 hex tn x y + b - ds_ty2 hex tn x y = b by omega]
        exact q2
theorem ld_ex {w h : Nat} {K : Nat → Nat → Prop} (hK : ds_Eq K) : ∀ i, i < 64 → ds_ins w h i = true → ∃ c, c ≤ i ∧ ds_ld w h K c ∧ K c i := by
  intro i
  induction i using Nat.strongRecOn with
  | ind i ih =>
    intro hi ii
    by_cases c : ds_ld w h K i
    · exact ⟨i, Nat.le_refl i, c, hK.1 i hi⟩
    · have : ∃ j, j < 64 ∧ ds_ins w h j = true ∧ K j i ∧ j < i := by
        apply Classical.byContradiction
        intro q
        refine c ⟨hi, ii, fun j hj ij kj => ?_⟩
        apply Classical.byContradiction
        intro q2
        exact q ⟨j, hj, ij, kj, by omega⟩
      obtain ⟨j, hj, ij, kj, lj⟩ := this
      obtain ⟨c', l1, l2, l3⟩ := ih j lj hj ij
      exact ⟨c', by omega, l2, hK.2.2 c' j i (by omega) hj hi l3 kj⟩
theorem ld_no {w h : Nat} {K : Nat → Nat → Prop} (hK : ds_Eq K) {i : Nat} (hi : i < 64) (ii : ds_ins w h i = true) : (∃ c, c < i ∧ ds_ld w h K c ∧ K c i) ↔ ¬ ds_ld w h K i := by
  constructor
  · rintro ⟨c, l1, l2, l3⟩ q
    have := q.2.2 c (by omega) l2.2.1 l3
    omega
  · intro q
    obtain ⟨c, l1, l2, l3⟩ := ld_ex hK i hi ii
    refine ⟨c, ?_, l2, l3⟩
    by_cases e : c = i
    · rw [e] at l2; exact absurd l2 q
    · omega
theorem lc_gap {w h : Nat} {K : Nat → Nat → Prop} {n m : Nat} (hnm : n ≤ m) (hg : ∀ i, n ≤ i → i < m → ds_ins w h i = false) : ds_lc w h K n = ds_lc w h K m := by
  unfold ds_lc
  obtain ⟨d, rfl⟩ := Nat.exists_eq_add_of_le hnm
  rw [ct_add, ct_false (p := fun i => ds_d (ds_ld w h K (n + i))) (fun k hk => d_false (fun z => by have := hg (n + k) (by omega) (by omega); rw [z.2.1] at this; cases this))]
  rfl
