/-! mirrors that leave FIRST, shortest steps turned round -/
theorem fix_one {hex : Bool} {i j : Nat} (hi : i < ds_n2 hex) (hj : j < ds_n2 hex) {x y : Int} (h1 : ds_tx hex (ds_n2 hex + i) x y = x ∧ ds_ty2 hex (ds_n2 hex + i) x y = y) (h2 : ds_tx hex (ds_n2 hex + j) x y = x ∧ ds_ty2 hex (ds_n2 hex + j) x y = y) (h0 : ¬ (x = 0 ∧ y = 0)) : i = j := by
  cases hex
  · have a : i = 0 ∨ i = 1 ∨ i = 2 ∨ i = 3 := by have : ds_n2 false = 4 := rfl; omega
    have b : j = 0 ∨ j = 1 ∨ j = 2 ∨ j = 3 := by have : ds_n2 false = 4 := rfl; omega
    rcases a with rfl | rfl | rfl | rfl <;> rcases b with rfl | rfl | rfl | rfl <;> first | rfl | (exfalso; simp [ds_tx, ds_ty2, ds_m, ds_ln, ds_n2, ds_tabI] at h1 h2; omega)
  · have a : i = 0 ∨ i = 1 ∨ i = 2 ∨ i = 3 ∨ i = 4 ∨ i = 5 := by have : ds_n2 true = 6 := rfl; omega
    have b : j = 0 ∨ j = 1 ∨ j = 2 ∨ j = 3 ∨ j = 4 ∨ j = 5 := by have : ds_n2 true = 6 := rfl; omega
    rcases a with rfl | rfl | rfl | rfl | rfl | rfl <;> rcases b with rfl | rfl | rfl | rfl | rfl | rfl <;> first | rfl | (exfalso; simp [ds_tx, ds_ty2, ds_m, ds_ln, ds_n2, ds_tabI] at h1 h2; omega)
def ds_le (hex : Bool) (a b : Int) (tn : Nat) : Prop := ds_tx hex tn a b = a ∧ ds_ty2 hex tn a b = b
noncomputable def ds_fmi (w h : Nat) (hex : Bool) (o t : Int64) (a b : Int) : Bool := ds_d (∃ tn, tn < ds_nt hex ∧ (ds_le hex a b tn ∧ ds_fl w h hex o t tn = true ∧ ds_mi w h hex o t tn = true))
theorem q_if (b : Bool) : (if b then (1 : Int32) else 0) = ds_q b := rfl
theorem g_keeps {w h : Nat} (hk : ds_ok w h) {hex : Bool} {o t : Int64} {fd : Nat → Int64} (hv : ∀ tn, tn < 12 → ds_GV w h hex o t fd tn) {a b : Int} (h1 : -9 ≤ a) (h2 : a ≤ 9) (h3 : -9 ≤ b) (h4 : b ≤ 9) : fX0_keepsFirstByMirror (ds_z a) (ds_z b) (nI w) (nI h) (ds_q hex) fd = some (ds_q (ds_fmi w h hex o t a b)) := by
  obtain ⟨n1, n2, n3, n4⟩ := nt_le hex
  unfold fX0_keepsFirstByMirror fX0_keepsFirstByMirror_2
  refine (ds_any (body := fun s => fX0_keepsFirstByMirror_2_b (ds_z a) (ds_z b) (nI w) (nI h) (ds_q hex) fd s) (ds_nt hex) (fun k => nI k) (fun tn => ds_le hex a b tn ∧ ds_fl w h hex o t tn = true ∧ ds_mi w h hex o t tn = true) (1 : Int32) (0 : Int32) (by omega) (fun k hk2 => ?_) ?_).trans ?_
  · try dsimp only
    obtain ⟨⟨s1, s2⟩, s3, s4⟩ := t_small hk2 h1 h2 h3 h4
    unfold fX0_keepsFirstByMirror_2_b fX0_keepsFirstByMirror_72 fX0_keepsFirstByMirror_73 fX0_keepsFirstByMirror_96
    rw [(p_nt hex).1, Option.bind_some, if_neg (nI_ge hk2 (by omega)), p_tx hk2, Option.bind_some, p_ty hk2, Option.bind_some, g_hasFlip hk (hv k (by omega)) hk2, Option.bind_some, g_mirror hk (hv k (by omega)) hk2, Option.bind_some, nI_1, if_pos (rfl : (0 : Int32) = 0), if_neg (show ¬ (1 : Int32) = 0 by decide)]
    by_cases c1 : ds_tx hex k a b = a
    · rw [if_pos (by rw [c1])]
      by_cases c2 : ds_ty2 hex k a b = b
      · rw [if_pos (by rw [c2])]
        cases c3 : ds_fl w h hex o t k
        · rw [if_pos (show ds_q false = 0 from rfl), d_false (fun z => Bool.noConfusion z.2.1), if_neg (by decide)]
        · rw [if_neg (show ¬ ds_q true = 0 by decide)]
          cases c4 : ds_mi w h hex o t k
          · rw [if_pos (show ds_q false = 0 from rfl), d_false (fun z => Bool.noConfusion z.2.2), if_neg (by decide)]
          · rw [if_neg (show ¬ ds_q true = 0 by decide), d_true ⟨⟨c1, c2⟩, rfl, rfl⟩, if_pos rfl]
      · rw [if_neg (fun z => c2 ((z_eq (by omega) (by omega) (by omega) (by omega)).mp z)), d_false (fun z => c2 z.1.2), if_neg (by decide)]
    · rw [if_neg (fun z => c1 ((z_eq (by omega) (by omega) (by omega) (by omega)).mp z)), d_false (fun z => c1 z.1.1), if_neg (by decide)]
  · try dsimp only
    unfold fX0_keepsFirstByMirror_2_b
    rw [(p_nt hex).1, Option.bind_some, if_pos (nI_le (Nat.le_refl _) (by omega))]
  · rw [q_if]; rfl
theorem m_firstMirror {w h : Nat} (hk : ds_ok w h) {hex : Bool} {o t : Int64} {al sh : Nat → Int32} (hm : ds_MT w h hex o t al) (h01 : ds_01 sh) (hv : ∀ tn, tn < ds_nt hex → ds_SV w h hex o t sh tn) {a b : Int} (h1 : -9 ≤ a) (h2 : a ≤ 9) (h3 : -9 ≤ b) (h4 : b ≤ 9) (h0 : ¬ (a = 0 ∧ b = 0)) : fX8_isFirstMirror (ds_z a) (ds_z b) al sh ds_tabF = some (ds_q (ds_fmi w h hex o t a b)) := by
  obtain ⟨n1, n2, n3, n4⟩ := nt_le hex
  obtain ⟨m0, m1, m2, m3⟩ := id hm
  unfold fX8_isFirstMirror
  rw [m_turnings m2, Option.bind_some, nt_half]
  unfold fX8_isFirstMirror_7
  suffices hq : ∃ r, ds_it (fun s => fX8_isFirstMirror_7_b (ds_z a) (ds_z b) al sh ds_tabF s) 1000 (nI (ds_n2 hex)) = some r ∧ r = ds_q (ds_fmi w h hex o t a b) by
    obtain ⟨r, e, rfl⟩ := hq; exact e
  refine ds_it_inv _ (fun k s => s = nI (ds_n2 hex + k) ∧ ∀ j, j < k → ¬ (ds_hs w h hex o t (ds_n2 hex + j) = true ∧ ds_le hex a b (ds_n2 hex + j))) _ (ds_n2 hex) 1000 0 _ (Nat.zero_le _) ⟨rfl, fun j hj => absurd hj (Nat.not_lt_zero j)⟩ (by omega) ?_ ?_
  · rintro k s hk2 ⟨rfl, f⟩
    try dsimp only
    have ht : ds_n2 hex + k < ds_nt hex := by omega
    obtain ⟨⟨s1, s2⟩, s3, s4⟩ := t_small ht h1 h2 h3 h4
    have fl : ds_fl w h hex o t (ds_n2 hex + k) = ds_hs w h hex o t (ds_n2 hex + k) := by unfold ds_fl; simp
    have nx : ¬ (ds_hs w h hex o t (ds_n2 hex + k) = true ∧ ds_le hex a b (ds_n2 hex + k)) → ∀ j, j < k + 1 → ¬ (ds_hs w h hex o t (ds_n2 hex + j) = true ∧ ds_le hex a b (ds_n2 hex + j)) := by
      intro q j hj
      by_cases e : j = k
      · rw [e]; exact q
      · exact f j (by omega)
    unfold fX8_isFirstMirror_7_b fX8_isFirstMirror_37 fX8_isFirstMirror_31 fX8_isFirstLeft
    rw [m_turnings m2, Option.bind_some, if_neg (nI_ge ht (by omega)), m_flipThere hk hm h01 ht (hv _ ht), Option.bind_some, m_tx m2 ht, Option.bind_some, m_ty m2 ht, Option.bind_some, m_mirror hk hm h01 ht (by omega) (hv _ ht), Option.bind_some, if_pos (q_01 _), nI_1, fl]
    cases c0 : ds_hs w h hex o t (ds_n2 hex + k)
    · left
      rw [if_pos (show ds_q false = 0 from rfl)]
      exact ⟨_, rfl, rfl, nx (fun z => by rw [c0] at z; exact Bool.noConfusion z.1)⟩
    · rw [if_neg (show ¬ ds_q true = 0 by decide)]
      by_cases c1 : ds_tx hex (ds_n2 hex + k) a b = a
      · rw [if_pos (by rw [c1])]
        by_cases c2 : ds_ty2 hex (ds_n2 hex + k) a b = b
        · rw [if_pos (by rw [c2])]
          right
          refine ⟨_, rfl, ?_⟩
          unfold ds_fmi
          congr 1
          rw [Bool.eq_iff_iff, d_iff]
          constructor
          · intro q; exact ⟨_, ht, ⟨c1, c2⟩, by rw [fl]; exact c0, q⟩
          · rintro ⟨tn, g1, g2, g3, g4⟩
            have g5 : ds_n2 hex ≤ tn := by unfold ds_fl at g3; simp at g3; exact g3.1
            obtain ⟨j, rfl⟩ := Nat.exists_eq_add_of_le g5
            have := fix_one (i := j) (j := k) (by omega) hk2 g2 ⟨c1, c2⟩ h0
            rw [this] at g4; exact g4
        · left
          rw [if_neg (fun z => c2 ((z_eq (by omega) (by omega) (by omega) (by omega)).mp z))]
          exact ⟨_, rfl, rfl, nx (fun z => c2 z.2.2)⟩
      · left
        rw [if_neg (fun z => c1 ((z_eq (by omega) (by omega) (by omega) (by omega)).mp z))]
        exact ⟨_, rfl, rfl, nx (fun z => c1 z.2.1)⟩
  · rintro s ⟨rfl, f⟩
    try dsimp only
    unfold fX8_isFirstMirror_7_b
    rw [m_turnings m2, Option.bind_some, if_pos (nI_le (by omega) (by omega))]
    refine ⟨_, rfl, ?_⟩
    unfold ds_fmi
    rw [d_false]; · rfl
    rintro ⟨tn, g1, g2, g3, g4⟩
    have g5 : ds_n2 hex ≤ tn ∧ ds_hs w h hex o t tn = true := by unfold ds_fl at g3; simp at g3; exact g3
    obtain ⟨j, rfl⟩ := Nat.exists_eq_add_of_le g5.1
    exact f j (by omega) ⟨g5.2, g2⟩
-- shortest steps
def ds_bk (hex : Bool) (x y : Int) (tn : Nat) : Prop := ds_tx hex tn x y = -x ∧ ds_ty2 hex tn x y = -y
noncomputable def ds_sh (w h : Nat) (hex : Bool) (o t : Int64) (a b : Int) : Bool := ds_d (∃ tn, tn < ds_nt hex ∧ ds_fl w h hex o t tn = true ∧ ∃ x y : Int, ds_St w h o t x y ∧ ds_lg hex x y = ds_lg hex a b ∧ ds_bk hex x y tn)
theorem g_round {w h : Nat} (hk : ds_ok w h) {hex : Bool} {o t : Int64} {fd : Nat → Int64} (hv : ∀ tn, tn < 12 → ds_GV w h hex o t fd tn) {x y : Int} (h1 : -10 ≤ x) (h2 : x ≤ 10) (h3 : -10 ≤ y) (h4 : y ≤ 10) : fX0_hasFlipRound (ds_q hex) fd (ds_z x) (ds_z y) = some (ds_q (ds_d (∃ tn, tn < ds_nt hex ∧ (ds_bk hex x y tn ∧ ds_fl w h hex o t tn = true)))) := by
  obtain ⟨n1, n2, n3, n4⟩ := nt_le hex
  unfold fX0_hasFlipRound fX0_hasFlipRound_2
  refine (ds_any (body := fun s => fX0_hasFlipRound_2_b (ds_q hex) fd (ds_z x) (ds_z y) s) (ds_nt hex) (fun k => nI k) (fun tn => ds_bk hex x y tn ∧ ds_fl w h hex o t tn = true) (1 : Int32) (0 : Int32) (by omega) (fun k hk2 => ?_) ?_).trans ?_
  · try dsimp only
    obtain ⟨⟨s1, s2⟩, s3, s4⟩ := t_small hk2 h1 h2 h3 h4
    unfold fX0_hasFlipRound_2_b fX0_hasFlipRound_56 fX0_hasFlipRound_57 fX0_hasFlipRound_74
    rw [(p_nt hex).1, Option.bind_some, if_neg (nI_ge hk2 (by omega)), p_tx hk2, Option.bind_some, p_ty hk2, Option.bind_some, g_hasFlip hk (hv k (by omega)) hk2, Option.bind_some, nI_1, if_pos (rfl : (0 : Int32) = 0), if_neg (show ¬ (1 : Int32) = 0 by decide), z_neg, z_neg]
    by_cases c1 : ds_tx hex k x y = -x
    · rw [if_pos (by rw [c1])]
      by_cases c2 : ds_ty2 hex k x y = -y
      · rw [if_pos (by rw [c2])]
        cases c3 : ds_fl w h hex o t k
        · rw [if_pos (show ds_q false = 0 from rfl), d_false (fun z => Bool.noConfusion z.2), if_neg (by decide)]
        · rw [if_neg (show ¬ ds_q true = 0 by decide), d_true ⟨⟨c1, c2⟩, rfl⟩, if_pos rfl]
      · rw [if_neg (fun z => c2 ((z_eq (by omega) (by omega) (by omega) (by omega)).mp z)), d_false (fun z => c2 z.1.2), if_neg (by decide)]
    · rw [if_neg (fun z => c1 ((z_eq (by omega) (by omega) (by omega) (by omega)).mp z)), d_false (fun z => c1 z.1.1), if_neg (by decide)]
  · try dsimp only
    unfold fX0_hasFlipRound_2_b
    rw [(p_nt hex).1, Option.bind_some, if_pos (nI_le (Nat.le_refl _) (by omega))]
  · rw [q_if]
theorem g_short {w h : Nat} (hk : ds_ok w h) {hex : Bool} {o t : Int64} {fd : Nat → Int64} (hv : ∀ tn, tn < 12 → ds_GV w h hex o t fd tn) {a b : Int} (h1 : -9 ≤ a) (h2 : a ≤ 9) (h3 : -9 ≤ b) (h4 : b ≤ 9) (hl : ds_lg hex a b ≤ 64) : fX0_turnsShortestRound (ds_z a) (ds_z b) (nI w) (nI h) (ds_q hex) fd = some (ds_q (ds_sh w h hex o t a b)) := by
  obtain ⟨n1, n2, n3, n4⟩ := nt_le hex
  have bl := lg_bd (hex := hex) (x := a) (y := b) (by omega) (by omega) (by omega) (by omega)
  unfold fX0_turnsShortestRound
  rw [p_lg, Option.bind_some]
  unfold fX0_turnsShortestRound_22
  let P : Nat → Nat → Prop := fun y x => ds_lg hex ((x : Int) - 9) ((y : Int) - 9) = ds_lg hex a b ∧ ds_St w h o t ((x : Int) - 9) ((y : Int) - 9) ∧ ∃ tn, tn < ds_nt hex ∧ (ds_bk hex ((x : Int) - 9) ((y : Int) - 9) tn ∧ ds_fl w h hex o t tn = true)
  refine (ds_any (body := fun s => fX0_turnsShortestRound_22_b (nI w) (nI h) (ds_q hex) fd (ds_z (ds_lg hex a b)) s) 19 (fun k => ds_z ((k : Int) - 9)) (fun y => ∃ x, x < 19 ∧ P y x) (1 : Int32) (0 : Int32) (by omega) (fun y hy => ?_) ?_).trans ?_
  · try dsimp only
    unfold fX0_turnsShortestRound_22_b
    rw [show (9 : Int32) = ds_z 9 from rfl, if_neg (fun z => by have := (z_lt (by omega) (by omega) (by omega) (by omega)).mp z; omega)]
    unfold fX0_turnsShortestRound_31
    refine (ds_any (body := fun s => fX0_turnsShortestRound_31_b (nI w) (nI h) (ds_q hex) fd (ds_z (ds_lg hex a b)) (ds_z ((y : Int) - 9)) s) 19 (fun k => ds_z ((k : Int) - 9)) (fun x => P y x) (.inr (1 : Int32)) (.inl (ds_z (((y + 1 : Nat) : Int) - 9))) (by omega) (fun x hx => ?_) ?_).trans ?_
    · try dsimp only
      have bx := lg_bd (hex := hex) (x := (x : Int) - 9) (y := (y : Int) - 9) (by omega) (by omega) (by omega) (by omega)
      have sy := g_sym hk (hv 0 (by omega)) (show 0 < ds_nt hex by omega) (x := (x : Int) - 9) (y := (y : Int) - 9) (by omega) (by omega) (by omega) (by omega)
      have e : ds_d (ds_Sy w h hex o t 0 ((x : Int) - 9) ((y : Int) - 9)) = ds_d (ds_St w h o t ((x : Int) - 9) ((y : Int) - 9)) := by rw [Bool.eq_iff_iff, d_iff, d_iff, Sy_0]
      rw [e] at sy
      unfold fX0_turnsShortestRound_31_b fX0_turnsShortestRound_58 fX0_turnsShortestRound_86
      rw [show (9 : Int32) = ds_z 9 from rfl, if_neg (fun z => by have := (z_lt (by omega) (by omega) (by omega) (by omega)).mp z; omega), p_lg, Option.bind_some, show (0 : Int32) = nI 0 from rfl, sy, Option.bind_some, g_round hk hv (by omega) (by omega) (by omega) (by omega), Option.bind_some, z_succ, show nI 0 = (0 : Int32) from rfl, if_pos (rfl : (0 : Int32) = 0), if_neg (show ¬ (1 : Int32) = 0 by decide)]
      by_cases c1 : ds_lg hex ((x : Int) - 9) ((y : Int) - 9) = ds_lg hex a b
      · rw [if_pos (by rw [c1])]
        by_cases c2 : ds_St w h o t ((x : Int) - 9) ((y : Int) - 9)
        · rw [d_true c2, if_neg (show ¬ ds_q true = 0 by decide)]
          by_cases c3 : ∃ tn, tn < ds_nt hex ∧ (ds_bk hex ((x : Int) - 9) ((y : Int) - 9) tn ∧ ds_fl w h hex o t tn = true)
          · rw [d_true c3, if_neg (show ¬ ds_q true = 0 by decide), d_true (show P y x from ⟨c1, c2, c3⟩), if_pos rfl]
          · rw [d_false c3, if_pos (show ds_q false = 0 from rfl), d_false (show ¬ P y x from fun z => c3 z.2.2), if_neg (by decide)]
        · rw [d_false c2, if_pos (show ds_q false = 0 from rfl), d_false (show ¬ P y x from fun z => c2 z.2.1), if_neg (by decide)]
      · rw [if_neg (fun z => c1 ((z_eq (by omega) (by omega) (by omega) (by omega)).mp z)), d_false (show ¬ P y x from fun z => c1 z.1), if_neg (by decide)]
    · try dsimp only
      unfold fX0_turnsShortestRound_31_b fX0_turnsShortestRound_92
      rw [if_pos (by decide), Option.bind_some, z_succ]
    · try dsimp only
      cases ds_d (∃ k, k < 19 ∧ P y k)
      · rw [if_neg (by decide), if_neg (by decide)]
      · rw [if_pos rfl, if_pos rfl]
  · try dsimp only
    unfold fX0_turnsShortestRound_22_b
    rw [if_pos (by decide)]
  · rw [q_if]
    unfold ds_sh
    congr 2
    rw [Bool.eq_iff_iff, d_iff, d_iff]
    constructor
    · rintro ⟨y, hy, x, hx, q1, q2, tn, q3, q4, q5⟩
      exact ⟨tn, q3, q5, _, _, q2, q1, q4⟩
    · rintro ⟨tn, q3, q5, x, y, q2, q1, q4⟩
      have nf : ¬ ((x ≤ -10 ∨ 10 ≤ x) ∨ (y ≤ -10 ∨ 10 ≤ y)) := fun z => by have := lg_far (hex := hex) z; omega
      refine ⟨(y + 9).toNat, by omega, (x + 9).toNat, by omega, ?_⟩
      show ds_lg hex (((x + 9).toNat : Int) - 9) (((y + 9).toNat : Int) - 9) = _ ∧ ds_St w h o t (((x + 9).toNat : Int) - 9) (((y + 9).toNat : Int) - 9) ∧ ∃ tn, tn < ds_nt hex ∧ (ds_bk hex (((x + 9).toNat : Int) - 9) (((y + 9).toNat : Int) - 9) tn ∧ _)
      rw [show ((x + 9).toNat : Int) - 9 = x by omega, show ((y + 9).toNat : Int) - 9 = y by omega]
      exact ⟨q1, q2, tn, q3, q4, q5⟩
