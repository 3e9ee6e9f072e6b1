/-! flip; colours used -/
theorem t_case (hex : Bool) (p : Int32) : (∃ tn, tn < ds_nt hex ∧ p = nI tn) ∨ (p < 0) ∨ (nI (ds_nt hex) ≤ p ∧ ¬ p < 0 ∧ ¬ p < nI (ds_n2 hex)) := by
  obtain ⟨n1, n2, n3, n4⟩ := nt_le hex
  have b := i_bd p
  by_cases c1 : p.toInt < 0
  · right; left
    rw [show (0 : Int32) = ds_z 0 from rfl, ← z_of p]
    exact (z_lt b.1 b.2 (by omega) (by omega)).mpr c1
  · by_cases c2 : p.toInt < ds_nt hex
    · left
      refine ⟨p.toInt.toNat, by omega, ?_⟩
      rw [z_nI, Int.toNat_of_nonneg (by omega), z_of]
    · right; right
      refine ⟨?_, ?_, ?_⟩
      · rw [z_nI, ← z_of p]; exact (z_le (by omega) (by omega) b.1 b.2).mpr (by omega)
      · rw [show (0 : Int32) = ds_z 0 from rfl, ← z_of p]; intro z; exact c1 ((z_lt b.1 b.2 (by omega) (by omega)).mp z)
      · rw [z_nI, ← z_of p]; intro z; have := (z_lt b.1 b.2 (by omega) (by omega)).mp z; omega
theorem q_flip {w h : Nat} (hk : ds_ok w h) {hex : Bool} {o t : Int64} (ho : ds_sub w h o) (ht : ds_sub w h t) {lk sf fx fy sx sy sw sh shx : Int32} {so st : Int64} {fd : Nat → Int64} (hg : ds_GI lk sf fx fy sx sy sw sh shx so st fd) (tw th tx : Int32) (to tt : Int64) {al sr : Nat → Int32} (hm : ds_MT w h hex o t al) (h01 : ds_01 sr) (p : Int32) :
    ∃ v sf' fd' tw' th' tx' to' tt' sr', fX7_flip lk sf sw sh shx so st (nI w) (nI h) (ds_q hex) o t fd tw th tx to tt p = some (v, 1, sf', nI w, nI h, ds_q hex, o, t, fd', tw', th', tx', to', tt') ∧ ds_GI 1 sf' fx fy sx sy (nI w) (nI h) (ds_q hex) o t fd' ∧ fX8_flip al ds_tabF sr p = some (v, 0, sr') ∧ ds_01 sr' := by
  obtain ⟨n1, n2, n3, n4⟩ := nt_le hex
  obtain ⟨sf', fd', tw', th', tx', to', tt', e, gv, s⟩ := look hk (hex := hex) ho ht hg tw th tx to tt
  obtain ⟨sr', e2, s01, sv⟩ := m_lays hk hm h01
  obtain ⟨m0, m1, m2, m3⟩ := id hm
  unfold fX7_flip fX8_flip fX8_flip_21
  rw [e, Option.bind_some, e2, Option.bind_some]
  dsimp only
  rcases t_case hex p with ⟨tn, htn, rfl⟩ | hn | ⟨hp1, hp2, hp3⟩
  · rw [g_hasFlip hk (gv tn (by omega)) htn, Option.bind_some, g_mirror hk (gv tn (by omega)) htn, Option.bind_some, if_neg (nI_pos (by omega)), m_flipThere hk hm s01 htn (sv tn htn), Option.bind_some]
    cases c1 : ds_fl w h hex o t tn
    · rw [if_pos (show ds_q false = 0 from rfl), if_pos (show ds_q false = 0 from rfl)]
      exact ⟨_, sf', fd', tw', th', tx', to', tt', sr', rfl, GI_of hk gv s, rfl, s01⟩
    · have c2 : ds_n2 hex ≤ tn := by unfold ds_fl at c1; simp at c1; exact c1.1
      rw [if_neg (show ¬ ds_q true = 0 by decide), if_neg (show ¬ ds_q true = 0 by decide), m_mirror hk hm s01 htn c2 (sv tn htn), Option.bind_some]
      cases ds_mi w h hex o t tn
      · rw [if_pos (show ds_q false = 0 from rfl), if_pos (show ds_q false = 0 from rfl)]
        exact ⟨_, sf', fd', tw', th', tx', to', tt', sr', rfl, GI_of hk gv s, rfl, s01⟩
      · rw [if_neg (show ¬ ds_q true = 0 by decide), if_neg (show ¬ ds_q true = 0 by decide)]
        exact ⟨_, sf', fd', tw', th', tx', to', tt', sr', rfl, GI_of hk gv s, rfl, s01⟩
  · have hc : fX0_hasFlip (ds_q hex) fd' p = some 0 := by
      have b := i_bd p
      unfold fX0_hasFlip fX1_isFlip
      rw [(p_nt hex).2, Option.bind_some, if_pos ?_, Option.bind_some, if_pos rfl]
      rw [show (0 : Int32) = ds_z 0 from rfl, ← z_of p] at hn
      have := (z_lt b.1 b.2 (by omega) (by omega)).mp hn
      rw [z_nI, ← z_of p]
      exact (z_lt b.1 b.2 (by omega) (by omega)).mpr (by omega)
    rw [hc, Option.bind_some, if_pos rfl, if_pos hn]
    exact ⟨_, sf', fd', tw', th', tx', to', tt', sr', rfl, GI_of hk gv s, rfl, s01⟩
  · have hc : fX0_hasFlip (ds_q hex) fd' p = some 0 := by
      unfold fX0_hasFlip fX1_isFlip
      rw [(p_nt hex).2, Option.bind_some, if_neg hp3, (p_nt hex).1, Option.bind_some, if_pos hp1, Option.bind_some, if_pos rfl]
    have hr : fX8_isFlipThere al sr' p = some 0 := by
      unfold fX8_isFlipThere fX8_isFlip
      rw [m_turnings m2, Option.bind_some, nt_half, if_neg hp3, Option.bind_some, if_neg (by decide), Option.bind_some, if_pos hp1]
    rw [hc, Option.bind_some, if_pos rfl, if_neg hp2, hr, Option.bind_some, if_pos rfl]
    exact ⟨_, sf', fd', tw', th', tx', to', tt', sr', rfl, GI_of hk gv s, rfl, s01⟩
-- colours used
theorem g_used {w h : Nat} (hk : ds_ok w h) {hex : Bool} {o t : Int64} {al : Nat → Int32} (hm : ds_MT w h hex o t al) : ∃ v q, fX6_coloursUsed (nI w) (nI h) o t = some v ∧ fX8_coloursThere al = some q ∧ fX8_ones q = some v := by
  obtain ⟨k1, k2, k3, k4⟩ := id hk
  obtain ⟨n, e, n16, hb⟩ := m_there hk hm
  refine ⟨_, _, ?_, e, u_ones n n16⟩
  unfold fX6_coloursUsed fX6_coloursUsed_4
  refine ds_it_up _ (fun k => (nI (ds_ct (fun c => n.testBit c) k), nI k)) 4 1000 (some (nI (ds_ct (fun c => n.testBit c) 4))) (fun k hk2 => ?_) ?_ (by omega)
  · dsimp only
    obtain ⟨m, g1, g2, g3⟩ := p_ofColour hk o t hk2
    unfold fX6_coloursUsed_4_b fX6_coloursUsed_22
    rw [show (4 : Int32) = nI 4 from rfl, if_neg (nI_ge hk2 (by omega)), g1, Option.bind_some, nI_1, nI_1]
    show _ = some (Sum.inl (nI (ds_ct (fun c => n.testBit c) k + (if n.testBit k = true then 1 else 0)), nI (k + 1)))
    generalize ds_ct (fun c => n.testBit c) k = C
    have hz : m = 0 ↔ n.testBit k = false := by
      constructor
      · intro z
        cases q : n.testBit k
        · rfl
        · obtain ⟨x, y, hx, hy, ec⟩ := (hb k hk2).mp q
          obtain ⟨j1, j2, j3, j4⟩ := ins_xy hk hx hy
          have := g3 _ j4
          rw [z, b_zero, j1, decide_eq_true ec] at this; cases this
      · intro q
        apply b_ext
        intro i hi
        rw [b_zero, g3 i hi]
        cases ci : ds_ins w h i
        · rfl
        · rw [Bool.true_and]
          apply decide_eq_false
          intro ec
          have ie := ins_of ci
          have := (hb k hk2).mpr ⟨i % 8, i / 8, ie.1, ie.2, by rw [show 8 * (i / 8) + i % 8 = i by omega]; exact ec⟩
          rw [q] at this; cases this
    cases q : n.testBit k
    · rw [if_pos ((b_cmp _ _).mpr (hz.mpr q))]; rfl
    · rw [if_neg (fun z => by have := hz.mp ((b_cmp _ _).mp z); rw [q] at this; cases this)]; rfl
  · dsimp only
    unfold fX6_coloursUsed_4_b
    rw [if_pos (by decide)]; rfl
