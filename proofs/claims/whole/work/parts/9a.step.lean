/-! step -/
theorem q_step {w h : Nat} (hk : ds_ok w h) {hex : Bool} {o t : Int64} (ho : ds_sub w h o) (ht : ds_sub w h t) {lk sf fx fy sx sy sw sh shx : Int32} {so st : Int64} {fd : Nat → Int64} (hg : ds_GI lk sf fx fy sx sy sw sh shx so st fd) (tw th tx : Int32) (to tt : Int64) {al sr : Nat → Int32} (hm : ds_MT w h hex o t al) (h01 : ds_01 sr) (f1 f2 f3 f4 p1 : Int32) {p2 : Int32} (hp : 0 ≤ p2.toInt ∧ p2.toInt ≤ 2) :
    ∃ v sf' fx' fy' sx' sy' fd' tw' th' tx' to' tt', fX7_step lk sf fx fy sx sy sw sh shx so st (nI w) (nI h) (ds_q hex) o t fd tw th tx to tt p1 p2 = some (v, 1, sf', fx', fy', sx', sy', nI w, nI h, ds_q hex, o, t, fd', tw', th', tx', to', tt') ∧ ds_GI 1 sf' fx' fy' sx' sy' (nI w) (nI h) (ds_q hex) o t fd' ∧ ∃ a1 a2 a3 a4 sr', fX8_step f1 f2 f3 f4 al ds_tabF sr p1 p2 = some (v, 0, a1, a2, a3, a4, sr') ∧ ds_01 sr' := by
  obtain ⟨n1, n2, n3, n4⟩ := nt_le hex
  obtain ⟨sf', fd', tw', th', tx', to', tt', e, gv, s⟩ := look hk (hex := hex) ho ht hg tw th tx to tt
  obtain ⟨sr', e2, s01, sv⟩ := m_lays hk hm h01
  obtain ⟨a, b, c, d, e3, hF⟩ := m_steps hk hm s01 (sv 0 (by omega))
  have e4 := g_find hk (gv 0 (by omega)) s hF
  have gi : ds_GI 1 1 (ds_z a) (ds_z b) (ds_z c) (ds_z d) (nI w) (nI h) (ds_q hex) o t fd' := GI_of hk gv (Or.inr ⟨rfl, a, b, c, d, rfl, rfl, rfl, rfl, hF⟩)
  have l2 : p2 ≤ 2 ↔ p2.toInt ≤ 2 := i_le p2 (k := 2) (by omega) (by omega)
  have core : ∀ x y : Int, ∃ v, fX7_step_83 1 1 (ds_z a) (ds_z b) (ds_z c) (ds_z d) (nI w) (nI h) (ds_q hex) o t (ds_q hex) fd' tw' th' tx' to' tt' p2 (ds_z x) (ds_z y) = some (v, 1, 1, ds_z a, ds_z b, ds_z c, ds_z d, nI w, nI h, ds_q hex, o, t, fd', tw', th', tx', to', tt') ∧ fX8_step_66 0 (ds_z a) (ds_z b) (ds_z c) (ds_z d) al sr' p2 (ds_z x) (ds_z y) = some (v, 0, ds_z a, ds_z b, ds_z c, ds_z d, sr') := by
    intro x y
    unfold fX7_step_83 fX8_step_66
    rw [p_lg, m_lg hm, Option.bind_some, Option.bind_some]
    by_cases c1 : p2 = 0
    · rw [if_pos c1, if_pos c1]; exact ⟨_, rfl, rfl⟩
    · rw [if_neg c1, if_neg c1]
      by_cases c2 : p2 = 1
      · rw [if_pos c2, if_pos c2]; exact ⟨_, rfl, rfl⟩
      · rw [if_neg c2, if_neg c2]; exact ⟨_, rfl, rfl⟩
  unfold fX7_step fX8_step fX8_step_15
  rw [m_in2, decide_eq_true hp, Option.bind_some, if_neg (show ¬ ds_q true = 0 by decide), if_neg (fun z => by have := (i_lt0 p2).mp z; omega), if_pos (l2.mpr hp.2), e, Option.bind_some]
  dsimp only
  rw [e4, Option.bind_some, if_pos (show (0 : Int32) ≤ 0 by decide), e2, Option.bind_some, e3, Option.bind_some]
  dsimp only
  unfold fX7_step_61 fX8_step_50
  by_cases c1 : p1 = 0
  · rw [if_pos c1, if_pos c1, if_pos c1, if_pos c1]
    obtain ⟨v, x1, x2⟩ := core a b
    rw [x1, x2]
    exact ⟨_, _, _, _, _, _, _, _, _, _, _, _, rfl, gi, _, _, _, _, _, rfl, s01⟩
  · rw [if_neg c1, if_neg c1, if_neg c1, if_neg c1]
    obtain ⟨v, x1, x2⟩ := core c d
    rw [x1, x2]
    exact ⟨_, _, _, _, _, _, _, _, _, _, _, _, rfl, gi, _, _, _, _, _, rfl, s01⟩
theorem q_stepX (f1 f2 f3 f4 : Int32) (al sr : Nat → Int32) (p1 : Int32) {p2 : Int32} (hp : ¬ (0 ≤ p2.toInt ∧ p2.toInt ≤ 2)) : fX8_step f1 f2 f3 f4 al ds_tabF sr p1 p2 = some (0, 1, f1, f2, f3, f4, sr) := by
  unfold fX8_step fX8_step_15
  rw [m_in2, decide_eq_false hp, Option.bind_some, if_pos (show ds_q false = 0 from rfl), if_neg (show ¬ (1 : Int32) ≤ 0 by decide)]
