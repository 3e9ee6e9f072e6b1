/-! painted, better -/
theorem upd_upd (f : Nat → Int32) (k : Nat) (a b : Int32) : upd (upd f k a) k b = upd f k b := by
  funext j
  by_cases e : j = k
  · rw [e, upd_at, upd_at]
  · rw [upd_ne _ _ e, upd_ne _ _ e, upd_ne _ _ e]
theorem upd_self (f : Nat → Int32) (k : Nat) : upd f k (f k) = f := by
  funext j
  by_cases e : j = k
  · rw [e, upd_at]
  · rw [upd_ne _ _ e]
theorem p_onecell {w h : Nat} (hk : ds_ok w h) {hex : Bool} {o t : Int64} (ho : ds_sub w h o) (ht : ds_sub w h t) {al : Nat → Int32} (hm : ds_MT w h hex o t al) {a b c : Nat} (ha : a < w) (hb : b < h) (hc : c < 4) : ∃ o2 t2, fX6_colourCells o t (ds_lshl 1 (nI (8 * b + a))) (nI c) = some (o2, t2) ∧ ds_sub w h o2 ∧ ds_sub w h t2 ∧ ds_MT w h hex o2 t2 (upd al (3 + (8 * b + a)) (nI c)) := by
  obtain ⟨m0, m1, m2, m3⟩ := id hm
  obtain ⟨j1, j2, j3, j4⟩ := ins_xy hk ha hb
  obtain ⟨o2, t2, e5, so2, st2, hco⟩ := p_colourCells ho ht (sub_bit j4 j1) hc
  refine ⟨o2, t2, e5, so2, st2, by rw [upd_ne _ _ (by omega), m0], by rw [upd_ne _ _ (by omega), m1], by rw [upd_ne _ _ (by omega), m2], fun i hi => ?_⟩
  rw [hco i hi, b_bit _ j4 i hi]
  by_cases e : i = 8 * b + a
  · rw [decide_eq_true e, if_pos rfl, e, upd_at]
  · rw [decide_eq_false e, if_neg (by decide), upd_ne _ _ (by omega), m3 i hi]
theorem ix3 (a b : Nat) : (3 + 8 * nI b) + nI a = nI (3 + (8 * b + a)) := by
  rw [sh_8, show (3 : Int32) = nI 3 from rfl, nI_add, nI_add, Nat.add_assoc]
theorem q_painted {w h : Nat} (hk : ds_ok w h) {hex : Bool} {o t : Int64} (ho : ds_sub w h o) (ht : ds_sub w h t) {al : Nat → Int32} (hm : ds_MT w h hex o t al) (d1 : Int32) (d2 : Int32) (d3 : Int32) (d4 : Int64) (d5 : Int64) {fx fy gx gy : Int32} {tl : Int32} {ts : Int32} {tsw : Int32} {tsh : Int32} {tsx : Int32} {tso : Int64} {tst : Int64} {tfd : Nat → Int64} {ttw : Int32} {tth : Int32} {ttx : Int32} {tto : Int64} {ttt : Int64} (hg : ds_GI tl ts fx fy gx gy tsw tsh tsx tso tst tfd) {sr : Nat → Int32} (h01 : ds_01 sr) (f1 f2 f3 f4 p1 p2 p3 : Int32) :
    ∃ (v : Int32) (d1' : Int32) (d2' : Int32) (d3' : Int32) (d4' : Int64) (d5' : Int64) (fx' fy' gx' gy' : Int32) (tl' : Int32) (ts' : Int32) (tsw' : Int32) (tsh' : Int32) (tsx' : Int32) (tso' : Int64) (tst' : Int64) (tfd' : Nat → Int64) (ttw' : Int32) (tth' : Int32) (ttx' : Int32) (tto' : Int64) (ttt' : Int64) (a1 a2 a3 a4 : Int32) (sr' : Nat → Int32), fX7_painted (nI w) (nI h) (ds_q hex) o t d1 d2 d3 d4 d5 tl ts fx fy gx gy tsw tsh tsx tso tst tfd ttw tth ttx tto ttt p1 p2 p3 = some (v, d1', d2', d3', d4', d5', tl', ts', fx', fy', gx', gy', tsw', tsh', tsx', tso', tst', tfd', ttw', tth', ttx', tto', ttt') ∧ fX8_painted f1 f2 f3 f4 al ds_tabF sr p1 p2 p3 = some (v, 0, a1, a2, a3, a4, al, sr') ∧ ds_GI tl' ts' fx' fy' gx' gy' tsw' tsh' tsx' tso' tst' tfd' ∧ ds_01 sr' := by
  obtain ⟨m0, m1, m2, m3⟩ := id hm
  unfold fX7_painted fX8_painted
  rcases q_has hk hm p1 p2 with ⟨a, b, ha, hb, rfl, rfl, e1, e2⟩ | ⟨e1, e2⟩
  rotate_left
  · rw [e1, e2]
    exact ⟨_, _, _, _, _, _, _, _, _, _, _, _, _, _, _, _, _, _, _, _, _, _, _, _, _, _, _, _, rfl, rfl, hg, h01⟩
  rw [e1, e2, Option.bind_some, Option.bind_some, if_neg (show ¬ (1 : Int32) = 0 by decide), if_neg (show ¬ (1 : Int32) = 0 by decide)]
  rcases q_col p3 with ⟨c, hc, rfl, e3, e4⟩ | ⟨e3, e4⟩
  rotate_left
  · rw [e3, e4]
    exact ⟨_, _, _, _, _, _, _, _, _, _, _, _, _, _, _, _, _, _, _, _, _, _, _, _, _, _, _, _, rfl, rfl, hg, h01⟩
  obtain ⟨k1, k2, k3, k4⟩ := id hk
  obtain ⟨j1, j2, j3, j4⟩ := ins_xy hk ha hb
  have cp : fX6_copyFrom (nI w) (nI h) (ds_q hex) o t = some (nI w, nI h, ds_q hex, o, t) := by unfold fX6_copyFrom; rw [if_pos (q_01 hex)]
  obtain ⟨o2, t2, e5, so2, st2, hm2⟩ := p_onecell hk ho ht hm ha hb hc
  have mc := m_colour hk hm (x := (a : Int)) (y := (b : Int)) (by omega) (by omega) (by omega) (by omega)
  rw [← z_nI, ← z_nI, ix_in ha hb] at mc
  obtain ⟨sf', fd', tw', th', tx', to', tt', e6, gv, sF⟩ := look hk (hex := hex) so2 st2 hg ttw tth ttx tto ttt
  obtain ⟨sr', e7, s01, sv⟩ := m_lays hk hm2 h01
  obtain ⟨A, B, C, E, hF, e8⟩ := m_cls hk hm2 s01 sv
  rw [e3, e4, Option.bind_some, Option.bind_some, if_neg (show ¬ (1 : Int32) = 0 by decide), if_neg (show ¬ (1 : Int32) = 0 by decide), cp, Option.bind_some, p_bit (by omega) (by omega), Option.bind_some, mc, Option.bind_some]
  dsimp only
  rw [e5, Option.bind_some]
  dsimp only
  rw [e6, Option.bind_some]
  dsimp only
  rw [g_cls hk gv sF hF, Option.bind_some, ix3, if_pos (in_nI (show 3 + (8 * b + a) < 350 by omega) (by omega)), nI_clamp (by omega), e7, Option.bind_some, e8, Option.bind_some, if_pos (in_nI (show 3 + (8 * b + a) < 350 by omega) (by omega)), upd_upd, show nI (ds_co o t (8 * b + a)) = al (3 + (8 * b + a)) from (m3 _ j4).symm, upd_self]
  exact ⟨_, _, _, _, _, _, _, _, _, _, _, _, _, _, _, _, _, _, _, _, _, _, _, _, _, _, _, _, rfl, rfl, GI_of hk gv (Or.inr ⟨rfl, A, B, C, E, rfl, rfl, rfl, rfl, hF⟩), s01⟩
theorem b_cell {w h : Nat} (hk : ds_ok w h) {hex : Bool} {o t : Int64} (ho : ds_sub w h o) (ht : ds_sub w h t) {al : Nat → Int32} (hm : ds_MT w h hex o t al) {fx fy gx gy : Int32} {x y : Nat} (hx : x < w) (hy : y < h) (le fo : Int32) (d1 : Int32) (d2 : Int32) (d3 : Int32) (d4 : Int64) (d5 : Int64) (tl : Int32) (ts : Int32) (tsw : Int32) (tsh : Int32) (tsx : Int32) (tso : Int64) (tst : Int64) (tfd : Nat → Int64) (ttw : Int32) (tth : Int32) (ttx : Int32) (tto : Int64) (ttt : Int64) (hg : ds_GI tl ts fx fy gx gy tsw tsh tsx tso tst tfd) (sr R : Nat → Int32) (h01 : ds_01 sr) :
    ∃ s1 s2, fX7_better_65 (nI w) (nI h) (ds_q hex) o t (nI y) (nI x) le fo 0 d1 d2 d3 d4 d5 tl ts tsw tsh tsx tso tst tfd ttw tth ttx tto ttt = some (.inl s1) ∧ fX8_better_74 ds_tabF (nI y) (nI x) (nI (ds_co o t (8 * y + x))) le fo 0 al sr R = some (.inl s2) ∧ ∃ (le fo : Int32) (d1 : Int32) (d2 : Int32) (d3 : Int32) (d4 : Int64) (d5 : Int64) (tl : Int32) (ts : Int32) (tsw : Int32) (tsh : Int32) (tsx : Int32) (tso : Int64) (tst : Int64) (tfd : Nat → Int64) (ttw : Int32) (tth : Int32) (ttx : Int32) (tto : Int64) (ttt : Int64) (sr R : Nat → Int32), s1 = (le, fo, nI (x + 1), d1, d2, d3, d4, d5, tl, ts, tsw, tsh, tsx, tso, tst, tfd, ttw, tth, ttx, tto, ttt) ∧ s2 = (le, fo, nI (x + 1), al, sr, R) ∧ ds_GI tl ts fx fy gx gy tsw tsh tsx tso tst tfd ∧ ds_01 sr := by
  obtain ⟨m0, m1, m2, m3⟩ := id hm
  obtain ⟨k1, k2, k3, k4⟩ := id hk
  obtain ⟨j1, j2, j3, j4⟩ := ins_xy hk hx hy
  have ca := p_colourAt hk o t (x := (x : Int)) (y := (y : Int)) (by omega) (by omega) (by omega) (by omega)
  rw [← z_nI, ← z_nI, ix_in hx hy] at ca
  have cp : fX6_copyFrom (nI w) (nI h) (ds_q hex) o t = some (nI w, nI h, ds_q hex, o, t) := by unfold fX6_copyFrom; rw [if_pos (q_01 hex)]
  have cl := c_lt o t (8 * y + x)
  unfold fX7_better_65 fX8_better_74
  have fin := ds_it_two (fun s : Int32 × Int32 × Int32 × Int32 × Int32 × Int32 × Int64 × Int64 × Int32 × Int32 × Int32 × Int32 × Int32 × Int64 × Int64 × (Nat → Int64) × Int32 × Int32 × Int32 × Int64 × Int64 => fX7_better_65_b (nI w) (nI h) (ds_q hex) o t (nI y) (nI x) s.1 s.2.1 s.2.2.1 s.2.2.2.1 s.2.2.2.2.1 s.2.2.2.2.2.1 s.2.2.2.2.2.2.1 s.2.2.2.2.2.2.2.1 s.2.2.2.2.2.2.2.2.1 s.2.2.2.2.2.2.2.2.2.1 s.2.2.2.2.2.2.2.2.2.2.1 s.2.2.2.2.2.2.2.2.2.2.2.1 s.2.2.2.2.2.2.2.2.2.2.2.2.1 s.2.2.2.2.2.2.2.2.2.2.2.2.2.1 s.2.2.2.2.2.2.2.2.2.2.2.2.2.2.1 s.2.2.2.2.2.2.2.2.2.2.2.2.2.2.2.1 s.2.2.2.2.2.2.2.2.2.2.2.2.2.2.2.2.1 s.2.2.2.2.2.2.2.2.2.2.2.2.2.2.2.2.2.1 s.2.2.2.2.2.2.2.2.2.2.2.2.2.2.2.2.2.2.1 s.2.2.2.2.2.2.2.2.2.2.2.2.2.2.2.2.2.2.2.1 s.2.2.2.2.2.2.2.2.2.2.2.2.2.2.2.2.2.2.2.2) (fun s : Int32 × Int32 × Int32 × (Nat → Int32) × (Nat → Int32) × (Nat → Int32) => fX8_better_74_b ds_tabF (nI y) (nI x) (nI (ds_co o t (8 * y + x))) s.1 s.2.1 s.2.2.1 s.2.2.2.1 s.2.2.2.2.1 s.2.2.2.2.2) (fun c s1 s2 => ∃ (le fo : Int32) (vv : Int32) (d1 : Int32) (d2 : Int32) (d3 : Int32) (d4 : Int64) (d5 : Int64) (tl : Int32) (ts : Int32) (tsw : Int32) (tsh : Int32) (tsx : Int32) (tso : Int64) (tst : Int64) (tfd : Nat → Int64) (ttw : Int32) (tth : Int32) (ttx : Int32) (tto : Int64) (ttt : Int64) (sr R : Nat → Int32), s1 = (le, fo, nI c, d1, d2, d3, d4, d5, tl, ts, tsw, tsh, tsx, tso, tst, tfd, ttw, tth, ttx, tto, ttt) ∧ s2 = (le, fo, nI c, upd al (3 + (8 * y + x)) vv, sr, R) ∧ ds_GI tl ts fx fy gx gy tsw tsh tsx tso tst tfd ∧ ds_01 sr) (fun r1 r2 => ∃ s1 s2, r1 = .inl s1 ∧ r2 = .inl s2 ∧ ∃ (le fo : Int32) (d1 : Int32) (d2 : Int32) (d3 : Int32) (d4 : Int64) (d5 : Int64) (tl : Int32) (ts : Int32) (tsw : Int32) (tsh : Int32) (tsx : Int32) (tso : Int64) (tst : Int64) (tfd : Nat → Int64) (ttw : Int32) (tth : Int32) (ttx : Int32) (tto : Int64) (ttt : Int64) (sr R : Nat → Int32), s1 = (le, fo, nI (x + 1), d1, d2, d3, d4, d5, tl, ts, tsw, tsh, tsx, tso, tst, tfd, ttw, tth, ttx, tto, ttt) ∧ s2 = (le, fo, nI (x + 1), al, sr, R) ∧ ds_GI tl ts fx fy gx gy tsw tsh tsx tso tst tfd ∧ ds_01 sr) 4 1000 0 (le, fo, 0, d1, d2, d3, d4, d5, tl, ts, tsw, tsh, tsx, tso, tst, tfd, ttw, tth, ttx, tto, ttt) (le, fo, 0, al, sr, R) (Nat.zero_le _) ⟨le, fo, al (3 + (8 * y + x)), d1, d2, d3, d4, d5, tl, ts, tsw, tsh, tsx, tso, tst, tfd, ttw, tth, ttx, tto, ttt, sr, R, rfl, by rw [upd_self]; rfl, hg, h01⟩ (by omega) ?_ ?_
  · obtain ⟨r1, r2, e1, e2, s1, s2, rfl, rfl, q⟩ := fin
    exact ⟨s1, s2, e1, e2, q⟩
  · rintro c s1 s2 hc ⟨le, fo, vv, d1, d2, d3, d4, d5, tl, ts, tsw, tsh, tsx, tso, tst, tfd, ttw, tth, ttx, tto, ttt, sr, R, rfl, rfl, hg, h01⟩
    left
    try dsimp only
    obtain ⟨o2, t2, e5, so2, st2, hm2⟩ := p_onecell hk ho ht hm hx hy hc
    obtain ⟨sr', e7, s01, sv⟩ := m_lays hk hm2 h01
    unfold fX7_better_65_b fX8_better_74_b fX7_better_89 fX7_better_110 fX8_better_115 fX7_better_135 fX8_better_139
    rw [show (4 : Int32) = nI 4 from rfl, if_neg (nI_ge hc (by omega)), if_neg (nI_ge hc (by omega)), ca, Option.bind_some, ix3, if_pos (in_nI (show 3 + (8 * y + x) < 350 by omega) (by omega)), nI_clamp (by omega), upd_upd, e7, nI_1]
    simp only [Option.bind_some]
    by_cases cc : c = ds_co o t (8 * y + x)
    · have cc' : nI c = nI (ds_co o t (8 * y + x)) := congrArg nI cc
      rw [if_pos cc', if_pos cc', if_pos trivial, if_pos (show le ≤ le from Int32.le_refl le), if_pos (show le ≤ le from Int32.le_refl le)]
      exact ⟨_, _, rfl, rfl, le, fo, nI c, _, _, _, _, _, _, _, _, _, _, _, _, _, _, _, _, _, _, _, _, rfl, rfl, hg, s01⟩
    · have cc' : ¬ nI c = nI (ds_co o t (8 * y + x)) := fun z => cc ((n_inj (by omega) (by omega)).mp z)
      obtain ⟨sf', fd', tw', th', tx', to', tt', e6, gv, sF⟩ := look hk (hex := hex) so2 st2 hg ttw tth ttx tto ttt
      obtain ⟨R', e8, hr⟩ := m_kinds hk hm2 s01 sv R
      rw [if_neg cc', if_neg cc', if_neg (show ¬ (1 : Int32) = 0 by decide)]
      unfold fX7_kindsIfPainted fX8_kinds
      rw [cp, Option.bind_some, p_bit (by omega) (by omega), Option.bind_some, e8, Option.bind_some]
      dsimp only
      rw [e5, Option.bind_some]
      dsimp only
      rw [e6, Option.bind_some]
      dsimp only
      rw [g_kinds hk gv, Option.bind_some, show (64 : Int32) = nI 64 from rfl, m_leaders hk hm2 hr (Nat.le_refl 64)]
      simp only [Option.bind_some]
      by_cases dd : le ≤ nI (ds_lc w h (ds_Kd w h hex o2 t2) 64)
      · rw [if_pos dd, if_pos dd]
        exact ⟨_, _, rfl, rfl, le, fo, nI c, _, _, _, _, _, _, _, _, _, _, _, _, _, _, _, _, _, _, _, _, rfl, rfl, GI_of hk gv sF, s01⟩
      · rw [if_neg dd, if_neg dd]
        exact ⟨_, _, rfl, rfl, _, _, nI c, _, _, _, _, _, _, _, _, _, _, _, _, _, _, _, _, _, _, _, _, rfl, rfl, GI_of hk gv sF, s01⟩
  · rintro s1 s2 ⟨le, fo, vv, d1, d2, d3, d4, d5, tl, ts, tsw, tsh, tsx, tso, tst, tfd, ttw, tth, ttx, tto, ttt, sr, R, rfl, rfl, hg, h01⟩
    try dsimp only
    unfold fX7_better_65_b fX8_better_74_b fX7_better_141 fX8_better_145
    rw [if_pos (by decide), if_pos (by decide), ix3, if_pos (in_nI (show 3 + (8 * y + x) < 350 by omega) (by omega)), nI_clamp (by omega), upd_upd, show nI (ds_co o t (8 * y + x)) = al (3 + (8 * y + x)) from (m3 _ j4).symm, upd_self, nI_1]
    exact ⟨_, _, rfl, rfl, _, _, rfl, rfl, le, fo, _, _, _, _, _, _, _, _, _, _, _, _, _, _, _, _, _, _, _, _, rfl, rfl, hg, h01⟩
theorem b_row {w h : Nat} (hk : ds_ok w h) {hex : Bool} {o t : Int64} (ho : ds_sub w h o) (ht : ds_sub w h t) {al : Nat → Int32} (hm : ds_MT w h hex o t al) {fx fy gx gy : Int32} {y : Nat} (hy : y < h) (le fo : Int32) (d1 : Int32) (d2 : Int32) (d3 : Int32) (d4 : Int64) (d5 : Int64) (tl : Int32) (ts : Int32) (tsw : Int32) (tsh : Int32) (tsx : Int32) (tso : Int64) (tst : Int64) (tfd : Nat → Int64) (ttw : Int32) (tth : Int32) (ttx : Int32) (tto : Int64) (ttt : Int64) (hg : ds_GI tl ts fx fy gx gy tsw tsh tsx tso tst tfd) (sr R : Nat → Int32) (h01 : ds_01 sr) :
    ∃ s1 s2, fX7_better_53 (nI w) (nI h) (ds_q hex) o t (nI y) le fo 0 d1 d2 d3 d4 d5 tl ts tsw tsh tsx tso tst tfd ttw tth ttx tto ttt = some (.inl s1) ∧ fX8_better_51 ds_tabF (nI y) le fo 0 al sr R = some (.inl s2) ∧ ∃ (le fo : Int32) (d1 : Int32) (d2 : Int32) (d3 : Int32) (d4 : Int64) (d5 : Int64) (tl : Int32) (ts : Int32) (tsw : Int32) (tsh : Int32) (tsx : Int32) (tso : Int64) (tst : Int64) (tfd : Nat → Int64) (ttw : Int32) (tth : Int32) (ttx : Int32) (tto : Int64) (ttt : Int64) (sr R : Nat → Int32), s1 = (le, fo, nI (y + 1), d1, d2, d3, d4, d5, tl, ts, tsw, tsh, tsx, tso, tst, tfd, ttw, tth, ttx, tto, ttt) ∧ s2 = (le, fo, nI (y + 1), al, sr, R) ∧ ds_GI tl ts fx fy gx gy tsw tsh tsx tso tst tfd ∧ ds_01 sr := by
  obtain ⟨m0, m1, m2, m3⟩ := id hm
  obtain ⟨k1, k2, k3, k4⟩ := id hk
  unfold fX7_better_53 fX8_better_51
  have fin := ds_it_two (fun s : Int32 × Int32 × Int32 × Int32 × Int32 × Int32 × Int64 × Int64 × Int32 × Int32 × Int32 × Int32 × Int32 × Int64 × Int64 × (Nat → Int64) × Int32 × Int32 × Int32 × Int64 × Int64 => fX7_better_53_b (nI w) (nI h) (ds_q hex) o t (nI y) s.1 s.2.1 s.2.2.1 s.2.2.2.1 s.2.2.2.2.1 s.2.2.2.2.2.1 s.2.2.2.2.2.2.1 s.2.2.2.2.2.2.2.1 s.2.2.2.2.2.2.2.2.1 s.2.2.2.2.2.2.2.2.2.1 s.2.2.2.2.2.2.2.2.2.2.1 s.2.2.2.2.2.2.2.2.2.2.2.1 s.2.2.2.2.2.2.2.2.2.2.2.2.1 s.2.2.2.2.2.2.2.2.2.2.2.2.2.1 s.2.2.2.2.2.2.2.2.2.2.2.2.2.2.1 s.2.2.2.2.2.2.2.2.2.2.2.2.2.2.2.1 s.2.2.2.2.2.2.2.2.2.2.2.2.2.2.2.2.1 s.2.2.2.2.2.2.2.2.2.2.2.2.2.2.2.2.2.1 s.2.2.2.2.2.2.2.2.2.2.2.2.2.2.2.2.2.2.1 s.2.2.2.2.2.2.2.2.2.2.2.2.2.2.2.2.2.2.2.1 s.2.2.2.2.2.2.2.2.2.2.2.2.2.2.2.2.2.2.2.2) (fun s : Int32 × Int32 × Int32 × (Nat → Int32) × (Nat → Int32) × (Nat → Int32) => fX8_better_51_b ds_tabF (nI y) s.1 s.2.1 s.2.2.1 s.2.2.2.1 s.2.2.2.2.1 s.2.2.2.2.2) (fun x s1 s2 => ∃ (le fo : Int32) (d1 : Int32) (d2 : Int32) (d3 : Int32) (d4 : Int64) (d5 : Int64) (tl : Int32) (ts : Int32) (tsw : Int32) (tsh : Int32) (tsx : Int32) (tso : Int64) (tst : Int64) (tfd : Nat → Int64) (ttw : Int32) (tth : Int32) (ttx : Int32) (tto : Int64) (ttt : Int64) (sr R : Nat → Int32), s1 = (le, fo, nI x, d1, d2, d3, d4, d5, tl, ts, tsw, tsh, tsx, tso, tst, tfd, ttw, tth, ttx, tto, ttt) ∧ s2 = (le, fo, nI x, al, sr, R) ∧ ds_GI tl ts fx fy gx gy tsw tsh tsx tso tst tfd ∧ ds_01 sr) (fun r1 r2 => ∃ s1 s2, r1 = .inl s1 ∧ r2 = .inl s2 ∧ ∃ (le fo : Int32) (d1 : Int32) (d2 : Int32) (d3 : Int32) (d4 : Int64) (d5 : Int64) (tl : Int32) (ts : Int32) (tsw : Int32) (tsh : Int32) (tsx : Int32) (tso : Int64) (tst : Int64) (tfd : Nat → Int64) (ttw : Int32) (tth : Int32) (ttx : Int32) (tto : Int64) (ttt : Int64) (sr R : Nat → Int32), s1 = (le, fo, nI (y + 1), d1, d2, d3, d4, d5, tl, ts, tsw, tsh, tsx, tso, tst, tfd, ttw, tth, ttx, tto, ttt) ∧ s2 = (le, fo, nI (y + 1), al, sr, R) ∧ ds_GI tl ts fx fy gx gy tsw tsh tsx tso tst tfd ∧ ds_01 sr) w 1000 0 (le, fo, 0, d1, d2, d3, d4, d5, tl, ts, tsw, tsh, tsx, tso, tst, tfd, ttw, tth, ttx, tto, ttt) (le, fo, 0, al, sr, R) (Nat.zero_le _) ⟨le, fo, d1, d2, d3, d4, d5, tl, ts, tsw, tsh, tsx, tso, tst, tfd, ttw, tth, ttx, tto, ttt, sr, R, rfl, rfl, hg, h01⟩ (by omega) ?_ ?_
  · obtain ⟨r1, r2, e1, e2, s1, s2, rfl, rfl, q⟩ := fin
    exact ⟨s1, s2, e1, e2, q⟩
  · rintro x s1 s2 hx ⟨le, fo, d1, d2, d3, d4, d5, tl, ts, tsw, tsh, tsx, tso, tst, tfd, ttw, tth, ttx, tto, ttt, sr, R, rfl, rfl, hg, h01⟩
    left
    try dsimp only
    have mc := m_colour hk hm (x := (x : Int)) (y := (y : Int)) (by omega) (by omega) (by omega) (by omega)
    rw [← z_nI, ← z_nI, ix_in hx hy] at mc
    obtain ⟨s1, s2, e1, e2, q⟩ := b_cell hk ho ht hm hx hy le fo d1 d2 d3 d4 d5 tl ts tsw tsh tsx tso tst tfd ttw tth ttx tto ttt hg sr R h01
    unfold fX7_better_53_b fX8_better_51_b
    rw [l_0, m0, if_neg (nI_ge hx (by omega)), if_neg (nI_ge hx (by omega)), mc, Option.bind_some, e1, e2]
    exact ⟨s1, s2, rfl, rfl, q⟩
  · rintro s1 s2 ⟨le, fo, d1, d2, d3, d4, d5, tl, ts, tsw, tsh, tsx, tso, tst, tfd, ttw, tth, ttx, tto, ttt, sr, R, rfl, rfl, hg, h01⟩
    try dsimp only
    unfold fX7_better_53_b fX8_better_51_b fX7_better_147 fX8_better_167
    rw [l_0, m0, if_pos (nI_le (Nat.le_refl _) (by omega)), if_pos (nI_le (Nat.le_refl _) (by omega)), nI_1]
    exact ⟨_, _, rfl, rfl, _, _, rfl, rfl, le, fo, _, _, _, _, _, _, _, _, _, _, _, _, _, _, _, _, _, _, _, _, rfl, rfl, hg, h01⟩
theorem q_better {w h : Nat} (hk : ds_ok w h) {hex : Bool} {o t : Int64} (ho : ds_sub w h o) (ht : ds_sub w h t) {al : Nat → Int32} (hm : ds_MT w h hex o t al) {ax ay bx by_ : Int32} {l : Int32} {s : Int32} {sw : Int32} {sh : Int32} {sx : Int32} {so : Int64} {st : Int64} {fd : Nat → Int64} {tw : Int32} {th : Int32} {tx : Int32} {to : Int64} {tt : Int64} (hG : ds_GI l s ax ay bx by_ sw sh sx so st fd) (d1 : Int32) (d2 : Int32) (d3 : Int32) (d4 : Int64) (d5 : Int64) {fx fy gx gy : Int32} {tl : Int32} {ts : Int32} {tsw : Int32} {tsh : Int32} {tsx : Int32} {tso : Int64} {tst : Int64} {tfd : Nat → Int64} {ttw : Int32} {tth : Int32} {ttx : Int32} {tto : Int64} {ttt : Int64} (hg : ds_GI tl ts fx fy gx gy tsw tsh tsx tso tst tfd) {sr : Nat → Int32} (h01 : ds_01 sr) (R : Nat → Int32) :
    ∃ (v : Int32) (l' : Int32) (s' : Int32) (sw' : Int32) (sh' : Int32) (sx' : Int32) (so' : Int64) (st' : Int64) (fd' : Nat → Int64) (tw' : Int32) (th' : Int32) (tx' : Int32) (to' : Int64) (tt' : Int64) (d1' : Int32) (d2' : Int32) (d3' : Int32) (d4' : Int64) (d5' : Int64) (tl' : Int32) (ts' : Int32) (tsw' : Int32) (tsh' : Int32) (tsx' : Int32) (tso' : Int64) (tst' : Int64) (tfd' : Nat → Int64) (ttw' : Int32) (tth' : Int32) (ttx' : Int32) (tto' : Int64) (ttt' : Int64) (sr' R' : Nat → Int32), fX7_better (nI w) (nI h) (ds_q hex) o t l s sw sh sx so st fd tw th tx to tt d1 d2 d3 d4 d5 tl ts tsw tsh tsx tso tst tfd ttw tth ttx tto ttt = some (v, l', s', sw', sh', sx', so', st', fd', tw', th', tx', to', tt', d1', d2', d3', d4', d5', tl', ts', tsw', tsh', tsx', tso', tst', tfd', ttw', tth', ttx', tto', ttt') ∧ fX8_better al ds_tabF sr R = some (v, 0, al, sr', R') ∧ ds_GI l' s' ax ay bx by_ sw' sh' sx' so' st' fd' ∧ ds_GI tl' ts' fx fy gx gy tsw' tsh' tsx' tso' tst' tfd' ∧ ds_01 sr' := by
  obtain ⟨m0, m1, m2, m3⟩ := id hm
  obtain ⟨k1, k2, k3, k4⟩ := id hk
  unfold fX7_better fX8_better fX6_cells
  rw [Option.bind_some, l_0, l_1, m0, m1]
  by_cases c : nI w * nI h ≤ 36
  rotate_left
  · rw [if_neg c, if_neg c]
    exact ⟨_, _, _, _, _, _, _, _, _, _, _, _, _, _, _, _, _, _, _, _, _, _, _, _, _, _, _, _, _, _, _, _, _, _, rfl, rfl, hG, hg, h01⟩
  obtain ⟨sf', fd', tw', th', tx', to', tt', e6, gv, sF⟩ := look hk (hex := hex) ho ht hG tw th tx to tt
  obtain ⟨sr', e7, s01, sv⟩ := m_lays hk hm h01
  obtain ⟨R', e8, hr⟩ := m_kinds hk hm s01 sv R
  rw [if_pos c, if_pos c, e6, Option.bind_some, e7, Option.bind_some]
  dsimp only
  unfold fX8_kinds
  rw [g_kinds hk gv, Option.bind_some, e8, Option.bind_some, show (64 : Int32) = nI 64 from rfl, m_leaders hk hm hr (Nat.le_refl 64), Option.bind_some, Option.bind_some]
  dsimp only
  unfold fX7_better_41 fX8_better_38
  have fin := ds_it_two (fun s : Int32 × Int32 × Int32 × Int32 × Int32 × Int32 × Int64 × Int64 × Int32 × Int32 × Int32 × Int32 × Int32 × Int64 × Int64 × (Nat → Int64) × Int32 × Int32 × Int32 × Int64 × Int64 => fX7_better_41_b (nI w) (nI h) (ds_q hex) o t 1 sf' (nI w) (nI h) (ds_q hex) o t fd' tw' th' tx' to' tt' s.1 s.2.1 s.2.2.1 s.2.2.2.1 s.2.2.2.2.1 s.2.2.2.2.2.1 s.2.2.2.2.2.2.1 s.2.2.2.2.2.2.2.1 s.2.2.2.2.2.2.2.2.1 s.2.2.2.2.2.2.2.2.2.1 s.2.2.2.2.2.2.2.2.2.2.1 s.2.2.2.2.2.2.2.2.2.2.2.1 s.2.2.2.2.2.2.2.2.2.2.2.2.1 s.2.2.2.2.2.2.2.2.2.2.2.2.2.1 s.2.2.2.2.2.2.2.2.2.2.2.2.2.2.1 s.2.2.2.2.2.2.2.2.2.2.2.2.2.2.2.1 s.2.2.2.2.2.2.2.2.2.2.2.2.2.2.2.2.1 s.2.2.2.2.2.2.2.2.2.2.2.2.2.2.2.2.2.1 s.2.2.2.2.2.2.2.2.2.2.2.2.2.2.2.2.2.2.1 s.2.2.2.2.2.2.2.2.2.2.2.2.2.2.2.2.2.2.2.1 s.2.2.2.2.2.2.2.2.2.2.2.2.2.2.2.2.2.2.2.2) (fun s : Int32 × Int32 × Int32 × (Nat → Int32) × (Nat → Int32) × (Nat → Int32) => fX8_better_38_b 0 ds_tabF s.1 s.2.1 s.2.2.1 s.2.2.2.1 s.2.2.2.2.1 s.2.2.2.2.2) (fun y s1 s2 => ∃ (le fo : Int32) (d1 : Int32) (d2 : Int32) (d3 : Int32) (d4 : Int64) (d5 : Int64) (tl : Int32) (ts : Int32) (tsw : Int32) (tsh : Int32) (tsx : Int32) (tso : Int64) (tst : Int64) (tfd : Nat → Int64) (ttw : Int32) (tth : Int32) (ttx : Int32) (tto : Int64) (ttt : Int64) (sr R : Nat → Int32), s1 = (le, fo, nI y, d1, d2, d3, d4, d5, tl, ts, tsw, tsh, tsx, tso, tst, tfd, ttw, tth, ttx, tto, ttt) ∧ s2 = (le, fo, nI y, al, sr, R) ∧ ds_GI tl ts fx fy gx gy tsw tsh tsx tso tst tfd ∧ ds_01 sr) (fun r1 r2 => ∃ (v : Int32) (d1 : Int32) (d2 : Int32) (d3 : Int32) (d4 : Int64) (d5 : Int64) (tl : Int32) (ts : Int32) (tsw : Int32) (tsh : Int32) (tsx : Int32) (tso : Int64) (tst : Int64) (tfd : Nat → Int64) (ttw : Int32) (tth : Int32) (ttx : Int32) (tto : Int64) (ttt : Int64) (sr R : Nat → Int32), r1 = (v, 1, sf', nI w, nI h, ds_q hex, o, t, fd', tw', th', tx', to', tt', d1, d2, d3, d4, d5, tl, ts, tsw, tsh, tsx, tso, tst, tfd, ttw, tth, ttx, tto, ttt) ∧ r2 = (v, 0, al, sr, R) ∧ ds_GI tl ts fx fy gx gy tsw tsh tsx tso tst tfd ∧ ds_01 sr) h 1000 0 (nI (ds_lc w h (ds_Kd w h hex o t) 64), -1, 0, d1, d2, d3, d4, d5, tl, ts, tsw, tsh, tsx, tso, tst, tfd, ttw, tth, ttx, tto, ttt) (nI (ds_lc w h (ds_Kd w h hex o t) 64), -1, 0, al, sr', R') (Nat.zero_le _) ⟨_, _, d1, d2, d3, d4, d5, tl, ts, tsw, tsh, tsx, tso, tst, tfd, ttw, tth, ttx, tto, ttt, _, _, rfl, rfl, hg, s01⟩ (by omega) ?_ ?_
  · obtain ⟨r1, r2, e1, e2, v, d1, d2, d3, d4, d5, tl, ts, tsw, tsh, tsx, tso, tst, tfd, ttw, tth, ttx, tto, ttt, sr2, R2, rfl, rfl, q1, q2⟩ := fin
    exact ⟨_, _, _, _, _, _, _, _, _, _, _, _, _, _, _, _, _, _, _, _, _, _, _, _, _, _, _, _, _, _, _, _, _, _, e1, e2, GI_of hk gv sF, q1, q2⟩
  · rintro y s1 s2 hy ⟨le, fo, d1, d2, d3, d4, d5, tl, ts, tsw, tsh, tsx, tso, tst, tfd, ttw, tth, ttx, tto, ttt, sr, R, rfl, rfl, hg, h01⟩
    left
    try dsimp only
    obtain ⟨s1, s2, e1, e2, q⟩ := b_row hk ho ht hm hy le fo d1 d2 d3 d4 d5 tl ts tsw tsh tsx tso tst tfd ttw tth ttx tto ttt hg sr R h01
    unfold fX7_better_41_b fX8_better_38_b
    rw [l_1, m1, if_neg (nI_ge hy (by omega)), if_neg (nI_ge hy (by omega)), e1, e2]
    exact ⟨s1, s2, rfl, rfl, q⟩
  · rintro s1 s2 ⟨le, fo, d1, d2, d3, d4, d5, tl, ts, tsw, tsh, tsx, tso, tst, tfd, ttw, tth, ttx, tto, ttt, sr, R, rfl, rfl, hg, h01⟩
    try dsimp only
    unfold fX7_better_41_b fX8_better_38_b
    rw [l_1, m1, if_pos (nI_le (Nat.le_refl _) (by omega)), if_pos (nI_le (Nat.le_refl _) (by omega))]
    exact ⟨_, _, rfl, rfl, _, _, _, _, _, _, _, _, _, _, _, _, _, _, _, _, _, _, _, _, _, rfl, rfl, hg, h01⟩
