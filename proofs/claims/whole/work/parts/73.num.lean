/-! numbers asked for that need no symmetries -/
theorem q_cnt0 {w h : Nat} (hk : ds_ok w h) {hex : Bool} {o t : Int64} (lk sf fx fy sx sy sw sh shx : Int32) (so st : Int64) (fd : Nat → Int64) (tw th tx : Int32) (to tt : Int64) {al sr : Nat → Int32} (hm : ds_MT w h hex o t al) (h01 : ds_01 sr) (R : Nat → Int32) (pz f1 f2 f3 f4 : Int32) : ∃ v, fX7_count (nI w) (nI h) (ds_q hex) o t lk sf fx fy sx sy sw sh shx so st fd tw th tx to tt (al 67) pz 0 = some (v, lk, sf, fx, fy, sx, sy, sw, sh, shx, so, st, fd, tw, th, tx, to, tt) ∧ ∃ a b c d sr' R', fX8_count pz f1 f2 f3 f4 al ds_tabF sr R 0 = some (v, 0, a, b, c, d, sr', R') ∧ ds_01 sr' := by
  obtain ⟨sr', e2, s01, sv⟩ := m_lays hk hm h01
  obtain ⟨m0, m1, m2, m3⟩ := id hm
  unfold fX7_count fX8_count
  rw [e2, Option.bind_some]
  rw [if_pos (show (0 : Int32) < 20 by decide)]
  unfold fX7_count_32
  rw [if_pos (show (0 : Int32) < 3 by decide)]
  unfold fX7_count_43
  rw [if_neg (show ¬ (0 : Int32) = 14 by decide)]
  unfold fX7_count_57
  rw [if_pos (rfl : (0 : Int32) = 0)]
  rw [if_pos (rfl : (0 : Int32) = 0)]
  unfold fX8_count_84
  rw [if_pos (show ds_in (0 : Int32) 350 = true by decide), l_0, m0]
  exact ⟨_, rfl, _, _, _, _, sr', _, rfl, s01⟩
theorem q_cnt1 {w h : Nat} (hk : ds_ok w h) {hex : Bool} {o t : Int64} (lk sf fx fy sx sy sw sh shx : Int32) (so st : Int64) (fd : Nat → Int64) (tw th tx : Int32) (to tt : Int64) {al sr : Nat → Int32} (hm : ds_MT w h hex o t al) (h01 : ds_01 sr) (R : Nat → Int32) (pz f1 f2 f3 f4 : Int32) : ∃ v, fX7_count (nI w) (nI h) (ds_q hex) o t lk sf fx fy sx sy sw sh shx so st fd tw th tx to tt (al 67) pz 1 = some (v, lk, sf, fx, fy, sx, sy, sw, sh, shx, so, st, fd, tw, th, tx, to, tt) ∧ ∃ a b c d sr' R', fX8_count pz f1 f2 f3 f4 al ds_tabF sr R 1 = some (v, 0, a, b, c, d, sr', R') ∧ ds_01 sr' := by
  obtain ⟨sr', e2, s01, sv⟩ := m_lays hk hm h01
  obtain ⟨m0, m1, m2, m3⟩ := id hm
  unfold fX7_count fX8_count
  rw [e2, Option.bind_some]
  rw [if_pos (show (1 : Int32) < 20 by decide)]
  unfold fX7_count_32
  rw [if_pos (show (1 : Int32) < 3 by decide)]
  unfold fX7_count_43
  rw [if_neg (show ¬ (1 : Int32) = 14 by decide)]
  unfold fX7_count_57
  rw [if_neg (show ¬ (1 : Int32) = 0 by decide), if_pos (rfl : (1 : Int32) = 1)]
  rw [if_neg (show ¬ (1 : Int32) = 0 by decide), if_pos (rfl : (1 : Int32) = 1)]
  unfold fX8_count_84
  rw [if_pos (show ds_in (1 : Int32) 350 = true by decide), l_1, m1]
  exact ⟨_, rfl, _, _, _, _, sr', _, rfl, s01⟩
theorem q_cnt2 {w h : Nat} (hk : ds_ok w h) {hex : Bool} {o t : Int64} (lk sf fx fy sx sy sw sh shx : Int32) (so st : Int64) (fd : Nat → Int64) (tw th tx : Int32) (to tt : Int64) {al sr : Nat → Int32} (hm : ds_MT w h hex o t al) (h01 : ds_01 sr) (R : Nat → Int32) (pz f1 f2 f3 f4 : Int32) : ∃ v, fX7_count (nI w) (nI h) (ds_q hex) o t lk sf fx fy sx sy sw sh shx so st fd tw th tx to tt (al 67) pz 2 = some (v, lk, sf, fx, fy, sx, sy, sw, sh, shx, so, st, fd, tw, th, tx, to, tt) ∧ ∃ a b c d sr' R', fX8_count pz f1 f2 f3 f4 al ds_tabF sr R 2 = some (v, 0, a, b, c, d, sr', R') ∧ ds_01 sr' := by
  obtain ⟨sr', e2, s01, sv⟩ := m_lays hk hm h01
  obtain ⟨m0, m1, m2, m3⟩ := id hm
  unfold fX7_count fX8_count
  rw [e2, Option.bind_some]
  rw [if_pos (show (2 : Int32) < 20 by decide)]
  unfold fX7_count_32
  rw [if_pos (show (2 : Int32) < 3 by decide)]
  unfold fX7_count_43
  rw [if_neg (show ¬ (2 : Int32) = 14 by decide)]
  unfold fX7_count_57
  rw [if_neg (show ¬ (2 : Int32) = 0 by decide), if_neg (show ¬ (2 : Int32) = 1 by decide), if_pos (rfl : (2 : Int32) = 2)]
  rw [if_neg (show ¬ (2 : Int32) = 0 by decide), if_neg (show ¬ (2 : Int32) = 1 by decide), if_pos (rfl : (2 : Int32) = 2)]
  unfold fX8_count_84
  rw [if_pos (show ds_in (2 : Int32) 350 = true by decide), l_2, m2]
  cases hex
  · exact ⟨_, rfl, _, _, _, _, sr', _, rfl, s01⟩
  · exact ⟨_, rfl, _, _, _, _, sr', _, rfl, s01⟩
theorem q_cnt11 {w h : Nat} (hk : ds_ok w h) {hex : Bool} {o t : Int64} (lk sf fx fy sx sy sw sh shx : Int32) (so st : Int64) (fd : Nat → Int64) (tw th tx : Int32) (to tt : Int64) {al sr : Nat → Int32} (hm : ds_MT w h hex o t al) (h01 : ds_01 sr) (R : Nat → Int32) (pz f1 f2 f3 f4 : Int32) : ∃ v, fX7_count (nI w) (nI h) (ds_q hex) o t lk sf fx fy sx sy sw sh shx so st fd tw th tx to tt (al 67) pz 11 = some (v, lk, sf, fx, fy, sx, sy, sw, sh, shx, so, st, fd, tw, th, tx, to, tt) ∧ ∃ a b c d sr' R', fX8_count pz f1 f2 f3 f4 al ds_tabF sr R 11 = some (v, 0, a, b, c, d, sr', R') ∧ ds_01 sr' := by
  obtain ⟨sr', e2, s01, sv⟩ := m_lays hk hm h01
  obtain ⟨m0, m1, m2, m3⟩ := id hm
  unfold fX7_count fX8_count
  rw [e2, Option.bind_some]
  rw [if_pos (show (11 : Int32) < 20 by decide)]
  unfold fX7_count_32
  rw [if_neg (show ¬ (11 : Int32) < 3 by decide), if_neg (show ¬ (11 : Int32) ≤ 10 by decide)]
  unfold fX7_count_43
  rw [if_neg (show ¬ (11 : Int32) = 14 by decide)]
  unfold fX7_count_57
  rw [if_neg (show ¬ (11 : Int32) = 0 by decide), if_neg (show ¬ (11 : Int32) = 1 by decide), if_neg (show ¬ (11 : Int32) = 2 by decide), if_neg (show ¬ (11 : Int32) = 3 by decide), if_neg (show ¬ (11 : Int32) = 4 by decide), if_neg (show ¬ (11 : Int32) = 5 by decide), if_neg (show ¬ (11 : Int32) = 6 by decide), if_neg (show ¬ (11 : Int32) = 7 by decide), if_neg (show ¬ (11 : Int32) = 8 by decide), if_neg (show ¬ (11 : Int32) = 9 by decide), if_neg (show ¬ (11 : Int32) = 10 by decide), if_pos (rfl : (11 : Int32) = 11)]
  rw [if_neg (show ¬ (11 : Int32) = 0 by decide), if_neg (show ¬ (11 : Int32) = 1 by decide), if_neg (show ¬ (11 : Int32) = 2 by decide), if_neg (show ¬ (11 : Int32) = 3 by decide), if_neg (show ¬ (11 : Int32) = 4 by decide), if_neg (show ¬ (11 : Int32) = 5 by decide), if_neg (show ¬ (11 : Int32) = 6 by decide), if_neg (show ¬ (11 : Int32) = 7 by decide), if_neg (show ¬ (11 : Int32) = 8 by decide), if_neg (show ¬ (11 : Int32) = 9 by decide), if_neg (show ¬ (11 : Int32) = 10 by decide), if_pos (rfl : (11 : Int32) = 11)]
  obtain ⟨v, q, u1, u2, u3⟩ := g_used hk hm
  rw [u1, Option.bind_some, u2, Option.bind_some, u3, Option.bind_some]
  exact ⟨_, rfl, _, _, _, _, sr', _, rfl, s01⟩
theorem q_cnt12 {w h : Nat} (hk : ds_ok w h) {hex : Bool} {o t : Int64} (lk sf fx fy sx sy sw sh shx : Int32) (so st : Int64) (fd : Nat → Int64) (tw th tx : Int32) (to tt : Int64) {al sr : Nat → Int32} (hm : ds_MT w h hex o t al) (h01 : ds_01 sr) (R : Nat → Int32) (pz f1 f2 f3 f4 : Int32) : ∃ v, fX7_count (nI w) (nI h) (ds_q hex) o t lk sf fx fy sx sy sw sh shx so st fd tw th tx to tt (al 67) pz 12 = some (v, lk, sf, fx, fy, sx, sy, sw, sh, shx, so, st, fd, tw, th, tx, to, tt) ∧ ∃ a b c d sr' R', fX8_count pz f1 f2 f3 f4 al ds_tabF sr R 12 = some (v, 0, a, b, c, d, sr', R') ∧ ds_01 sr' := by
  obtain ⟨sr', e2, s01, sv⟩ := m_lays hk hm h01
  obtain ⟨m0, m1, m2, m3⟩ := id hm
  unfold fX7_count fX8_count
  rw [e2, Option.bind_some]
  rw [if_pos (show (12 : Int32) < 20 by decide)]
  unfold fX7_count_32
  rw [if_neg (show ¬ (12 : Int32) < 3 by decide), if_neg (show ¬ (12 : Int32) ≤ 10 by decide)]
  unfold fX7_count_43
  rw [if_neg (show ¬ (12 : Int32) = 14 by decide)]
  unfold fX7_count_57
  rw [if_neg (show ¬ (12 : Int32) = 0 by decide), if_neg (show ¬ (12 : Int32) = 1 by decide), if_neg (show ¬ (12 : Int32) = 2 by decide), if_neg (show ¬ (12 : Int32) = 3 by decide), if_neg (show ¬ (12 : Int32) = 4 by decide), if_neg (show ¬ (12 : Int32) = 5 by decide), if_neg (show ¬ (12 : Int32) = 6 by decide), if_neg (show ¬ (12 : Int32) = 7 by decide), if_neg (show ¬ (12 : Int32) = 8 by decide), if_neg (show ¬ (12 : Int32) = 9 by decide), if_neg (show ¬ (12 : Int32) = 10 by decide), if_neg (show ¬ (12 : Int32) = 11 by decide), if_pos (rfl : (12 : Int32) = 12)]
  rw [if_neg (show ¬ (12 : Int32) = 0 by decide), if_neg (show ¬ (12 : Int32) = 1 by decide), if_neg (show ¬ (12 : Int32) = 2 by decide), if_neg (show ¬ (12 : Int32) = 3 by decide), if_neg (show ¬ (12 : Int32) = 4 by decide), if_neg (show ¬ (12 : Int32) = 5 by decide), if_neg (show ¬ (12 : Int32) = 6 by decide), if_neg (show ¬ (12 : Int32) = 7 by decide), if_neg (show ¬ (12 : Int32) = 8 by decide), if_neg (show ¬ (12 : Int32) = 9 by decide), if_neg (show ¬ (12 : Int32) = 10 by decide), if_neg (show ¬ (12 : Int32) = 11 by decide), if_pos (rfl : (12 : Int32) = 12)]
  exact ⟨_, rfl, _, _, _, _, sr', _, rfl, s01⟩
theorem q_cnt13 {w h : Nat} (hk : ds_ok w h) {hex : Bool} {o t : Int64} (lk sf fx fy sx sy sw sh shx : Int32) (so st : Int64) (fd : Nat → Int64) (tw th tx : Int32) (to tt : Int64) {al sr : Nat → Int32} (hm : ds_MT w h hex o t al) (h01 : ds_01 sr) (R : Nat → Int32) (pz f1 f2 f3 f4 : Int32) : ∃ v, fX7_count (nI w) (nI h) (ds_q hex) o t lk sf fx fy sx sy sw sh shx so st fd tw th tx to tt (al 67) pz 13 = some (v, lk, sf, fx, fy, sx, sy, sw, sh, shx, so, st, fd, tw, th, tx, to, tt) ∧ ∃ a b c d sr' R', fX8_count pz f1 f2 f3 f4 al ds_tabF sr R 13 = some (v, 0, a, b, c, d, sr', R') ∧ ds_01 sr' := by
  obtain ⟨sr', e2, s01, sv⟩ := m_lays hk hm h01
  obtain ⟨m0, m1, m2, m3⟩ := id hm
  unfold fX7_count fX8_count
  rw [e2, Option.bind_some]
  rw [if_pos (show (13 : Int32) < 20 by decide)]
  unfold fX7_count_32
  rw [if_neg (show ¬ (13 : Int32) < 3 by decide), if_neg (show ¬ (13 : Int32) ≤ 10 by decide)]
  unfold fX7_count_43
  rw [if_neg (show ¬ (13 : Int32) = 14 by decide)]
  unfold fX7_count_57
  rw [if_neg (show ¬ (13 : Int32) = 0 by decide), if_neg (show ¬ (13 : Int32) = 1 by decide), if_neg (show ¬ (13 : Int32) = 2 by decide), if_neg (show ¬ (13 : Int32) = 3 by decide), if_neg (show ¬ (13 : Int32) = 4 by decide), if_neg (show ¬ (13 : Int32) = 5 by decide), if_neg (show ¬ (13 : Int32) = 6 by decide), if_neg (show ¬ (13 : Int32) = 7 by decide), if_neg (show ¬ (13 : Int32) = 8 by decide), if_neg (show ¬ (13 : Int32) = 9 by decide), if_neg (show ¬ (13 : Int32) = 10 by decide), if_neg (show ¬ (13 : Int32) = 11 by decide), if_neg (show ¬ (13 : Int32) = 12 by decide), if_pos (rfl : (13 : Int32) = 13)]
  rw [if_neg (show ¬ (13 : Int32) = 0 by decide), if_neg (show ¬ (13 : Int32) = 1 by decide), if_neg (show ¬ (13 : Int32) = 2 by decide), if_neg (show ¬ (13 : Int32) = 3 by decide), if_neg (show ¬ (13 : Int32) = 4 by decide), if_neg (show ¬ (13 : Int32) = 5 by decide), if_neg (show ¬ (13 : Int32) = 6 by decide), if_neg (show ¬ (13 : Int32) = 7 by decide), if_neg (show ¬ (13 : Int32) = 8 by decide), if_neg (show ¬ (13 : Int32) = 9 by decide), if_neg (show ¬ (13 : Int32) = 10 by decide), if_neg (show ¬ (13 : Int32) = 11 by decide), if_neg (show ¬ (13 : Int32) = 12 by decide), if_pos (rfl : (13 : Int32) = 13)]
  exact ⟨_, rfl, _, _, _, _, sr', _, rfl, s01⟩
theorem q_cnt20 {w h : Nat} (hk : ds_ok w h) {hex : Bool} {o t : Int64} (lk sf fx fy sx sy sw sh shx : Int32) (so st : Int64) (fd : Nat → Int64) (tw th tx : Int32) (to tt : Int64) {al sr : Nat → Int32} (hm : ds_MT w h hex o t al) (h01 : ds_01 sr) (R : Nat → Int32) (pz f1 f2 f3 f4 : Int32) : ∃ v, fX7_count (nI w) (nI h) (ds_q hex) o t lk sf fx fy sx sy sw sh shx so st fd tw th tx to tt (al 67) pz 20 = some (v, lk, sf, fx, fy, sx, sy, sw, sh, shx, so, st, fd, tw, th, tx, to, tt) ∧ ∃ a b c d sr' R', fX8_count pz f1 f2 f3 f4 al ds_tabF sr R 20 = some (v, 0, a, b, c, d, sr', R') ∧ ds_01 sr' := by
  obtain ⟨sr', e2, s01, sv⟩ := m_lays hk hm h01
  obtain ⟨m0, m1, m2, m3⟩ := id hm
  unfold fX7_count fX8_count
  rw [e2, Option.bind_some]
  rw [if_neg (show ¬ (20 : Int32) < 20 by decide), if_neg (show ¬ (24 : Int32) ≤ 20 by decide), if_neg (show ¬ (20 : Int32) = 0 by decide), if_neg (show ¬ (20 : Int32) = 1 by decide), if_neg (show ¬ (20 : Int32) = 2 by decide), if_neg (show ¬ (20 : Int32) = 3 by decide), if_neg (show ¬ (20 : Int32) = 4 by decide), if_neg (show ¬ (20 : Int32) = 5 by decide), if_neg (show ¬ (20 : Int32) = 6 by decide), if_neg (show ¬ (20 : Int32) = 7 by decide), if_neg (show ¬ (20 : Int32) = 8 by decide), if_neg (show ¬ (20 : Int32) = 9 by decide), if_neg (show ¬ (20 : Int32) = 10 by decide), if_neg (show ¬ (20 : Int32) = 11 by decide), if_neg (show ¬ (20 : Int32) = 12 by decide), if_neg (show ¬ (20 : Int32) = 13 by decide), if_neg (show ¬ (20 : Int32) = 14 by decide)]
  obtain ⟨m, g1, g2, g3⟩ := p_ofColour hk o t (c := 0) (by omega)
  rw [show (20 : Int32) - 20 = nI 0 from rfl, g1, Option.bind_some, p_bitCount, Option.bind_some, m_cellsOf hk hm (by omega), Option.bind_some, show fX8_in (20 : Int32) 20 23 = some 1 by decide, Option.bind_some, if_neg (show ¬ (1 : Int32) = 0 by decide)]
  have e : ds_ct (ds_b m) 64 = ds_cc w h o t 0 := ct_cong (fun i hi => g3 i hi)
  rw [e]
  exact ⟨_, rfl, _, _, _, _, sr', _, rfl, s01⟩
theorem q_cnt21 {w h : Nat} (hk : ds_ok w h) {hex : Bool} {o t : Int64} (lk sf fx fy sx sy sw sh shx : Int32) (so st : Int64) (fd : Nat → Int64) (tw th tx : Int32) (to tt : Int64) {al sr : Nat → Int32} (hm : ds_MT w h hex o t al) (h01 : ds_01 sr) (R : Nat → Int32) (pz f1 f2 f3 f4 : Int32) : ∃ v, fX7_count (nI w) (nI h) (ds_q hex) o t lk sf fx fy sx sy sw sh shx so st fd tw th tx to tt (al 67) pz 21 = some (v, lk, sf, fx, fy, sx, sy, sw, sh, shx, so, st, fd, tw, th, tx, to, tt) ∧ ∃ a b c d sr' R', fX8_count pz f1 f2 f3 f4 al ds_tabF sr R 21 = some (v, 0, a, b, c, d, sr', R') ∧ ds_01 sr' := by
  obtain ⟨sr', e2, s01, sv⟩ := m_lays hk hm h01
  obtain ⟨m0, m1, m2, m3⟩ := id hm
  unfold fX7_count fX8_count
  rw [e2, Option.bind_some]
  rw [if_neg (show ¬ (21 : Int32) < 20 by decide), if_neg (show ¬ (24 : Int32) ≤ 21 by decide), if_neg (show ¬ (21 : Int32) = 0 by decide), if_neg (show ¬ (21 : Int32) = 1 by decide), if_neg (show ¬ (21 : Int32) = 2 by decide), if_neg (show ¬ (21 : Int32) = 3 by decide), if_neg (show ¬ (21 : Int32) = 4 by decide), if_neg (show ¬ (21 : Int32) = 5 by decide), if_neg (show ¬ (21 : Int32) = 6 by decide), if_neg (show ¬ (21 : Int32) = 7 by decide), if_neg (show ¬ (21 : Int32) = 8 by decide), if_neg (show ¬ (21 : Int32) = 9 by decide), if_neg (show ¬ (21 : Int32) = 10 by decide), if_neg (show ¬ (21 : Int32) = 11 by decide), if_neg (show ¬ (21 : Int32) = 12 by decide), if_neg (show ¬ (21 : Int32) = 13 by decide), if_neg (show ¬ (21 : Int32) = 14 by decide)]
  obtain ⟨m, g1, g2, g3⟩ := p_ofColour hk o t (c := 1) (by omega)
  rw [show (21 : Int32) - 20 = nI 1 from rfl, g1, Option.bind_some, p_bitCount, Option.bind_some, m_cellsOf hk hm (by omega), Option.bind_some, show fX8_in (21 : Int32) 20 23 = some 1 by decide, Option.bind_some, if_neg (show ¬ (1 : Int32) = 0 by decide)]
  have e : ds_ct (ds_b m) 64 = ds_cc w h o t 1 := ct_cong (fun i hi => g3 i hi)
  rw [e]
  exact ⟨_, rfl, _, _, _, _, sr', _, rfl, s01⟩
theorem q_cnt22 {w h : Nat} (hk : ds_ok w h) {hex : Bool} {o t : Int64} (lk sf fx fy sx sy sw sh shx : Int32) (so st : Int64) (fd : Nat → Int64) (tw th tx : Int32) (to tt : Int64) {al sr : Nat → Int32} (hm : ds_MT w h hex o t al) (h01 : ds_01 sr) (R : Nat → Int32) (pz f1 f2 f3 f4 : Int32) : ∃ v, fX7_count (nI w) (nI h) (ds_q hex) o t lk sf fx fy sx sy sw sh shx so st fd tw th tx to tt (al 67) pz 22 = some (v, lk, sf, fx, fy, sx, sy, sw, sh, shx, so, st, fd, tw, th, tx, to, tt) ∧ ∃ a b c d sr' R', fX8_count pz f1 f2 f3 f4 al ds_tabF sr R 22 = some (v, 0, a, b, c, d, sr', R') ∧ ds_01 sr' := by
  obtain ⟨sr', e2, s01, sv⟩ := m_lays hk hm h01
  obtain ⟨m0, m1, m2, m3⟩ := id hm
  unfold fX7_count fX8_count
  rw [e2, Option.bind_some]
  rw [if_neg (show ¬ (22 : Int32) < 20 by decide), if_neg (show ¬ (24 : Int32) ≤ 22 by decide), if_neg (show ¬ (22 : Int32) = 0 by decide), if_neg (show ¬ (22 : Int32) = 1 by decide), if_neg (show ¬ (22 : Int32) = 2 by decide), if_neg (show ¬ (22 : Int32) = 3 by decide), if_neg (show ¬ (22 : Int32) = 4 by decide), if_neg (show ¬ (22 : Int32) = 5 by decide), if_neg (show ¬ (22 : Int32) = 6 by decide), if_neg (show ¬ (22 : Int32) = 7 by decide), if_neg (show ¬ (22 : Int32) = 8 by decide), if_neg (show ¬ (22 : Int32) = 9 by decide), if_neg (show ¬ (22 : Int32) = 10 by decide), if_neg (show ¬ (22 : Int32) = 11 by decide), if_neg (show ¬ (22 : Int32) = 12 by decide), if_neg (show ¬ (22 : Int32) = 13 by decide), if_neg (show ¬ (22 : Int32) = 14 by decide)]
  obtain ⟨m, g1, g2, g3⟩ := p_ofColour hk o t (c := 2) (by omega)
  rw [show (22 : Int32) - 20 = nI 2 from rfl, g1, Option.bind_some, p_bitCount, Option.bind_some, m_cellsOf hk hm (by omega), Option.bind_some, show fX8_in (22 : Int32) 20 23 = some 1 by decide, Option.bind_some, if_neg (show ¬ (1 : Int32) = 0 by decide)]
  have e : ds_ct (ds_b m) 64 = ds_cc w h o t 2 := ct_cong (fun i hi => g3 i hi)
  rw [e]
  exact ⟨_, rfl, _, _, _, _, sr', _, rfl, s01⟩
theorem q_cnt23 {w h : Nat} (hk : ds_ok w h) {hex : Bool} {o t : Int64} (lk sf fx fy sx sy sw sh shx : Int32) (so st : Int64) (fd : Nat → Int64) (tw th tx : Int32) (to tt : Int64) {al sr : Nat → Int32} (hm : ds_MT w h hex o t al) (h01 : ds_01 sr) (R : Nat → Int32) (pz f1 f2 f3 f4 : Int32) : ∃ v, fX7_count (nI w) (nI h) (ds_q hex) o t lk sf fx fy sx sy sw sh shx so st fd tw th tx to tt (al 67) pz 23 = some (v, lk, sf, fx, fy, sx, sy, sw, sh, shx, so, st, fd, tw, th, tx, to, tt) ∧ ∃ a b c d sr' R', fX8_count pz f1 f2 f3 f4 al ds_tabF sr R 23 = some (v, 0, a, b, c, d, sr', R') ∧ ds_01 sr' := by
  obtain ⟨sr', e2, s01, sv⟩ := m_lays hk hm h01
  obtain ⟨m0, m1, m2, m3⟩ := id hm
  unfold fX7_count fX8_count
  rw [e2, Option.bind_some]
  rw [if_neg (show ¬ (23 : Int32) < 20 by decide), if_neg (show ¬ (24 : Int32) ≤ 23 by decide), if_neg (show ¬ (23 : Int32) = 0 by decide), if_neg (show ¬ (23 : Int32) = 1 by decide), if_neg (show ¬ (23 : Int32) = 2 by decide), if_neg (show ¬ (23 : Int32) = 3 by decide), if_neg (show ¬ (23 : Int32) = 4 by decide), if_neg (show ¬ (23 : Int32) = 5 by decide), if_neg (show ¬ (23 : Int32) = 6 by decide), if_neg (show ¬ (23 : Int32) = 7 by decide), if_neg (show ¬ (23 : Int32) = 8 by decide), if_neg (show ¬ (23 : Int32) = 9 by decide), if_neg (show ¬ (23 : Int32) = 10 by decide), if_neg (show ¬ (23 : Int32) = 11 by decide), if_neg (show ¬ (23 : Int32) = 12 by decide), if_neg (show ¬ (23 : Int32) = 13 by decide), if_neg (show ¬ (23 : Int32) = 14 by decide)]
  obtain ⟨m, g1, g2, g3⟩ := p_ofColour hk o t (c := 3) (by omega)
  rw [show (23 : Int32) - 20 = nI 3 from rfl, g1, Option.bind_some, p_bitCount, Option.bind_some, m_cellsOf hk hm (by omega), Option.bind_some, show fX8_in (23 : Int32) 20 23 = some 1 by decide, Option.bind_some, if_neg (show ¬ (1 : Int32) = 0 by decide)]
  have e : ds_ct (ds_b m) 64 = ds_cc w h o t 3 := ct_cong (fun i hi => g3 i hi)
  rw [e]
  exact ⟨_, rfl, _, _, _, _, sr', _, rfl, s01⟩
