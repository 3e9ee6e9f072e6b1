/-! numbers asked for, one by one -/
theorem q_cnt3 {w h : Nat} (hk : ds_ok w h) {hex : Bool} {o t : Int64} (ho : ds_sub w h o) (ht : ds_sub w h t) {lk sf fx fy sx sy sw sh shx : Int32} {so st : Int64} {fd : Nat → Int64} (hg : ds_GI lk sf fx fy sx sy sw sh shx so st fd) (tw th tx : Int32) (to tt : Int64) {al sr : Nat → Int32} (hm : ds_MT w h hex o t al) (h01 : ds_01 sr) (R : Nat → Int32) (sl pz ud f1 f2 f3 f4 : Int32) : ∃ v sf' fx' fy' sx' sy' fd' tw' th' tx' to' tt', fX7_count (nI w) (nI h) (ds_q hex) o t lk sf fx fy sx sy sw sh shx so st fd tw th tx to tt sl pz 3 = some (v, 1, sf', fx', fy', sx', sy', nI w, nI h, ds_q hex, o, t, fd', tw', th', tx', to', tt') ∧ ds_GI 1 sf' fx' fy' sx' sy' (nI w) (nI h) (ds_q hex) o t fd' ∧ ∃ a b c d sr' R', fX8_count ud f1 f2 f3 f4 al ds_tabF sr R 3 = some (v, 0, a, b, c, d, sr', R') ∧ ds_01 sr' := by
  obtain ⟨n1, n2, n3, n4⟩ := nt_le hex
  obtain ⟨sf', fd', tw', th', tx', to', tt', e, gv, s⟩ := look hk (hex := hex) ho ht hg tw th tx to tt
  obtain ⟨sr', e2, s01, sv⟩ := m_lays hk hm h01
  unfold fX7_count fX8_count
  rw [if_pos (show (3 : Int32) < 20 by decide), e2, Option.bind_some]
  unfold fX7_count_32
  rw [if_neg (show ¬ (3 : Int32) < 3 by decide), if_pos (show (3 : Int32) ≤ 10 by decide)]
  unfold fX7_count_49
  rw [e, Option.bind_some]
  dsimp only
  unfold fX7_count_57
  rw [if_neg (show ¬ (3 : Int32) = 0 by decide), if_neg (show ¬ (3 : Int32) = 1 by decide), if_neg (show ¬ (3 : Int32) = 2 by decide), if_pos (rfl : (3 : Int32) = 3)]
  rw [if_neg (show ¬ (3 : Int32) = 0 by decide), if_neg (show ¬ (3 : Int32) = 1 by decide), if_neg (show ¬ (3 : Int32) = 2 by decide), if_pos (rfl : (3 : Int32) = 3)]
  rw [g_span hk gv, Option.bind_some]
  rw [m_span hk hm s01 sv, Option.bind_some]
  exact ⟨_, sf', fx, fy, sx, sy, fd', tw', th', tx', to', tt', rfl, GI_of hk gv s, _, _, _, _, sr', _, rfl, s01⟩
theorem q_cnt4 {w h : Nat} (hk : ds_ok w h) {hex : Bool} {o t : Int64} (ho : ds_sub w h o) (ht : ds_sub w h t) {lk sf fx fy sx sy sw sh shx : Int32} {so st : Int64} {fd : Nat → Int64} (hg : ds_GI lk sf fx fy sx sy sw sh shx so st fd) (tw th tx : Int32) (to tt : Int64) {al sr : Nat → Int32} (hm : ds_MT w h hex o t al) (h01 : ds_01 sr) (R : Nat → Int32) (sl pz ud f1 f2 f3 f4 : Int32) : ∃ v sf' fx' fy' sx' sy' fd' tw' th' tx' to' tt', fX7_count (nI w) (nI h) (ds_q hex) o t lk sf fx fy sx sy sw sh shx so st fd tw th tx to tt sl pz 4 = some (v, 1, sf', fx', fy', sx', sy', nI w, nI h, ds_q hex, o, t, fd', tw', th', tx', to', tt') ∧ ds_GI 1 sf' fx' fy' sx' sy' (nI w) (nI h) (ds_q hex) o t fd' ∧ ∃ a b c d sr' R', fX8_count ud f1 f2 f3 f4 al ds_tabF sr R 4 = some (v, 0, a, b, c, d, sr', R') ∧ ds_01 sr' := by
  obtain ⟨n1, n2, n3, n4⟩ := nt_le hex
  obtain ⟨sf', fd', tw', th', tx', to', tt', e, gv, s⟩ := look hk (hex := hex) ho ht hg tw th tx to tt
  obtain ⟨sr', e2, s01, sv⟩ := m_lays hk hm h01
  unfold fX7_count fX8_count
  rw [if_pos (show (4 : Int32) < 20 by decide), e2, Option.bind_some]
  unfold fX7_count_32
  rw [if_neg (show ¬ (4 : Int32) < 3 by decide), if_pos (show (4 : Int32) ≤ 10 by decide)]
  unfold fX7_count_49
  rw [e, Option.bind_some]
  dsimp only
  unfold fX7_count_57
  rw [if_neg (show ¬ (4 : Int32) = 0 by decide), if_neg (show ¬ (4 : Int32) = 1 by decide), if_neg (show ¬ (4 : Int32) = 2 by decide), if_neg (show ¬ (4 : Int32) = 3 by decide), if_pos (rfl : (4 : Int32) = 4)]
  rw [if_neg (show ¬ (4 : Int32) = 0 by decide), if_neg (show ¬ (4 : Int32) = 1 by decide), if_neg (show ¬ (4 : Int32) = 2 by decide), if_neg (show ¬ (4 : Int32) = 3 by decide), if_pos (rfl : (4 : Int32) = 4)]
  rw [g_motif hk gv, Option.bind_some]
  have p := ns_pos hk (hex := hex) (o := o) (t := t)
  have l := ns_le (w := w) (h := h) (hex := hex) (o := o) (t := t) (tn := 0)
  rw [m_span hk hm s01 sv, Option.bind_some, if_neg (fun z => by have := (n_eq0 (by omega)).mp z; omega), l_0, l_1, m_area hm]
  exact ⟨_, sf', fx, fy, sx, sy, fd', tw', th', tx', to', tt', rfl, GI_of hk gv s, _, _, _, _, sr', _, rfl, s01⟩
theorem q_cnt5 {w h : Nat} (hk : ds_ok w h) {hex : Bool} {o t : Int64} (ho : ds_sub w h o) (ht : ds_sub w h t) {lk sf fx fy sx sy sw sh shx : Int32} {so st : Int64} {fd : Nat → Int64} (hg : ds_GI lk sf fx fy sx sy sw sh shx so st fd) (tw th tx : Int32) (to tt : Int64) {al sr : Nat → Int32} (hm : ds_MT w h hex o t al) (h01 : ds_01 sr) (R : Nat → Int32) (sl pz ud f1 f2 f3 f4 : Int32) : ∃ v sf' fx' fy' sx' sy' fd' tw' th' tx' to' tt', fX7_count (nI w) (nI h) (ds_q hex) o t lk sf fx fy sx sy sw sh shx so st fd tw th tx to tt sl pz 5 = some (v, 1, sf', fx', fy', sx', sy', nI w, nI h, ds_q hex, o, t, fd', tw', th', tx', to', tt') ∧ ds_GI 1 sf' fx' fy' sx' sy' (nI w) (nI h) (ds_q hex) o t fd' ∧ ∃ a b c d sr' R', fX8_count ud f1 f2 f3 f4 al ds_tabF sr R 5 = some (v, 0, a, b, c, d, sr', R') ∧ ds_01 sr' := by
  obtain ⟨n1, n2, n3, n4⟩ := nt_le hex
  obtain ⟨sf', fd', tw', th', tx', to', tt', e, gv, s⟩ := look hk (hex := hex) ho ht hg tw th tx to tt
  obtain ⟨sr', e2, s01, sv⟩ := m_lays hk hm h01
  unfold fX7_count fX8_count
  rw [if_pos (show (5 : Int32) < 20 by decide), e2, Option.bind_some]
  unfold fX7_count_32
  rw [if_neg (show ¬ (5 : Int32) < 3 by decide), if_pos (show (5 : Int32) ≤ 10 by decide)]
  unfold fX7_count_49
  rw [e, Option.bind_some]
  dsimp only
  unfold fX7_count_57
  rw [if_neg (show ¬ (5 : Int32) = 0 by decide), if_neg (show ¬ (5 : Int32) = 1 by decide), if_neg (show ¬ (5 : Int32) = 2 by decide), if_neg (show ¬ (5 : Int32) = 3 by decide), if_neg (show ¬ (5 : Int32) = 4 by decide), if_pos (rfl : (5 : Int32) = 5)]
  rw [if_neg (show ¬ (5 : Int32) = 0 by decide), if_neg (show ¬ (5 : Int32) = 1 by decide), if_neg (show ¬ (5 : Int32) = 2 by decide), if_neg (show ¬ (5 : Int32) = 3 by decide), if_neg (show ¬ (5 : Int32) = 4 by decide), if_pos (rfl : (5 : Int32) = 5)]
  rw [g_order hk gv, Option.bind_some]
  rw [m_order hk hm s01 sv, Option.bind_some]
  exact ⟨_, sf', fx, fy, sx, sy, fd', tw', th', tx', to', tt', rfl, GI_of hk gv s, _, _, _, _, sr', _, rfl, s01⟩
theorem q_cnt6 {w h : Nat} (hk : ds_ok w h) {hex : Bool} {o t : Int64} (ho : ds_sub w h o) (ht : ds_sub w h t) {lk sf fx fy sx sy sw sh shx : Int32} {so st : Int64} {fd : Nat → Int64} (hg : ds_GI lk sf fx fy sx sy sw sh shx so st fd) (tw th tx : Int32) (to tt : Int64) {al sr : Nat → Int32} (hm : ds_MT w h hex o t al) (h01 : ds_01 sr) (R : Nat → Int32) (sl pz ud f1 f2 f3 f4 : Int32) : ∃ v sf' fx' fy' sx' sy' fd' tw' th' tx' to' tt', fX7_count (nI w) (nI h) (ds_q hex) o t lk sf fx fy sx sy sw sh shx so st fd tw th tx to tt sl pz 6 = some (v, 1, sf', fx', fy', sx', sy', nI w, nI h, ds_q hex, o, t, fd', tw', th', tx', to', tt') ∧ ds_GI 1 sf' fx' fy' sx' sy' (nI w) (nI h) (ds_q hex) o t fd' ∧ ∃ a b c d sr' R', fX8_count ud f1 f2 f3 f4 al ds_tabF sr R 6 = some (v, 0, a, b, c, d, sr', R') ∧ ds_01 sr' := by
  obtain ⟨n1, n2, n3, n4⟩ := nt_le hex
  obtain ⟨sf', fd', tw', th', tx', to', tt', e, gv, s⟩ := look hk (hex := hex) ho ht hg tw th tx to tt
  obtain ⟨sr', e2, s01, sv⟩ := m_lays hk hm h01
  unfold fX7_count fX8_count
  rw [if_pos (show (6 : Int32) < 20 by decide), e2, Option.bind_some]
  unfold fX7_count_32
  rw [if_neg (show ¬ (6 : Int32) < 3 by decide), if_pos (show (6 : Int32) ≤ 10 by decide)]
  unfold fX7_count_49
  rw [e, Option.bind_some]
  dsimp only
  unfold fX7_count_57
  rw [if_neg (show ¬ (6 : Int32) = 0 by decide), if_neg (show ¬ (6 : Int32) = 1 by decide), if_neg (show ¬ (6 : Int32) = 2 by decide), if_neg (show ¬ (6 : Int32) = 3 by decide), if_neg (show ¬ (6 : Int32) = 4 by decide), if_neg (show ¬ (6 : Int32) = 5 by decide), if_pos (rfl : (6 : Int32) = 6)]
  rw [if_neg (show ¬ (6 : Int32) = 0 by decide), if_neg (show ¬ (6 : Int32) = 1 by decide), if_neg (show ¬ (6 : Int32) = 2 by decide), if_neg (show ¬ (6 : Int32) = 3 by decide), if_neg (show ¬ (6 : Int32) = 4 by decide), if_neg (show ¬ (6 : Int32) = 5 by decide), if_pos (rfl : (6 : Int32) = 6)]
  obtain ⟨a, b, c, d, hF, ec⟩ := m_cls hk hm s01 sv
  rw [g_cls hk gv s hF, Option.bind_some, ec, Option.bind_some]
  exact ⟨_, 1, ds_z a, ds_z b, ds_z c, ds_z d, fd', tw', th', tx', to', tt', rfl, GI_of hk gv (Or.inr ⟨rfl, a, b, c, d, rfl, rfl, rfl, rfl, hF⟩), _, _, _, _, sr', _, rfl, s01⟩
theorem q_cnt7 {w h : Nat} (hk : ds_ok w h) {hex : Bool} {o t : Int64} (ho : ds_sub w h o) (ht : ds_sub w h t) {lk sf fx fy sx sy sw sh shx : Int32} {so st : Int64} {fd : Nat → Int64} (hg : ds_GI lk sf fx fy sx sy sw sh shx so st fd) (tw th tx : Int32) (to tt : Int64) {al sr : Nat → Int32} (hm : ds_MT w h hex o t al) (h01 : ds_01 sr) (R : Nat → Int32) (sl pz ud f1 f2 f3 f4 : Int32) : ∃ v sf' fx' fy' sx' sy' fd' tw' th' tx' to' tt', fX7_count (nI w) (nI h) (ds_q hex) o t lk sf fx fy sx sy sw sh shx so st fd tw th tx to tt sl pz 7 = some (v, 1, sf', fx', fy', sx', sy', nI w, nI h, ds_q hex, o, t, fd', tw', th', tx', to', tt') ∧ ds_GI 1 sf' fx' fy' sx' sy' (nI w) (nI h) (ds_q hex) o t fd' ∧ ∃ a b c d sr' R', fX8_count ud f1 f2 f3 f4 al ds_tabF sr R 7 = some (v, 0, a, b, c, d, sr', R') ∧ ds_01 sr' := by
  obtain ⟨n1, n2, n3, n4⟩ := nt_le hex
  obtain ⟨sf', fd', tw', th', tx', to', tt', e, gv, s⟩ := look hk (hex := hex) ho ht hg tw th tx to tt
  obtain ⟨sr', e2, s01, sv⟩ := m_lays hk hm h01
  unfold fX7_count fX8_count
  rw [if_pos (show (7 : Int32) < 20 by decide), e2, Option.bind_some]
  unfold fX7_count_32
  rw [if_neg (show ¬ (7 : Int32) < 3 by decide), if_pos (show (7 : Int32) ≤ 10 by decide)]
  unfold fX7_count_49
  rw [e, Option.bind_some]
  dsimp only
  unfold fX7_count_57
  rw [if_neg (show ¬ (7 : Int32) = 0 by decide), if_neg (show ¬ (7 : Int32) = 1 by decide), if_neg (show ¬ (7 : Int32) = 2 by decide), if_neg (show ¬ (7 : Int32) = 3 by decide), if_neg (show ¬ (7 : Int32) = 4 by decide), if_neg (show ¬ (7 : Int32) = 5 by decide), if_neg (show ¬ (7 : Int32) = 6 by decide), if_pos (rfl : (7 : Int32) = 7)]
  rw [if_neg (show ¬ (7 : Int32) = 0 by decide), if_neg (show ¬ (7 : Int32) = 1 by decide), if_neg (show ¬ (7 : Int32) = 2 by decide), if_neg (show ¬ (7 : Int32) = 3 by decide), if_neg (show ¬ (7 : Int32) = 4 by decide), if_neg (show ¬ (7 : Int32) = 5 by decide), if_neg (show ¬ (7 : Int32) = 6 by decide), if_pos (rfl : (7 : Int32) = 7)]
  rw [g_mirrors hk gv, Option.bind_some]
  unfold fX8_count_127
  rw [show (7 : Int32) - 6 = nI 1 from rfl, m_flips hk hm s01 sv (by omega), Option.bind_some]
  exact ⟨_, sf', fx, fy, sx, sy, fd', tw', th', tx', to', tt', rfl, GI_of hk gv s, _, _, _, _, sr', _, rfl, s01⟩
theorem q_cnt8 {w h : Nat} (hk : ds_ok w h) {hex : Bool} {o t : Int64} (ho : ds_sub w h o) (ht : ds_sub w h t) {lk sf fx fy sx sy sw sh shx : Int32} {so st : Int64} {fd : Nat → Int64} (hg : ds_GI lk sf fx fy sx sy sw sh shx so st fd) (tw th tx : Int32) (to tt : Int64) {al sr : Nat → Int32} (hm : ds_MT w h hex o t al) (h01 : ds_01 sr) (R : Nat → Int32) (sl pz ud f1 f2 f3 f4 : Int32) : ∃ v sf' fx' fy' sx' sy' fd' tw' th' tx' to' tt', fX7_count (nI w) (nI h) (ds_q hex) o t lk sf fx fy sx sy sw sh shx so st fd tw th tx to tt sl pz 8 = some (v, 1, sf', fx', fy', sx', sy', nI w, nI h, ds_q hex, o, t, fd', tw', th', tx', to', tt') ∧ ds_GI 1 sf' fx' fy' sx' sy' (nI w) (nI h) (ds_q hex) o t fd' ∧ ∃ a b c d sr' R', fX8_count ud f1 f2 f3 f4 al ds_tabF sr R 8 = some (v, 0, a, b, c, d, sr', R') ∧ ds_01 sr' := by
  obtain ⟨n1, n2, n3, n4⟩ := nt_le hex
  obtain ⟨sf', fd', tw', th', tx', to', tt', e, gv, s⟩ := look hk (hex := hex) ho ht hg tw th tx to tt
  obtain ⟨sr', e2, s01, sv⟩ := m_lays hk hm h01
  unfold fX7_count fX8_count
  rw [if_pos (show (8 : Int32) < 20 by decide), e2, Option.bind_some]
  unfold fX7_count_32
  rw [if_neg (show ¬ (8 : Int32) < 3 by decide), if_pos (show (8 : Int32) ≤ 10 by decide)]
  unfold fX7_count_49
  rw [e, Option.bind_some]
  dsimp only
  unfold fX7_count_57
  rw [if_neg (show ¬ (8 : Int32) = 0 by decide), if_neg (show ¬ (8 : Int32) = 1 by decide), if_neg (show ¬ (8 : Int32) = 2 by decide), if_neg (show ¬ (8 : Int32) = 3 by decide), if_neg (show ¬ (8 : Int32) = 4 by decide), if_neg (show ¬ (8 : Int32) = 5 by decide), if_neg (show ¬ (8 : Int32) = 6 by decide), if_neg (show ¬ (8 : Int32) = 7 by decide), if_pos (rfl : (8 : Int32) = 8)]
  rw [if_neg (show ¬ (8 : Int32) = 0 by decide), if_neg (show ¬ (8 : Int32) = 1 by decide), if_neg (show ¬ (8 : Int32) = 2 by decide), if_neg (show ¬ (8 : Int32) = 3 by decide), if_neg (show ¬ (8 : Int32) = 4 by decide), if_neg (show ¬ (8 : Int32) = 5 by decide), if_neg (show ¬ (8 : Int32) = 6 by decide), if_neg (show ¬ (8 : Int32) = 7 by decide), if_pos (rfl : (8 : Int32) = 8)]
  rw [g_flips hk gv, fc_true, Option.bind_some, g_mirrors hk gv, Option.bind_some, glides]
  unfold fX8_count_127
  rw [show (8 : Int32) - 6 = nI 2 from rfl, m_flips hk hm s01 sv (by omega), Option.bind_some]
  exact ⟨_, sf', fx, fy, sx, sy, fd', tw', th', tx', to', tt', rfl, GI_of hk gv s, _, _, _, _, sr', _, rfl, s01⟩
theorem q_cnt9 {w h : Nat} (hk : ds_ok w h) {hex : Bool} {o t : Int64} (ho : ds_sub w h o) (ht : ds_sub w h t) {lk sf fx fy sx sy sw sh shx : Int32} {so st : Int64} {fd : Nat → Int64} (hg : ds_GI lk sf fx fy sx sy sw sh shx so st fd) (tw th tx : Int32) (to tt : Int64) {al sr : Nat → Int32} (hm : ds_MT w h hex o t al) (h01 : ds_01 sr) (R : Nat → Int32) (sl pz ud f1 f2 f3 f4 : Int32) : ∃ v sf' fx' fy' sx' sy' fd' tw' th' tx' to' tt', fX7_count (nI w) (nI h) (ds_q hex) o t lk sf fx fy sx sy sw sh shx so st fd tw th tx to tt sl pz 9 = some (v, 1, sf', fx', fy', sx', sy', nI w, nI h, ds_q hex, o, t, fd', tw', th', tx', to', tt') ∧ ds_GI 1 sf' fx' fy' sx' sy' (nI w) (nI h) (ds_q hex) o t fd' ∧ ∃ a b c d sr' R', fX8_count ud f1 f2 f3 f4 al ds_tabF sr R 9 = some (v, 0, a, b, c, d, sr', R') ∧ ds_01 sr' := by
  obtain ⟨n1, n2, n3, n4⟩ := nt_le hex
  obtain ⟨sf', fd', tw', th', tx', to', tt', e, gv, s⟩ := look hk (hex := hex) ho ht hg tw th tx to tt
  obtain ⟨sr', e2, s01, sv⟩ := m_lays hk hm h01
  unfold fX7_count fX8_count
  rw [if_pos (show (9 : Int32) < 20 by decide), e2, Option.bind_some]
  unfold fX7_count_32
  rw [if_neg (show ¬ (9 : Int32) < 3 by decide), if_pos (show (9 : Int32) ≤ 10 by decide)]
  unfold fX7_count_49
  rw [e, Option.bind_some]
  dsimp only
  unfold fX7_count_57
  rw [if_neg (show ¬ (9 : Int32) = 0 by decide), if_neg (show ¬ (9 : Int32) = 1 by decide), if_neg (show ¬ (9 : Int32) = 2 by decide), if_neg (show ¬ (9 : Int32) = 3 by decide), if_neg (show ¬ (9 : Int32) = 4 by decide), if_neg (show ¬ (9 : Int32) = 5 by decide), if_neg (show ¬ (9 : Int32) = 6 by decide), if_neg (show ¬ (9 : Int32) = 7 by decide), if_neg (show ¬ (9 : Int32) = 8 by decide), if_pos (rfl : (9 : Int32) = 9)]
  rw [if_neg (show ¬ (9 : Int32) = 0 by decide), if_neg (show ¬ (9 : Int32) = 1 by decide), if_neg (show ¬ (9 : Int32) = 2 by decide), if_neg (show ¬ (9 : Int32) = 3 by decide), if_neg (show ¬ (9 : Int32) = 4 by decide), if_neg (show ¬ (9 : Int32) = 5 by decide), if_neg (show ¬ (9 : Int32) = 6 by decide), if_neg (show ¬ (9 : Int32) = 7 by decide), if_neg (show ¬ (9 : Int32) = 8 by decide), if_pos (rfl : (9 : Int32) = 9)]
  obtain ⟨a, b, c, d, hF, ec⟩ := m_cls hk hm s01 sv
  rw [g_crossed hk gv s hF, Option.bind_some]
  unfold fX8_count_127
  rw [show (9 : Int32) - 6 = nI 3 from rfl, m_flips hk hm s01 sv (by omega), Option.bind_some]
  exact ⟨_, 1, ds_z a, ds_z b, ds_z c, ds_z d, fd', tw', th', tx', to', tt', rfl, GI_of hk gv (Or.inr ⟨rfl, a, b, c, d, rfl, rfl, rfl, rfl, hF⟩), _, _, _, _, sr', _, rfl, s01⟩
theorem q_cnt10 {w h : Nat} (hk : ds_ok w h) {hex : Bool} {o t : Int64} (ho : ds_sub w h o) (ht : ds_sub w h t) {lk sf fx fy sx sy sw sh shx : Int32} {so st : Int64} {fd : Nat → Int64} (hg : ds_GI lk sf fx fy sx sy sw sh shx so st fd) (tw th tx : Int32) (to tt : Int64) {al sr : Nat → Int32} (hm : ds_MT w h hex o t al) (h01 : ds_01 sr) (R : Nat → Int32) (sl pz ud f1 f2 f3 f4 : Int32) : ∃ v sf' fx' fy' sx' sy' fd' tw' th' tx' to' tt', fX7_count (nI w) (nI h) (ds_q hex) o t lk sf fx fy sx sy sw sh shx so st fd tw th tx to tt sl pz 10 = some (v, 1, sf', fx', fy', sx', sy', nI w, nI h, ds_q hex, o, t, fd', tw', th', tx', to', tt') ∧ ds_GI 1 sf' fx' fy' sx' sy' (nI w) (nI h) (ds_q hex) o t fd' ∧ ∃ a b c d sr' R', fX8_count ud f1 f2 f3 f4 al ds_tabF sr R 10 = some (v, 0, a, b, c, d, sr', R') ∧ ds_01 sr' := by
  obtain ⟨n1, n2, n3, n4⟩ := nt_le hex
  obtain ⟨sf', fd', tw', th', tx', to', tt', e, gv, s⟩ := look hk (hex := hex) ho ht hg tw th tx to tt
  obtain ⟨sr', e2, s01, sv⟩ := m_lays hk hm h01
  unfold fX7_count fX8_count
  rw [if_pos (show (10 : Int32) < 20 by decide), e2, Option.bind_some]
  unfold fX7_count_32
  rw [if_neg (show ¬ (10 : Int32) < 3 by decide), if_pos (show (10 : Int32) ≤ 10 by decide)]
  unfold fX7_count_49
  rw [e, Option.bind_some]
  dsimp only
  unfold fX7_count_57
  rw [if_neg (show ¬ (10 : Int32) = 0 by decide), if_neg (show ¬ (10 : Int32) = 1 by decide), if_neg (show ¬ (10 : Int32) = 2 by decide), if_neg (show ¬ (10 : Int32) = 3 by decide), if_neg (show ¬ (10 : Int32) = 4 by decide), if_neg (show ¬ (10 : Int32) = 5 by decide), if_neg (show ¬ (10 : Int32) = 6 by decide), if_neg (show ¬ (10 : Int32) = 7 by decide), if_neg (show ¬ (10 : Int32) = 8 by decide), if_neg (show ¬ (10 : Int32) = 9 by decide), if_pos (rfl : (10 : Int32) = 10)]
  rw [if_neg (show ¬ (10 : Int32) = 0 by decide), if_neg (show ¬ (10 : Int32) = 1 by decide), if_neg (show ¬ (10 : Int32) = 2 by decide), if_neg (show ¬ (10 : Int32) = 3 by decide), if_neg (show ¬ (10 : Int32) = 4 by decide), if_neg (show ¬ (10 : Int32) = 5 by decide), if_neg (show ¬ (10 : Int32) = 6 by decide), if_neg (show ¬ (10 : Int32) = 7 by decide), if_neg (show ¬ (10 : Int32) = 8 by decide), if_neg (show ¬ (10 : Int32) = 9 by decide), if_pos (rfl : (10 : Int32) = 10)]
  rw [g_kinds hk gv, Option.bind_some]
  obtain ⟨R', e3, kr⟩ := m_kinds hk hm s01 sv R
  unfold fX8_kinds
  rw [e3, Option.bind_some, show (64 : Int32) = nI 64 from rfl, m_leaders hk hm kr (by omega), Option.bind_some, Option.bind_some]
  exact ⟨_, sf', fx, fy, sx, sy, fd', tw', th', tx', to', tt', rfl, GI_of hk gv s, _, _, _, _, sr', _, rfl, s01⟩
theorem q_cnt14 {w h : Nat} (hk : ds_ok w h) {hex : Bool} {o t : Int64} (ho : ds_sub w h o) (ht : ds_sub w h t) {lk sf fx fy sx sy sw sh shx : Int32} {so st : Int64} {fd : Nat → Int64} (hg : ds_GI lk sf fx fy sx sy sw sh shx so st fd) (tw th tx : Int32) (to tt : Int64) {al sr : Nat → Int32} (hm : ds_MT w h hex o t al) (h01 : ds_01 sr) (R : Nat → Int32) (sl pz ud f1 f2 f3 f4 : Int32) : ∃ v sf' fx' fy' sx' sy' fd' tw' th' tx' to' tt', fX7_count (nI w) (nI h) (ds_q hex) o t lk sf fx fy sx sy sw sh shx so st fd tw th tx to tt sl pz 14 = some (v, 1, sf', fx', fy', sx', sy', nI w, nI h, ds_q hex, o, t, fd', tw', th', tx', to', tt') ∧ ds_GI 1 sf' fx' fy' sx' sy' (nI w) (nI h) (ds_q hex) o t fd' ∧ ∃ a b c d sr' R', fX8_count ud f1 f2 f3 f4 al ds_tabF sr R 14 = some (v, 0, a, b, c, d, sr', R') ∧ ds_01 sr' := by
  obtain ⟨n1, n2, n3, n4⟩ := nt_le hex
  obtain ⟨sf', fd', tw', th', tx', to', tt', e, gv, s⟩ := look hk (hex := hex) ho ht hg tw th tx to tt
  obtain ⟨sr', e2, s01, sv⟩ := m_lays hk hm h01
  unfold fX7_count fX8_count
  rw [if_pos (show (14 : Int32) < 20 by decide), e2, Option.bind_some]
  unfold fX7_count_32
  rw [if_neg (show ¬ (14 : Int32) < 3 by decide), if_neg (show ¬ (14 : Int32) ≤ 10 by decide)]
  unfold fX7_count_43
  rw [if_pos (rfl : (14 : Int32) = 14)]
  unfold fX7_count_49
  rw [e, Option.bind_some]
  dsimp only
  unfold fX7_count_57
  rw [if_neg (show ¬ (14 : Int32) = 0 by decide), if_neg (show ¬ (14 : Int32) = 1 by decide), if_neg (show ¬ (14 : Int32) = 2 by decide), if_neg (show ¬ (14 : Int32) = 3 by decide), if_neg (show ¬ (14 : Int32) = 4 by decide), if_neg (show ¬ (14 : Int32) = 5 by decide), if_neg (show ¬ (14 : Int32) = 6 by decide), if_neg (show ¬ (14 : Int32) = 7 by decide), if_neg (show ¬ (14 : Int32) = 8 by decide), if_neg (show ¬ (14 : Int32) = 9 by decide), if_neg (show ¬ (14 : Int32) = 10 by decide), if_neg (show ¬ (14 : Int32) = 11 by decide), if_neg (show ¬ (14 : Int32) = 12 by decide), if_neg (show ¬ (14 : Int32) = 13 by decide), if_pos (rfl : (14 : Int32) = 14)]
  rw [if_neg (show ¬ (14 : Int32) = 0 by decide), if_neg (show ¬ (14 : Int32) = 1 by decide), if_neg (show ¬ (14 : Int32) = 2 by decide), if_neg (show ¬ (14 : Int32) = 3 by decide), if_neg (show ¬ (14 : Int32) = 4 by decide), if_neg (show ¬ (14 : Int32) = 5 by decide), if_neg (show ¬ (14 : Int32) = 6 by decide), if_neg (show ¬ (14 : Int32) = 7 by decide), if_neg (show ¬ (14 : Int32) = 8 by decide), if_neg (show ¬ (14 : Int32) = 9 by decide), if_neg (show ¬ (14 : Int32) = 10 by decide), if_neg (show ¬ (14 : Int32) = 11 by decide), if_neg (show ¬ (14 : Int32) = 12 by decide), if_neg (show ¬ (14 : Int32) = 13 by decide), if_pos (rfl : (14 : Int32) = 14)]
  rw [g_tb hk gv, Option.bind_some]
  rw [m_tb hk hm s01 sv, Option.bind_some]
  exact ⟨_, sf', fx, fy, sx, sy, fd', tw', th', tx', to', tt', rfl, GI_of hk gv s, _, _, _, _, sr', _, rfl, s01⟩
