/-! numbers nobody answers -/
theorem q_cntE {w h : Nat} (hk : ds_ok w h) {hex : Bool} {o t : Int64} (lk sf fx fy sx sy sw sh shx : Int32) (so st : Int64) (fd : Nat → Int64) (tw th tx : Int32) (to tt : Int64) {al sr : Nat → Int32} (hm : ds_MT w h hex o t al) (h01 : ds_01 sr) (R : Nat → Int32) (sl pz ud f1 f2 f3 f4 p : Int32) (hp : p.toInt < 0 ∨ (14 < p.toInt ∧ p.toInt < 20) ∨ 24 ≤ p.toInt) : fX7_count (nI w) (nI h) (ds_q hex) o t lk sf fx fy sx sy sw sh shx so st fd tw th tx to tt sl pz p = some (-1, lk, sf, fx, fy, sx, sy, sw, sh, shx, so, st, fd, tw, th, tx, to, tt) ∧ ∃ a b c d sr' R', fX8_count ud f1 f2 f3 f4 al ds_tabF sr R p = some (-1, 0, a, b, c, d, sr', R') ∧ ds_01 sr' := by
  obtain ⟨sr', e2, s01, sv⟩ := m_lays hk hm h01
  have ne : ∀ k : Int32, (0 ≤ k.toInt ∧ k.toInt ≤ 14) → ¬ p = k := by
    intro k hk2 e; subst e; omega
  have c43 : fX7_count_43 (nI w) (nI h) (ds_q hex) o t lk sf fx fy sx sy sw sh shx so st fd tw th tx to tt sl pz p = some (-1, lk, sf, fx, fy, sx, sy, sw, sh, shx, so, st, fd, tw, th, tx, to, tt) := by
    unfold fX7_count_43 fX7_count_57
    rw [if_neg (ne 14 (by decide)), if_neg (ne 0 (by decide)), if_neg (ne 1 (by decide)), if_neg (ne 2 (by decide)), if_neg (ne 3 (by decide)), if_neg (ne 4 (by decide)), if_neg (ne 5 (by decide)), if_neg (ne 6 (by decide)), if_neg (ne 7 (by decide)), if_neg (ne 8 (by decide)), if_neg (ne 9 (by decide)), if_neg (ne 10 (by decide)), if_neg (ne 11 (by decide)), if_neg (ne 12 (by decide)), if_neg (ne 13 (by decide)), if_neg (ne 14 (by decide))]
  have t20 : (20 : Int32).toInt = 20 := rfl
  have t3 : (3 : Int32).toInt = 3 := rfl
  have t10 : (10 : Int32).toInt = 10 := rfl
  have t24 : (24 : Int32).toInt = 24 := rfl
  have t23 : (23 : Int32).toInt = 23 := rfl
  have c32 : fX7_count_32 (nI w) (nI h) (ds_q hex) o t lk sf fx fy sx sy sw sh shx so st fd tw th tx to tt sl pz p = some (-1, lk, sf, fx, fy, sx, sy, sw, sh, shx, so, st, fd, tw, th, tx, to, tt) := by
    unfold fX7_count_32
    by_cases c : p < 3
    · rw [if_pos c]; exact c43
    · rw [if_neg c, if_neg ?_]
      · exact c43
      · intro z
        rw [Int32.le_iff_toInt_le] at z
        rw [Int32.lt_iff_toInt_lt] at c
        omega
  refine ⟨?_, ?_⟩
  · unfold fX7_count
    by_cases c : p < 20
    · rw [if_pos c]; exact c32
    · rw [if_neg c, if_pos ?_]
      · exact c32
      · rw [Int32.lt_iff_toInt_lt] at c
        rw [Int32.le_iff_toInt_le]
        omega
  · unfold fX8_count fX8_in
    rw [e2, Option.bind_some, if_neg (ne 0 (by decide)), if_neg (ne 1 (by decide)), if_neg (ne 2 (by decide)), if_neg (ne 3 (by decide)), if_neg (ne 4 (by decide)), if_neg (ne 5 (by decide)), if_neg (ne 6 (by decide)), if_neg (ne 7 (by decide)), if_neg (ne 8 (by decide)), if_neg (ne 9 (by decide)), if_neg (ne 10 (by decide)), if_neg (ne 11 (by decide)), if_neg (ne 12 (by decide)), if_neg (ne 13 (by decide)), if_neg (ne 14 (by decide))]
    by_cases c : p < 20
    · rw [if_pos c, Option.bind_some, if_pos rfl]
      exact ⟨_, _, _, _, sr', _, rfl, s01⟩
    · rw [if_neg c, if_pos ?_, Option.bind_some, if_pos rfl]
      · exact ⟨_, _, _, _, sr', _, rfl, s01⟩
      · rw [Int32.lt_iff_toInt_lt] at c ⊢
        omega
