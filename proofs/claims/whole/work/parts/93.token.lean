/-! texts: the reference's tokens -/
theorem m_see {L : Nat} {B : Nat → Nat} {by_ tx : Nat → Int32} (ht : ds_Tx L B by_ tx) {i : Nat} (hi : i ≤ L) : fX8_see (nI i) (nI L) tx = some (if i < L then nI (B i) else -1) := by
  obtain ⟨l, q⟩ := ht
  unfold fX8_see
  by_cases c : i < L
  · rw [if_neg (nI_ge c (by omega)), if_pos (in_nI (show i < 1000 by omega) (by omega)), nI_clamp (by omega), (q i c).2.2.1, if_pos c]
  · rw [if_pos (nI_le (by omega) (by omega)), if_neg c]
theorem m_inL {B : Nat → Nat} {i : Nat} (hb : B i < 256) : fX8_in (nI (B i)) 97 122 = some (ds_q (ds_lt B i)) := by
  have := p_in (nI (B i)) (a := 97) (b := 122) (by omega) (by omega) (by omega) (by omega)
  refine (show fX8_in (nI (B i)) 97 122 = _ from this).trans ?_
  rw [n_toInt (by omega)]
  unfold ds_lt
  congr 2
  rw [← Bool.decide_and]
  exact decide_eq_decide.mpr (by omega)
def ds_wv (B : Nat → Nat) (p : Nat) : Nat → Int64
  | 0 => 0
  | k + 1 => (ds_lshl (ds_wv B p k) 8) ||| (nI (B (p + k))).toInt64
noncomputable def ds_tk (L : Nat) (B : Nat → Nat) (p : Nat) (r : Int32 × Int32 × Int32 × Int32 × Int64) : Prop := (p = L ∧ r = (nI L, nI L, 0, 0, 0)) ∨ (p < L ∧ ds_lt B p = true ∧ ∃ q, ds_WE L B p q ∧ p < q ∧ r = (nI q, nI p, nI (q - p), 2, if q - p ≤ 8 then ds_wv B p (q - p) else 0)) ∨ (p < L ∧ ds_lt B p = false ∧ r = (nI (p + 1), nI p, 0, (if B p = 59 then 3 else 1), 0))
theorem m_token {L : Nat} {B : Nat → Nat} {by_ tx : Nat → Int32} (ht : ds_Tx L B by_ tx) {a p : Nat} (hs : ds_SK L B a p) : ∃ r, fX8_token (nI a) (nI L) tx = some r ∧ ds_tk L B p r := by
  obtain ⟨s1, s2, s3, s4⟩ := hs
  have l := ht.1
  have tok : ∃ r, fX8_token_31 (nI p) (nI L) tx = some r ∧ ds_tk L B p r := by
    unfold fX8_token_31
    rw [m_see ht s2, Option.bind_some]
    by_cases c : p < L
    · have bp := (ht.2 p c).1
      rw [if_pos c, if_pos (nI_pos' (show B p < 2 ^ 31 by omega)), m_inL bp, Option.bind_some]
      cases cl : ds_lt B p
      · rw [if_pos (show ds_q false = 0 from rfl)]
        unfold fX8_token_182
        rw [nI_1]
        by_cases d : B p = 59
        · rw [if_pos (show nI (B p) = 59 by rw [d]; rfl)]
          exact ⟨_, rfl, Or.inr (Or.inr ⟨c, cl, by rw [if_pos d]⟩)⟩
        · rw [if_neg (show ¬ nI (B p) = 59 from fun z => d ((n_inj (b := 59) (by omega) (by omega)).mp z))]
          exact ⟨_, rfl, Or.inr (Or.inr ⟨c, cl, by rw [if_neg d]⟩)⟩
      · rw [if_neg (show ¬ ds_q true = 0 by decide)]
        obtain ⟨q, hw⟩ := WE_ex B s2
        obtain ⟨w1, w2, w3, w4⟩ := id hw
        have pq : p < q := by
          rcases w4 with e | e
          · omega
          · by_cases e2 : q = p
            · rw [e2, cl] at e; cases e
            · omega
        unfold fX8_token_77
        have fin := ds_it_up (fun s : Int32 × Int32 × Int64 => fX8_token_77_b (nI L) (nI p) tx s.1 s.2.1 s.2.2) (fun k => (nI (p + k), nI k, ds_wv B p k)) (q - p) 1000 (some (nI q, nI p, nI (q - p), 2, if q - p ≤ 8 then ds_wv B p (q - p) else 0)) (fun k hk => by
          try dsimp only
          have bk := (ht.2 (p + k) (by omega)).1
          unfold fX8_token_77_b
          rw [m_see ht (show p + k ≤ L by omega), Option.bind_some, if_pos (show p + k < L by omega), m_inL bk, Option.bind_some, w3 (p + k) (by omega) (by omega), if_neg (show ¬ ds_q true = 0 by decide), Option.bind_some, Option.bind_some, nI_1, nI_1]
          rfl) (by
          try dsimp only
          rw [show p + (q - p) = q by omega]
          unfold fX8_token_77_b fX8_token_131 fX8_token_149
          have stop : Option.bind (fX8_in (if q < L then nI (B q) else -1) 97 122) (fun q85 => (some q85)) = some 0 := by
            rcases w4 with e | e
            · rw [if_neg (by omega)]; rfl
            · by_cases e2 : q < L
              · rw [if_pos e2, m_inL (ht.2 q e2).1, e]; rfl
              · rw [if_neg e2]; rfl
          have stop' : fX8_in (if q < L then nI (B q) else -1) 97 122 = some 0 := by
            cases h : fX8_in (if q < L then nI (B q) else -1) 97 122
            · rw [h] at stop; cases stop
            · rw [h] at stop; exact stop
          rw [m_see ht w2, Option.bind_some, stop', Option.bind_some, if_pos rfl, show (8 : Int32) = nI 8 from rfl]
          by_cases e : q - p ≤ 8
          · rw [if_pos ((n_le (by omega) (by omega)).mpr e), if_pos e]; rfl
          · rw [if_neg (fun z => e ((n_le (by omega) (by omega)).mp z)), if_neg e]; rfl) (by omega)
        exact ⟨_, fin, Or.inr (Or.inl ⟨c, cl, q, hw, pq, rfl⟩)⟩
    · rw [if_neg c, if_neg (show ¬ (0 : Int32) ≤ -1 by decide)]
      have : p = L := by omega
      subst this
      exact ⟨_, rfl, Or.inl ⟨rfl, rfl⟩⟩
  obtain ⟨r, e, hr⟩ := tok
  refine ⟨r, ?_, hr⟩
  unfold fX8_token fX8_token_0
  have fin := ds_it_up (fun s : Int32 => fX8_token_0_b (nI L) tx s) (fun k => nI (a + k)) (p - a) 1000 (some r) (fun k hk => by
    try dsimp only
    have bk := (ht.2 (a + k) (by omega)).1
    have w := s3 (a + k) (by omega) (by omega)
    unfold ds_ws at w
    unfold fX8_token_0_b fX8_token_18
    rw [m_see ht (show a + k ≤ L by omega), Option.bind_some, if_pos (show a + k < L by omega), nI_1, Option.bind_some]
    by_cases d : B (a + k) = 10
    · rw [if_pos (show nI (B (a + k)) = 10 by rw [d]; rfl)]; rfl
    · have d2 : B (a + k) = 32 := by
        rw [decide_eq_false d, Bool.false_or] at w
        exact of_decide_eq_true w
      rw [if_neg (show ¬ nI (B (a + k)) = 10 from fun z => d ((n_inj (b := 10) (by omega) (by omega)).mp z)), if_pos (show nI (B (a + k)) = 32 by rw [d2]; rfl)]; rfl) (by
    try dsimp only
    rw [show a + (p - a) = p by omega]
    unfold fX8_token_0_b
    rw [m_see ht s2, Option.bind_some, Option.bind_some, e]
    have n10 : ¬ (if p < L then nI (B p) else -1) = 10 ∧ ¬ (if p < L then nI (B p) else -1) = 32 := by
      by_cases c : p < L
      · have bp := (ht.2 p c).1
        have w : ds_ws B p = false := by
          rcases s4 with e | e
          · omega
          · exact e
        unfold ds_ws at w
        simp at w
        rw [if_pos c]
        exact ⟨fun z => w.1 ((n_inj (b := 10) (by omega) (by omega)).mp z), fun z => w.2 ((n_inj (b := 32) (by omega) (by omega)).mp z)⟩
      · rw [if_neg c]; decide
    rw [if_neg n10.1, if_neg n10.2]; rfl) (by omega)
  exact fin
-- words
def ds_wn (B : Nat → Nat) (p : Nat) : Nat → Nat
  | 0 => 0
  | k + 1 => 256 * ds_wn B p k + B (p + k)
theorem u_byte : ∀ b, b < 256 → ds_u ((nI b).toInt64) = b := by decide +kernel
theorem u_or (x y : Int64) : ds_u (x ||| y) = ds_u x ||| ds_u y := by
  unfold ds_u
  have e : (x ||| y).toBitVec = x.toBitVec ||| y.toBitVec := rfl
  rw [e, BitVec.toNat_or]
theorem u_shl8 (x : Int64) : ds_u (ds_lshl x 8) = (ds_u x * 256) % 18446744073709551616 := by
  unfold ds_u
  have e : (ds_lshl x 8).toBitVec = x.toBitVec <<< (((nI 8).toInt64 &&& 63).toBitVec.smod 64).toNat := rfl
  rw [e, b_sa 8 (by omega), BitVec.toNat_shiftLeft, Nat.shiftLeft_eq]
theorem u_inj {x y : Int64} : x = y ↔ ds_u x = ds_u y := by
  constructor
  · intro e; rw [e]
  · intro e
    apply Int64.toBitVec.inj
    exact BitVec.eq_of_toNat_eq e
theorem wv_u {B : Nat → Nat} {p : Nat} : ∀ k, k ≤ 8 → (∀ j, j < k → B (p + j) < 256) → ds_u (ds_wv B p k) = ds_wn B p k ∧ ds_wn B p k < 256 ^ k
  | 0, _, _ => ⟨rfl, by show 0 < 1; omega⟩
  | k + 1, hk, hb => by
    obtain ⟨a, b⟩ := wv_u k (by omega) (fun j hj => hb j (by omega))
    have bk := hb k (by omega)
    have p7 : 256 ^ k ≤ 256 ^ 7 := Nat.pow_le_pow_right (by omega) (by omega)
    have e1 : ds_wv B p (k + 1) = (ds_lshl (ds_wv B p k) 8) ||| (nI (B (p + k))).toInt64 := rfl
    have e2 : ds_wn B p (k + 1) = 256 * ds_wn B p k + B (p + k) := rfl
    have e3 : (256 : Nat) ^ (k + 1) = 256 * 256 ^ k := by rw [Nat.pow_succ, Nat.mul_comm]
    refine ⟨?_, by rw [e2, e3]; omega⟩
    rw [e1, u_or, u_shl8, a, u_byte _ bk, e2, Nat.mod_eq_of_lt (by omega), Nat.mul_comm]
    exact (Nat.two_pow_add_eq_or_of_lt (i := 8) bk (ds_wn B p k)).symm
theorem wn_hex {B : Nat → Nat} {p n : Nat} (h1 : 1 ≤ n) (h8 : n ≤ 8) (hl : ∀ j, j < n → 97 ≤ B (p + j) ∧ B (p + j) ≤ 122) : ds_wn B p n = 6841720 ↔ n = 3 ∧ ∀ k, k < 3 → B (p + k) = [104, 101, 120].getD k 0 := by
  have three : (∀ k, k < 3 → B (p + k) = [104, 101, 120].getD k 0) ↔ B (p + 0) = 104 ∧ B (p + 1) = 101 ∧ B (p + 2) = 120 :=
    ⟨fun z => ⟨z 0 (by omega), z 1 (by omega), z 2 (by omega)⟩, fun ⟨a, b, c⟩ k hk => by
      rcases (show k = 0 ∨ k = 1 ∨ k = 2 by omega) with rfl | rfl | rfl
      · exact a
      · exact b
      · exact c⟩
  rw [three]
  have l0 := hl 0 (by omega)
  rcases (show n = 1 ∨ n = 2 ∨ n = 3 ∨ n = 4 ∨ n = 5 ∨ n = 6 ∨ n = 7 ∨ n = 8 by omega) with rfl | rfl | rfl | rfl | rfl | rfl | rfl | rfl
  · simp only [ds_wn]; omega
  · have := hl 1 (by omega)
    simp only [ds_wn]; omega
  · have h1 := hl 1 (by omega)
    have h2 := hl 2 (by omega)
    have e : ds_wn B p 3 = 256 * (256 * (256 * 0 + B (p + 0)) + B (p + 1)) + B (p + 2) := rfl
    rw [e]
    constructor
    · intro z
      refine ⟨rfl, ?_, ?_, ?_⟩ <;> omega
    · rintro ⟨_, a, b, c⟩; omega
  all_goals (simp only [ds_wn]; omega)
theorem wn_sq {B : Nat → Nat} {p n : Nat} (h1 : 1 ≤ n) (h8 : n ≤ 8) (hl : ∀ j, j < n → 97 ≤ B (p + j) ∧ B (p + j) ≤ 122) : ds_wn B p n = 126931137819237 ↔ n = 6 ∧ ∀ k, k < 6 → B (p + k) = [115, 113, 117, 97, 114, 101].getD k 0 := by
  have six : (∀ k, k < 6 → B (p + k) = [115, 113, 117, 97, 114, 101].getD k 0) ↔ B (p + 0) = 115 ∧ B (p + 1) = 113 ∧ B (p + 2) = 117 ∧ B (p + 3) = 97 ∧ B (p + 4) = 114 ∧ B (p + 5) = 101 :=
    ⟨fun z => ⟨z 0 (by omega), z 1 (by omega), z 2 (by omega), z 3 (by omega), z 4 (by omega), z 5 (by omega)⟩, fun ⟨a, b, c, d, e, f⟩ k hk => by
      rcases (show k = 0 ∨ k = 1 ∨ k = 2 ∨ k = 3 ∨ k = 4 ∨ k = 5 by omega) with rfl | rfl | rfl | rfl | rfl | rfl
      · exact a
      · exact b
      · exact c
      · exact d
      · exact e
      · exact f⟩
  rw [six]
  have l0 := hl 0 (by omega)
  rcases (show n ≤ 5 ∨ n = 6 ∨ n = 7 ∨ n = 8 by omega) with hn | rfl | rfl | rfl
  · have lt : ds_wn B p n < 256 ^ 5 := by
      have := (wv_u (B := B) (p := p) n (by omega) (fun j hj => by have := hl j hj; omega)).2
      have p5 : 256 ^ n ≤ 256 ^ 5 := Nat.pow_le_pow_right (by omega) hn
      omega
    omega
  · have h1 := hl 1 (by omega)
    have h2 := hl 2 (by omega)
    have h3 := hl 3 (by omega)
    have h4 := hl 4 (by omega)
    have h5 := hl 5 (by omega)
    have e : ds_wn B p 6 = 256 * (256 * (256 * (256 * (256 * (256 * 0 + B (p + 0)) + B (p + 1)) + B (p + 2)) + B (p + 3)) + B (p + 4)) + B (p + 5) := rfl
    rw [e]
    constructor
    · intro z
      refine ⟨rfl, ?_, ?_, ?_, ?_, ?_, ?_⟩ <;> omega
    · rintro ⟨_, a, b, c, d, e, f⟩; omega
  all_goals (simp only [ds_wn]; omega)
theorem m_words {L : Nat} {B : Nat → Nat} {by_ tx : Nat → Int32} (ht : ds_Tx L B by_ tx) {p q : Nat} (hw : ds_WE L B p q) (pq : p < q) : ((if q - p ≤ 8 then ds_wv B p (q - p) else 0) = (6841720 : Int64) ↔ q = p + 3 ∧ ∀ k, k < 3 → B (p + k) = [104, 101, 120].getD k 0) ∧ ((if q - p ≤ 8 then ds_wv B p (q - p) else 0) = (126931137819237 : Int64) ↔ q = p + 6 ∧ ∀ k, k < 6 → B (p + k) = [115, 113, 117, 97, 114, 101].getD k 0) := by
  obtain ⟨w1, w2, w3, w4⟩ := hw
  have hl : ∀ j, j < q - p → 97 ≤ B (p + j) ∧ B (p + j) ≤ 122 := by
    intro j hj
    have := w3 (p + j) (by omega) (by omega)
    unfold ds_lt at this
    simp at this; exact this
  by_cases c : q - p ≤ 8
  · have u := (wv_u (B := B) (p := p) (q - p) c (fun j hj => by have := hl j hj; omega)).1
    rw [if_pos c, u_inj, u_inj, u, show ds_u 6841720 = 6841720 from rfl, show ds_u 126931137819237 = 126931137819237 from rfl, wn_hex (by omega) c hl, wn_sq (by omega) c hl]
    constructor
    · constructor
      · rintro ⟨a, b⟩; exact ⟨by omega, b⟩
      · rintro ⟨a, b⟩; exact ⟨by omega, b⟩
    · constructor
      · rintro ⟨a, b⟩; exact ⟨by omega, b⟩
      · rintro ⟨a, b⟩; exact ⟨by omega, b⟩
  · rw [if_neg c]
    constructor
    · constructor
      · intro z; exact absurd z (by decide)
      · rintro ⟨a, _⟩; omega
    · constructor
      · intro z; exact absurd z (by decide)
      · rintro ⟨a, _⟩; omega
theorem m_isRow {L : Nat} {B : Nat → Nat} {by_ tx : Nat → Int32} (ht : ds_Tx L B by_ tx) {p q : Nat} (hw : ds_WE L B p q) : ∃ b : Bool, fX8_isRow (nI p) (nI (q - p)) 2 tx = some (ds_q b) ∧ (b = true ↔ q ≤ p + 8 ∧ ∀ i, p ≤ i → i < q → B i ≤ 100) := by
  obtain ⟨w1, w2, w3, w4⟩ := hw
  have l := ht.1
  unfold fX8_isRow
  rw [if_pos rfl, show (8 : Int32) = nI 8 from rfl]
  by_cases c : q - p ≤ 8
  · rw [if_pos ((n_le (by omega) (by omega)).mpr c)]
    unfold fX8_isRow_21
    have fin := ds_it_inv (fun s : Int32 => fX8_isRow_21_b (nI p) (nI (q - p)) tx s) (fun k s => s = nI k ∧ ∀ i, p ≤ i → i < p + k → B i ≤ 100) (fun r => ∃ b : Bool, r = ds_q b ∧ (b = true ↔ q ≤ p + 8 ∧ ∀ i, p ≤ i → i < q → B i ≤ 100)) (q - p) 1000 0 0 (Nat.zero_le _) ⟨rfl, fun i h1 h2 => by omega⟩ (by omega) ?_ ?_
    · obtain ⟨r, e, b, rfl, hb⟩ := fin
      exact ⟨b, e, hb⟩
    · rintro k s hk ⟨rfl, hn⟩
      try dsimp only
      have lt := w3 (p + k) (by omega) (by omega)
      unfold ds_lt at lt
      simp at lt
      have tb := (ht.2 (p + k) (by omega)).2.2.2 (by omega)
      have pin : fX8_in (nI (B (p + k))) 97 100 = some (ds_q (decide (B (p + k) ≤ 100))) := by
        refine (show fX8_in (nI (B (p + k))) 97 100 = _ from p_in (nI (B (p + k))) (a := 97) (b := 100) (by omega) (by omega) (by omega) (by omega)).trans ?_
        rw [n_toInt (by omega)]
        congr 2
        exact decide_eq_decide.mpr (by omega)
      unfold fX8_isRow_21_b
      rw [if_neg (nI_ge hk (by omega)), nI_add, if_pos (in_nI (show p + k < 1000 by omega) (by omega)), nI_clamp (by omega), tb, pin, Option.bind_some, nI_1]
      by_cases d : B (p + k) ≤ 100
      · left
        rw [decide_eq_true d, if_neg (show ¬ ds_q true = 0 by decide)]
        refine ⟨_, rfl, rfl, fun i h1 h2 => ?_⟩
        by_cases e : i = p + k
        · rw [e]; exact d
        · exact hn i h1 (by omega)
      · right
        rw [decide_eq_false d, if_pos (show ds_q false = 0 from rfl)]
        exact ⟨_, rfl, false, rfl, fun z => (by cases z), fun z => absurd (z.2 (p + k) (by omega) (by omega)) d⟩
    · rintro s ⟨rfl, hn⟩
      try dsimp only
      rw [show p + (q - p) = q by omega] at hn
      unfold fX8_isRow_21_b
      rw [if_pos (nI_le (Nat.le_refl _) (by omega))]
      exact ⟨_, rfl, true, rfl, fun _ => ⟨by omega, hn⟩, fun _ => rfl⟩
  · rw [if_neg (fun z => c ((n_le (by omega) (by omega)).mp z))]
    exact ⟨false, rfl, fun z => (by cases z), fun z => by omega⟩
