/-! texts: tell, fault, read -/
theorem nar_b (x : Int32) : vp_nar .byte x = x.toInt8.toInt32 := rfl
theorem nar_255 (x : Int32) : vp_nar .byte x &&& 255 = x &&& 255 := by
  rw [nar_b]
  apply Int32.toBitVec.inj
  apply BitVec.eq_of_getLsbD_eq
  intro i hi
  have e1 : (x.toInt8.toInt32 &&& 255).toBitVec = ((x.toBitVec.signExtend 8).signExtend 32) &&& 255#32 := rfl
  have e2 : (x &&& 255).toBitVec = x.toBitVec &&& 255#32 := rfl
  rw [e1, e2, BitVec.getLsbD_and, BitVec.getLsbD_and]
  by_cases c : i < 8
  · rw [BitVec.getLsbD_signExtend, BitVec.getLsbD_signExtend]
    simp [c, hi]
  · have : (255#32).getLsbD i = false := by
      have : ∀ i, i < 32 → ¬ i < 8 → (255#32).getLsbD i = false := by decide
      exact this i hi c
    rw [this, Bool.and_false, Bool.and_false]
theorem nar_n : ∀ b, b < 128 → vp_nar .byte (nI b) = nI b := by decide +kernel
theorem u_255 (x : Int64) : x.toInt32 &&& (255 : Int32) = nI (ds_u x % 256) := by
  apply Int32.toBitVec.inj
  apply BitVec.eq_of_toNat_eq
  have e : (x.toInt32 &&& (255 : Int32)).toBitVec = x.toBitVec.signExtend 32 &&& 255#32 := rfl
  have e2 : (nI (ds_u x % 256)).toBitVec = BitVec.ofNat 32 (ds_u x % 256) := rfl
  rw [e, e2, BitVec.toNat_and, BitVec.signExtend_eq_setWidth_of_le _ (by omega), BitVec.toNat_setWidth, BitVec.toNat_ofNat, BitVec.toNat_ofNat]
  unfold ds_u
  rw [show (255 : Nat) % 2 ^ 32 = 2 ^ 8 - 1 by decide, Nat.and_two_pow_sub_one_eq_mod]
  omega
theorem lshr_low (x : Int64) {s : Nat} (hs : s ≤ 56) : ds_u (ds_lshr x (nI s)) % 256 = ds_u x / 2 ^ s % 256 := by
  have e : (ds_lshr x (nI s)).toBitVec = x.toBitVec.sshiftRight (((nI s).toInt64 &&& 63).toBitVec.smod 64).toNat := rfl
  have e1 := b_sa s (by omega)
  apply Nat.eq_of_testBit_eq
  intro i
  rw [show (256 : Nat) = 2 ^ 8 from rfl, Nat.testBit_mod_two_pow, Nat.testBit_mod_two_pow]
  by_cases c : i < 8
  · rw [decide_eq_true c, Bool.true_and, Bool.true_and, Nat.testBit_div_two_pow]
    have l : (ds_u (ds_lshr x (nI s))).testBit i = (ds_lshr x (nI s)).toBitVec.getLsbD i := rfl
    have r : (ds_u x).testBit (s + i) = x.toBitVec.getLsbD (s + i) := rfl
    rw [l, Nat.add_comm i s, r, e, e1, BitVec.getLsbD_sshiftRight]
    have h1 : ¬ 64 ≤ i := by omega
    have h2 : s + i < 64 := by omega
    simp [h1, h2]
  · rw [decide_eq_false c, Bool.false_and, Bool.false_and]
theorem i8_of : ∀ b, b < 256 → (vp_nar .byte (Int8.ofNat b).toInt32) &&& 255 = nI b ∧ (b < 128 → vp_nar .byte (Int8.ofNat b).toInt32 = nI b) := by decide +kernel
def ds_byk (x : Int64) (k : Nat) : Nat := ds_u x / 2 ^ (56 - 8 * k) % 256
theorem k56 : ∀ k, k < 8 → (56 : Int32) - 8 * nI k = nI (56 - 8 * k) := by decide +kernel
theorem t_byteOf (x : Int64) {k : Nat} (hk : k < 8) : fX5_byteOf x (nI k) = some (nI (ds_byk x k)) := by
  unfold fX5_byteOf
  rw [k56 k hk, u_255, u_shr x (by omega)]
  rfl
theorem m_byte0 (x : Int64) {k : Nat} (hk : k < 8) : lg_cmp ((ds_lshr x ((56 : Int32) - 8 * nI k)) &&& 255) 0 = 0 ↔ ds_byk x k = 0 := by
  rw [b_cmp, u_inj, u_and, k56 k hk, show ds_u 255 = 2 ^ 8 - 1 from rfl, Nat.and_two_pow_sub_one_eq_mod, show ds_u 0 = 0 from rfl]
  have := lshr_low x (s := 56 - 8 * k) (by omega)
  unfold ds_byk
  omega
theorem m_byteV (x : Int64) {k : Nat} (hk : k < 8) : vp_nar .byte ((ds_lshr x ((56 : Int32) - 8 * nI k)).toInt32.toInt8.toInt32) &&& 255 = nI (ds_byk x k) ∧ (ds_byk x k < 128 → vp_nar .byte ((ds_lshr x ((56 : Int32) - 8 * nI k)).toInt32.toInt8.toInt32) = nI (ds_byk x k)) := by
  have lt : ds_byk x k < 256 := Nat.mod_lt _ (by omega)
  have e : (ds_lshr x ((56 : Int32) - 8 * nI k)).toInt32.toInt8 = Int8.ofNat (ds_byk x k) := by
    apply Int8.toBitVec.inj
    apply BitVec.eq_of_toNat_eq
    rw [k56 k hk]
    have e1 : (ds_lshr x (nI (56 - 8 * k))).toInt32.toInt8.toBitVec = ((ds_lshr x (nI (56 - 8 * k))).toBitVec.signExtend 32).signExtend 8 := rfl
    have e2 : (Int8.ofNat (ds_byk x k)).toBitVec = BitVec.ofNat 8 (ds_byk x k) := rfl
    rw [e1, e2, BitVec.signExtend_eq_setWidth_of_le _ (by omega), BitVec.signExtend_eq_setWidth_of_le _ (by omega), BitVec.toNat_setWidth, BitVec.toNat_setWidth, BitVec.toNat_ofNat]
    have := lshr_low x (s := 56 - 8 * k) (by omega)
    unfold ds_u at this
    unfold ds_byk ds_u
    omega
  rw [e]
  exact i8_of _ lt
theorem lead (f : Nat → Nat) : ∀ d a, a + d = 8 → ∃ m, a ≤ m ∧ m ≤ 8 ∧ (∀ k, a ≤ k → k < m → ¬ f k = 0) ∧ (m = 8 ∨ f m = 0) := by
  intro d
  induction d with
  | zero => intro a h; exact ⟨a, by omega, by omega, fun k h1 h2 => by omega, Or.inl (by omega)⟩
  | succ d ih =>
    intro a h
    by_cases c : f a = 0
    · exact ⟨a, by omega, by omega, fun k h1 h2 => by omega, Or.inr c⟩
    · obtain ⟨m, m1, m2, m3, m4⟩ := ih (a + 1) (by omega)
      refine ⟨m, by omega, m2, fun k h1 h2 => ?_, m4⟩
      by_cases e : k = a
      · rw [e]; exact c
      · exact m3 k (by omega) h2
def ds_PT (len : Int32) (by_ : Nat → Int32) (szr : Int32) (tx : Nat → Int32) : Prop := ∃ L B, len = nI L ∧ szr = nI L ∧ ds_Tx L B by_ tx
theorem q_tell {len : Int32} {by_ al tx : Nat → Int32} (hp : ds_PT len by_ (al 67) tx) (x : Int64) : ∃ v len' by' al' tx', fX7_tell len by_ x = some (v, len', by') ∧ fX8_tell al tx x = some (v, 0, al', tx') ∧ ds_PT len' by' (al' 67) tx' ∧ (∀ j, j ≠ 67 → al' j = al j) ∧ ∀ j, 200 ≤ j → tx' j = tx j := by
  obtain ⟨L, B, rfl, hz, l, hT⟩ := hp
  obtain ⟨m, _, m2, m3, m4⟩ := lead (ds_byk x) 8 0 (by omega)
  have stay : ds_PT (nI L) by_ (al 67) tx := ⟨L, B, rfl, hz, l, hT⟩
  have l67 : (67 : Int32).toNatClampNeg = 67 := rfl
  -- how many
  have c1 : fX5_append (nI L) by_ x = fX5_append_22 (nI L) by_ x (nI m) := by
    unfold fX5_append fX5_append_2
    have fin := ds_it_up (fun s : Int32 => fX5_append_2_b (nI L) by_ x s) (fun k => nI k) m 1000 (fX5_append_22 (nI L) by_ x (nI m)) (fun k hk => by
      try dsimp only
      unfold fX5_append_2_b
      have lt : ds_byk x k < 256 := Nat.mod_lt _ (by omega)
      rw [show (8 : Int32) = nI 8 from rfl, if_neg (nI_ge (show k < 8 by omega) (by omega)), t_byteOf x (by omega), Option.bind_some, if_neg (fun z => m3 k (by omega) hk ((n_eq0 (by omega)).mp z)), nI_1]) (by
      try dsimp only
      unfold fX5_append_2_b
      by_cases c : m = 8
      · rw [show (8 : Int32) = nI 8 from rfl, if_pos (nI_le (by omega) (by omega))]
        cases fX5_append_22 (nI L) by_ x (nI m) <;> rfl
      · have m0 : ds_byk x m = 0 := by
          rcases m4 with h | h
          · exact absurd h c
          · exact h
        rw [show (8 : Int32) = nI 8 from rfl, if_neg (nI_ge (show m < 8 by omega) (by omega)), t_byteOf x (by omega), Option.bind_some, m0, if_pos (show nI 0 = 0 from rfl)]
        cases fX5_append_22 (nI L) by_ x (nI m) <;> rfl) (by omega)
    exact fin
  have r1 : fX8_tell al tx x = fX8_tell_37 0 al tx x (nI m) := by
    unfold fX8_tell fX8_tell_7
    have fin := ds_it_up (fun s : Int32 => fX8_tell_7_b 0 al tx x s) (fun k => nI k) m 1000 (fX8_tell_37 0 al tx x (nI m)) (fun k hk => by
      try dsimp only
      unfold fX8_tell_7_b
      have nz := m3 k (by omega) hk
      have h0 := m_byte0 x (show k < 8 by omega)
      rw [if_neg (show ¬ (8 : Int32) ≤ nI k from nI_ge (b := 8) (by omega) (by omega)), if_neg (fun z => nz (h0.mp z)), nI_1]) (by
      try dsimp only
      unfold fX8_tell_7_b
      by_cases c : m = 8
      · rw [if_pos (show (8 : Int32) ≤ nI m from nI_le (a := 8) (by omega) (by omega))]
        cases fX8_tell_37 0 al tx x (nI m) <;> rfl
      · have m0 : ds_byk x m = 0 := by
          rcases m4 with h | h
          · exact absurd h c
          · exact h
        have h0 := m_byte0 x (show m < 8 by omega)
        rw [if_neg (show ¬ (8 : Int32) ≤ nI m from nI_ge (b := 8) (by omega) (by omega)), if_pos (h0.mpr m0)]
        cases fX8_tell_37 0 al tx x (nI m) <;> rfl) (by omega)
    exact fin
  unfold fX7_tell
  rw [c1, r1]
  unfold fX5_append_22 fX8_tell_37
  rw [l67, hz, nI_add, show (200 : Int32) = nI 200 from rfl]
  by_cases c : L + m ≤ 200
  rotate_left
  · have c' : ¬ nI (L + m) ≤ nI 200 := fun z => c ((n_le (by omega) (by omega)).mp z)
    rw [if_neg c', if_neg c']
    exact ⟨_, _, _, _, _, rfl, rfl, stay, fun _ _ => rfl, fun _ _ => rfl⟩
  have c' : nI (L + m) ≤ nI 200 := (n_le (by omega) (by omega)).mpr c
  rw [if_pos c', if_pos c']
  obtain ⟨B', hB'⟩ : ∃ B' : Nat → Nat, ∀ i, B' i = if i < L then B i else ds_byk x (i - L) := ⟨_, fun _ => rfl⟩
  have cls : ∃ by', fX5_append_39 x (nI m) 0 (nI L) by_ = some (nI (L + m), nI (L + m), by') ∧ ∀ i, i < L + m → by' i = nI (B' i) := by
    unfold fX5_append_39
    have fin := ds_it_inv (fun s : Int32 × Int32 × (Nat → Int32) => fX5_append_39_b x (nI m) s.1 s.2.1 s.2.2) (fun k s => ∃ by', s = (nI k, nI (L + k), by') ∧ ∀ i, i < L + k → by' i = nI (B' i)) (fun r => ∃ by', r = (nI (L + m), nI (L + m), by') ∧ ∀ i, i < L + m → by' i = nI (B' i)) m 1000 0 (0, nI L, by_) (Nat.zero_le _) ⟨by_, rfl, fun i hi => by rw [(hT i (by omega)).2.1, hB', if_pos (by omega)]⟩ (by omega) ?_ ?_
    · obtain ⟨r, e, by', rfl, q⟩ := fin
      exact ⟨by', e, q⟩
    · rintro k s hk ⟨by', rfl, q⟩
      left
      try dsimp only
      unfold fX5_append_39_b
      rw [if_neg (nI_ge hk (by omega)), show (200 : Int32) = nI 200 from rfl, if_neg (nI_ge (show L + k < 200 by omega) (by omega)), t_byteOf x (by omega), Option.bind_some, if_pos (in_nI (show L + k < 200 by omega) (by omega)), nI_clamp (by omega), nI_1, nI_1]
      refine ⟨_, rfl, _, rfl, fun i hi => ?_⟩
      by_cases e : i = L + k
      · rw [e, upd_at, hB', if_neg (by omega), show L + k - L = k by omega]
      · rw [upd_ne _ _ e]; exact q i (by omega)
    · rintro s ⟨by', rfl, q⟩
      try dsimp only
      unfold fX5_append_39_b fX5_append_88
      rw [if_pos (nI_le (Nat.le_refl _) (by omega))]
      exact ⟨_, rfl, by', rfl, q⟩
  have ref : ∃ al' tx', fX8_tell_57 0 x (nI m) 0 al tx = some (nI (L + m), 0, al', tx') ∧ al' 67 = nI (L + m) ∧ (∀ j, j ≠ 67 → al' j = al j) ∧ (∀ i, i < L + m → tx' i &&& 255 = nI (B' i) ∧ (B' i < 128 → tx' i = nI (B' i))) ∧ ∀ j, 200 ≤ j → tx' j = tx j := by
    unfold fX8_tell_57
    have fin := ds_it_inv (fun s : Int32 × (Nat → Int32) × (Nat → Int32) => fX8_tell_57_b 0 x (nI m) s.1 s.2.1 s.2.2) (fun k s => ∃ al' tx', s = (nI k, al', tx') ∧ al' 67 = nI (L + k) ∧ (∀ j, j ≠ 67 → al' j = al j) ∧ (∀ i, i < L + k → tx' i &&& 255 = nI (B' i) ∧ (B' i < 128 → tx' i = nI (B' i))) ∧ ∀ j, 200 ≤ j → tx' j = tx j) (fun r => ∃ al' tx', r = (nI (L + m), 0, al', tx') ∧ al' 67 = nI (L + m) ∧ (∀ j, j ≠ 67 → al' j = al j) ∧ (∀ i, i < L + m → tx' i &&& 255 = nI (B' i) ∧ (B' i < 128 → tx' i = nI (B' i))) ∧ ∀ j, 200 ≤ j → tx' j = tx j) m 1000 0 (0, al, tx) (Nat.zero_le _) ⟨al, tx, rfl, hz, fun _ _ => rfl, fun i hi => by rw [hB', if_pos (by omega)]; exact (hT i (by omega)).2.2, fun _ _ => rfl⟩ (by omega) ?_ ?_
    · obtain ⟨r, e, al', tx', rfl, q⟩ := fin
      exact ⟨al', tx', e, q⟩
    · rintro k s hk ⟨al', tx', rfl, q1, q2, q3, q4⟩
      left
      try dsimp only
      obtain ⟨v1, v2⟩ := m_byteV x (show k < 8 by omega)
      unfold fX8_tell_57_b
      rw [if_neg (nI_ge hk (by omega)), l67, q1, if_pos (in_nI (show L + k < 1000 by omega) (by omega)), Option.bind_some, nI_clamp (by omega), nI_1, nI_1]
      refine ⟨_, rfl, _, _, rfl, upd_at _ _ _, fun j hj => by rw [upd_ne _ _ hj]; exact q2 j hj, fun i hi => ?_, fun j hj => by rw [upd_ne _ _ (by omega)]; exact q4 j hj⟩
      by_cases e : i = L + k
      · rw [e, upd_at, hB', if_neg (by omega), show L + k - L = k by omega]
        exact ⟨v1, v2⟩
      · rw [upd_ne _ _ e]; exact q3 i (by omega)
    · rintro s ⟨al', tx', rfl, q1, q2, q3, q4⟩
      try dsimp only
      unfold fX8_tell_57_b fX8_tell_104
      rw [if_pos (nI_le (Nat.le_refl _) (by omega)), l67, q1]
      exact ⟨_, rfl, al', tx', rfl, q1, q2, q3, q4⟩
  obtain ⟨by', e1, g1⟩ := cls
  obtain ⟨al', tx', e2, h1, h2, h3, h4⟩ := ref
  rw [e1, Option.bind_some, e2]
  refine ⟨_, _, _, _, _, rfl, rfl, ⟨L + m, B', rfl, h1, c, fun i hi => ⟨?_, g1 i hi, h3 i hi⟩⟩, h2, h4⟩
  rw [hB']
  split
  · next hl => exact (hT i hl).1
  · exact Nat.mod_lt _ (by omega)
theorem q_read {w h : Nat} (hk : ds_ok w h) {hex : Bool} {o t : Int64} (ho : ds_sub w h o) (hto : ds_sub w h t) {al : Nat → Int32} (hm : ds_MT w h hex o t al) {nx sz ud : Int32} {T : Nat → ds_TV} {un : Nat → Int32} (hh : ds_HI nx sz T ud un) {len : Int32} {by_ tx : Nat → Int32} (hp : ds_PT len by_ (al 67) tx) (wr : Int32) (told : Nat → Int32) :
    ∃ (v d1 d2 d3 : Int32) (d4 d5 : Int64) (fa pl rows W H X : Int32) (O U : Int64) (sz' ud' a1 a2 a3 a4 a5 : Int32) (a6 : Int64) (a7 a8 a9 : Int32) (al' told' : Nat → Int32), fX7_read len by_ (nI w) (nI h) (ds_q hex) o t sz = some (v, d1, d2, d3, d4, d5, 0, fa, pl, rows, W, H, X, O, U, sz') ∧ fX8_read ud wr al told tx = some (v, 0, ud', a1, a2, a3, a4, a5, a6, a7, a8, a9, al', told') ∧ al' 67 = 0 ∧ al' 68 = fa ∧ al' 69 = pl ∧ (∀ j, 70 ≤ j → al' j = al j) ∧ ∃ (w' h' : Nat) (hex' : Bool), ds_ok w' h' ∧ W = nI w' ∧ H = nI h' ∧ X = ds_q hex' ∧ ds_sub w' h' O ∧ ds_sub w' h' U ∧ ds_MT w' h' hex' O U al' ∧ ds_HI nx sz' T ud' un := by
  obtain ⟨L, B, rfl, hz, ht⟩ := hp
  have l := ht.1
  have l67 : (67 : Int32).toNatClampNeg = 67 := rfl
  obtain ⟨al0, hal0⟩ : ∃ al0, al0 = upd al 67 0 := ⟨_, rfl⟩
  -- told is cleared
  have clr : ∃ t0, (∀ j, j < 67 → t0 j = 0) ∧ fX8_read ud wr al told tx = fX8_read_45 0 ud (nI L) wr al0 t0 tx := by
    unfold fX8_read fX8_read_26
    rw [l67, hz, ← hal0]
    obtain ⟨A, hA⟩ : ∃ A : Nat → Nat → Int32, ∀ k j, A k j = if j < k then 0 else told j := ⟨_, fun _ _ => rfl⟩
    refine ⟨A 67, fun j hj => by rw [hA, if_pos hj], ?_⟩
    have fin := ds_it_up (fun s : Int32 × (Nat → Int32) => fX8_read_26_b 0 ud (nI L) wr al0 tx s.1 s.2) (fun k => (nI k, A k)) 67 1000 (fX8_read_45 0 ud (nI L) wr al0 (A 67) tx) (fun k hk6 => by
      try dsimp only
      unfold fX8_read_26_b
      rw [show (67 : Int32) = nI 67 from rfl, if_neg (nI_ge hk6 (by omega)), if_pos (in_nI hk6 (by omega)), nI_clamp (by omega), nI_1]
      have : upd (A k) k 0 = A (k + 1) := by
        funext j
        by_cases e : j = k
        · rw [e, upd_at, hA, if_pos (by omega)]
        · rw [upd_ne _ _ e, hA, hA]
          by_cases d : j < k
          · rw [if_pos d, if_pos (by omega)]
          · rw [if_neg d, if_neg (by omega)]
      rw [this]) (by
      try dsimp only
      unfold fX8_read_26_b
      rw [if_pos (by decide)]
      cases fX8_read_45 0 ud (nI L) wr al0 (A 67) tx <;> rfl) (by omega)
    have A0 : A 0 = told := by funext j; rw [hA, if_neg (by omega)]
    rw [show ((0 : Int32), told) = (nI 0, A 0) by rw [A0]; rfl]
    exact fin
  obtain ⟨t0, ht0, er⟩ := clr
  rw [er]
  obtain ⟨p, hs⟩ := SK_ex B (Nat.zero_le L)
  obtain ⟨r, er2, hk2⟩ := m_token ht hs
  have hD : ds_DR 0 0 1 1 0 0 0 t0 := ⟨by rw [ht0 1 (by omega)]; rfl, fun _ => ⟨by omega, false, rfl, by rw [ht0 2 (by omega)]; rfl, fun _ => ⟨rfl, rfl, ht0 0 (by omega), fun i hi => ht0 _ (by omega)⟩, fun z => by omega⟩, fun z => absurd rfl z⟩
  obtain ⟨cr, rr, g1, g2, g3⟩ := sim ht 0 ud al0 L 0 (by omega) p 0 0 0 (-1) 1 1 0 0 0 t0 wr r (Nat.zero_le L) hs (Nat.le_refl 0) (Nat.le_refl 0) hD hk2
  have g1' := g1 1000 (by omega)
  have g2' := g2 1000 (by omega)
  have cls : fX5_firstMisfit (nI L) 0 (-1) 0 by_ 1 1 0 0 0 = some cr := g1'
  have ref : fX8_read_45 0 ud (nI L) wr al0 t0 tx = some rr := by
    unfold fX8_read_45 fX8_read_66
    rw [show (0 : Int32) = nI 0 from rfl, er2, Option.bind_some]
    exact g2'
  rw [ref]
  obtain ⟨m, fa, pl, R, W, H, X, O, U, a1, a2, a3, a4, a5, a6, a7, a8, a9, tl, rfl, fin⟩ := g3
  unfold fX7_read fX5_readInto
  have cl0 : fX6_clear 1 1 0 = some (1, 1, 0, 0, 0) := rfl
  rw [cl0, Option.bind_some]
  dsimp only
  rw [cls, Option.bind_some]
  dsimp only
  have hm0 : ∀ (a b : Int32), ds_MT w h hex o t (upd (upd al0 68 a) 69 b) := by
    intro a b
    refine MT_cong hm (fun j hj => ?_)
    rw [upd_ne _ _ (by omega), upd_ne _ _ (by omega), hal0, upd_ne _ _ (by omega)]
  have lo : ∀ (a b : Int32), upd (upd al0 68 a) 69 b 67 = 0 ∧ upd (upd al0 68 a) 69 b 68 = a ∧ upd (upd al0 68 a) 69 b 69 = b ∧ ∀ j, 70 ≤ j → upd (upd al0 68 a) 69 b j = al j := by
    intro a b
    refine ⟨by rw [upd_ne _ _ (by omega), upd_ne _ _ (by omega), hal0, upd_at], by rw [upd_ne _ _ (by omega), upd_at], upd_at _ _ _, fun j hj => by rw [upd_ne _ _ (by omega), upd_ne _ _ (by omega), hal0, upd_ne _ _ (by omega)]⟩
  rcases fin with ⟨x, hx, rfl, rfl⟩ | ⟨rfl, f0, rfl⟩ | ⟨rfl, rfl, hDf, hR, al', rfl, e2, e3⟩
  · have nm : ¬ nI x = -1 := by
      intro z
      have := congrArg Int32.toInt z
      rw [n_toInt (by omega)] at this
      rw [show (-1 : Int32).toInt = -1 from rfl] at this
      omega
    obtain ⟨b1, b2, b3, b4⟩ := lo 1 (nI x)
    unfold fX5_readInto_43
    rw [if_neg nm, if_neg (show ¬ (1 : Int32) = 0 by decide), Option.bind_some]
    exact ⟨_, _, _, _, _, _, _, _, _, _, _, _, _, _, _, _, _, _, _, _, _, _, _, _, _, _, _, rfl, rfl, b1, b2, b3, b4, w, h, hex, hk, rfl, rfl, rfl, ho, hto, hm0 _ _, hh⟩
  · obtain ⟨b1, b2, b3, b4⟩ := lo fa pl
    unfold fX5_readInto_43
    rw [if_pos rfl, if_neg f0, Option.bind_some]
    exact ⟨_, _, _, _, _, _, _, _, _, _, _, _, _, _, _, _, _, _, _, _, _, _, _, _, _, _, _, rfl, rfl, b1, b2, b3, b4, w, h, hex, hk, rfl, rfl, rfl, ho, hto, hm0 _ _, hh⟩
  · obtain ⟨b1, b2, b3, b4⟩ := lo 0 pl
    obtain ⟨d1, d2, d3⟩ := hDf
    obtain ⟨R8, hex', x1, x2, z0, z1⟩ := d2 rfl
    obtain ⟨w', hk', y1, y2, y3, so', su', hc⟩ := z1 hR
    subst x1 y1 y2
    obtain ⟨n, s, hn, hs', h1, h2, h3, hT⟩ := hh
    have cp : fX6_copyFrom (nI w') (nI R) (ds_q hex') O U = some (nI w', nI R, ds_q hex', O, U) := by unfold fX6_copyFrom; rw [if_pos (q_01 hex')]
    have t1 : tl 1 = nI R := by rw [d1, show min R 8 = R by omega]
    unfold fX5_readInto_43 fX4_clear fX6_cells
    rw [if_pos rfl, if_pos rfl, Option.bind_some]
    dsimp only
    rw [if_neg (show ¬ (1 : Int32) = 0 by decide), cp, Option.bind_some, Option.bind_some, Option.bind_some]
    dsimp only
    rw [show al' 0 * al' 1 = nI w' * nI R by rw [e2 0 (by omega), e2 1 (by omega), y3, t1]]
    exact ⟨_, _, _, _, _, _, _, _, _, _, _, _, _, _, _, _, _, _, _, _, _, _, _, _, _, _, _, rfl, rfl, by rw [e3 67 (by omega), b1], by rw [e3 68 (by omega), b2], by rw [e3 69 (by omega), b3], fun j hj => by rw [e3 j (by omega), b4 j hj], w', R, hex', hk', rfl, rfl, rfl, so', su', ⟨by rw [e2 0 (by omega), y3], by rw [e2 1 (by omega), t1], by rw [e2 2 (by omega), x2], fun i hi => by rw [e2 _ (by omega), hc i hi]⟩, ⟨n, 0, hn, by omega, h1, rfl, rfl, fun i hi => by omega⟩⟩
theorem q_fault {fa pl : Int32} {al : Nat → Int32} (h1 : al 68 = fa) (h2 : al 69 = pl) (p : Int32) : ∃ v, fX7_fault fa pl p = some v ∧ fX8_fault al p = some (v, 0) := by
  unfold fX7_fault fX8_fault
  rw [show (68 : Int32).toNatClampNeg = 68 from rfl, show (69 : Int32).toNatClampNeg = 69 from rfl, h1, h2]
  by_cases c : p = 0
  · rw [if_pos c, if_pos c]; exact ⟨_, rfl, rfl⟩
  · rw [if_neg c, if_neg c]; exact ⟨_, rfl, rfl⟩
