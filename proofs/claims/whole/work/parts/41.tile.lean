/-! a tile's words as sets of cells of the plane -/
def ds_ok (w h : Nat) : Prop := 1 ≤ w ∧ w ≤ 8 ∧ 1 ≤ h ∧ h ≤ 8
def ds_ins (w h i : Nat) : Bool := decide (i % 8 < w) && decide (i / 8 < h)
def ds_sub (w h : Nat) (a : Int64) : Prop := ∀ i, i < 64 → ds_b a i = true → i % 8 < w ∧ i / 8 < h
def ds_ix (w h : Nat) (x y : Int) : Nat := 8 * (y % h).toNat + (x % w).toNat
def ds_pt (w h : Nat) (a : Int64) (x y : Int) : Bool := ds_b a (ds_ix w h x y)
theorem ix_lt {w h : Nat} (hk : ds_ok w h) (x y : Int) : (x % w).toNat < w ∧ (y % h).toNat < h ∧ ds_ix w h x y < 64 ∧ ds_ix w h x y % 8 = (x % w).toNat ∧ ds_ix w h x y / 8 = (y % h).toNat := by
  obtain ⟨h1, h2, h3, h4⟩ := hk
  have a1 := Int.emod_nonneg x (b := (w : Int)) (by omega)
  have a2 := Int.emod_lt_of_pos x (b := (w : Int)) (by omega)
  have a3 := Int.emod_nonneg y (b := (h : Int)) (by omega)
  have a4 := Int.emod_lt_of_pos y (b := (h : Int)) (by omega)
  unfold ds_ix
  omega
theorem ix_in {w h x y : Nat} (hx : x < w) (hy : y < h) : ds_ix w h x y = 8 * y + x := by
  unfold ds_ix
  rw [Int.emod_eq_of_lt (by omega) (by omega), Int.emod_eq_of_lt (by omega) (by omega)]
  omega
theorem sub_ext {w h : Nat} {a b : Int64} (ha : ds_sub w h a) (hb : ds_sub w h b) (he : ∀ x y : Nat, x < w → y < h → ds_b a (8 * y + x) = ds_b b (8 * y + x)) : a = b := by
  apply b_ext
  intro i hi
  by_cases h1 : i % 8 < w ∧ i / 8 < h
  · have := he (i % 8) (i / 8) h1.1 h1.2
    rwa [show 8 * (i / 8) + i % 8 = i by omega] at this
  · cases e1 : ds_b a i
    · cases e2 : ds_b b i
      · rfl
      · exact absurd (hb i hi e2) h1
    · exact absurd (ha i hi e1) h1
theorem sub_at {w h : Nat} (hk : ds_ok w h) {a b : Int64} (ha : ds_sub w h a) (hb : ds_sub w h b) : a = b ↔ ∀ x y : Int, ds_pt w h a x y = ds_pt w h b x y := by
  constructor
  · intro e x y; rw [e]
  · intro e
    refine sub_ext ha hb (fun x y hx hy => ?_)
    have := e x y
    unfold ds_pt at this
    rwa [ix_in hx hy] at this
-- the mask of all cells
def ds_all (w h : Nat) : Int64 := ((72340172838076673 : Int64) * ((ds_lshl (1 : Int64) (nI w)) - (1 : Int64))) &&& (ds_lushr (-1 : Int64) ((64 : Int32) - ((8 : Int32) * nI h)))
theorem p_all (w h : Nat) : fX6_all (nI w) (nI h) = some (ds_all w h) := rfl
theorem b_all0 : ∀ w, w < 9 → ∀ h, h < 9 → 1 ≤ w → 1 ≤ h → ∀ i, i < 64 → ds_b (ds_all w h) i = ds_ins w h i := by decide +kernel
theorem b_all {w h : Nat} (hk : ds_ok w h) {i : Nat} (hi : i < 64) : ds_b (ds_all w h) i = ds_ins w h i := b_all0 w (by have := hk.2.1; omega) h (by have := hk.2.2.2; omega) hk.1 hk.2.2.1 i hi
def ds_cols (x : Nat) : Int64 := (72340172838076673 : Int64) * ((ds_lshl (1 : Int64) (nI x)) - (1 : Int64))
theorem b_cols0 : ∀ x, x < 9 → 1 ≤ x → ∀ i, i < 64 → ds_b (ds_cols x) i = decide (i % 8 < x) := by decide +kernel
-- the remainder
theorem emod_tmod (z : Int) {b : Int} (hb : 0 < b) : z % b = if 0 ≤ z.tmod b then z.tmod b else z.tmod b + b := by
  have h1 := Int.mul_tdiv_add_tmod z b
  have h2 := Int.tmod_lt_of_pos z hb
  have h3 : -b < z.tmod b := by
    by_cases hz : 0 ≤ z
    · have := Int.tmod_nonneg b hz; omega
    · have h8 : (-z).tmod b = -(z.tmod b) := Int.neg_tmod z b
      have := Int.tmod_lt_of_pos (-z) hb; omega
  have h4 : z % b = (z.tmod b) % b := by
    have : z = z.tmod b + b * z.tdiv b := by omega
    rw [this, Int.add_mul_emod_self_left]
    rw [← this]
  rw [h4]
  split
  · exact Int.emod_eq_of_lt (by assumption) h2
  · have : (z.tmod b) % b = (z.tmod b + b) % b := by rw [Int.add_emod_right]
    rw [this]
    exact Int.emod_eq_of_lt (by omega) (by omega)
theorem p_rest {z : Int} {b : Nat} (h1 : -2147483648 ≤ z) (h2 : z < 2147483648) (h3 : 1 ≤ b) (h4 : b < 1000) : fX7_rest (ds_z z) (nI b) = some (nI (z % b).toNat) := by
  have hb : (0 : Int) < (b : Int) := by omega
  have e := emod_tmod z hb
  have t1 := Int.tmod_lt_of_pos z hb
  have m1 := Int.emod_nonneg z (b := (b : Int)) (by omega)
  unfold fX7_rest
  rw [z_nI, z_nI]
  have z0 : (0 : Int32) = ds_z 0 := rfl
  rw [z0]
  rw [if_pos ((z_lt (by omega) (by omega) (by omega) (by omega)).mpr hb), if_neg (fun q => by have := (z_eq (by omega) (by omega) (by omega) (by omega)).mp q; omega)]
  rw [z_rem h1 h2 hb (by omega)]
  have t2 : -2147483648 ≤ z.tmod b := by
    split at e <;> omega
  by_cases h : 0 ≤ z.tmod b
  · rw [if_pos ((z_le (by omega) (by omega) t2 (by omega)).mpr h)]
    rw [if_pos h] at e
    rw [Int.toNat_of_nonneg m1, e]
  · rw [if_neg (fun q => h ((z_le (by omega) (by omega) t2 (by omega)).mp q)), z_add]
    rw [if_neg h] at e
    rw [Int.toNat_of_nonneg m1, e]
theorem p_rest32 (x : Int32) {b : Nat} (h3 : 1 ≤ b) (h4 : b < 1000) : fX7_rest x (nI b) = some (nI (x.toInt % b).toNat) := by
  have := p_rest (z := x.toInt) (b := b) (by have := x.le_toInt; omega) (by have := x.toInt_lt; omega) h3 h4
  rwa [z_of] at this
-- rolling a set
theorem sh_64 {h : Nat} (y : Nat) (hy : y ≤ h) (hh : h ≤ 8) : (8 : Int32) * (nI h - nI y) = nI (8 * (h - y)) := by
  rw [z_nI, z_nI, z_nI, show (8 : Int32) = ds_z 8 from rfl, z_sub, z_mul]
  congr 1
  omega
theorem sh_8 (y : Nat) : (8 : Int32) * nI y = nI (8 * y) := by
  rw [z_nI, z_nI, show (8 : Int32) = ds_z 8 from rfl, z_mul]
  congr 1
theorem p_down {w h : Nat} (hk : ds_ok w h) {c : Int64} (hc : ds_sub w h c) {y : Nat} (hy : y < h) : ∃ c', fX6_rolledDown (nI w) (nI h) c (nI y) = some c' ∧ ds_sub w h c' ∧ ∀ x r : Nat, x < w → r < h → ds_b c' (8 * r + x) = ds_b c (8 * ((r + h - y) % h) + x) := by
  obtain ⟨k1, k2, k3, k4⟩ := id hk
  unfold fX6_rolledDown
  by_cases h0 : y = 0
  · subst h0
    refine ⟨c, by rw [if_pos nI_0], hc, fun x r hx hr => ?_⟩
    rw [show (r + h - 0) % h = r by rw [Nat.sub_zero, Nat.add_mod_right, Nat.mod_eq_of_lt hr]]
  · rw [if_neg (fun q => h0 (by have := (nI_eq (a := y) (b := 0) (by omega) (by omega)).mp q; exact this)), p_all]
    refine ⟨_, rfl, ?_, ?_⟩
    · intro i hi hb
      rw [sh_8, sh_64 y (by omega) k4, b_or, b_and, b_shl c (by omega), b_shr c (by omega), b_all hk hi] at hb
      rcases Bool.or_eq_true_iff.mp hb with h1 | h1
      · have := (Bool.and_eq_true_iff.mp h1).2
        unfold ds_ins at this
        simpa using this
      · by_cases h2 : 8 * (h - y) + i < 64
        · have := hc _ h2 h1
          omega
        · rw [b_big (by omega)] at h1; cases h1
    · intro x r hx hr
      rw [sh_8, sh_64 y (by omega) k4, b_or, b_and, b_shl c (by omega), b_shr c (by omega), b_all hk (by omega)]
      have hin : ds_ins w h (8 * r + x) = true := by unfold ds_ins; simp; omega
      rw [hin, Bool.and_true]
      have h64 : decide (8 * r + x < 64) = true := by simp; omega
      rw [h64, Bool.true_and]
      by_cases hry : y ≤ r
      · have e1 : (r + h - y) % h = r - y := by
          rw [show r + h - y = (r - y) + h by omega, Nat.add_mod_right, Nat.mod_eq_of_lt (by omega)]
        have e2 : ds_b c (8 * (h - y) + (8 * r + x)) = false := by
          cases e : ds_b c (8 * (h - y) + (8 * r + x))
          · rfl
          · by_cases h2 : 8 * (h - y) + (8 * r + x) < 64
            · have := hc _ h2 e; omega
            · rw [b_big (by omega)] at e; cases e
        rw [e1, e2, Bool.or_false, show decide (8 * y ≤ 8 * r + x) = true by simp; omega, Bool.true_and]
        congr 1; omega
      · have e1 : (r + h - y) % h = r + h - y := Nat.mod_eq_of_lt (by omega)
        rw [e1, show decide (8 * y ≤ 8 * r + x) = false by simp; omega, Bool.false_and, Bool.false_or]
        congr 1; omega
theorem p_along {w h : Nat} (hk : ds_ok w h) {c : Int64} (hc : ds_sub w h c) {a : Nat} (ha : a < w) : ∃ c', fX6_rolledAlong (nI w) (nI h) c (nI a) = some c' ∧ ds_sub w h c' ∧ ∀ x r : Nat, x < w → r < h → ds_b c' (8 * r + x) = ds_b c (8 * r + (x + w - a) % w) := by
  obtain ⟨k1, k2, k3, k4⟩ := id hk
  unfold fX6_rolledAlong
  by_cases h0 : a = 0
  · subst h0
    refine ⟨c, by rw [if_pos nI_0], hc, fun x r hx hr => ?_⟩
    rw [show (x + w - 0) % w = x by rw [Nat.sub_zero, Nat.add_mod_right, Nat.mod_eq_of_lt hx]]
  · rw [if_neg (fun q => h0 (by have := (nI_eq (a := a) (b := 0) (by omega) (by omega)).mp q; exact this)), p_all]
    have ew : nI w - nI a = nI (w - a) := by
      rw [z_nI, z_nI, z_nI, z_sub]; congr 1; omega
    have ec : ((72340172838076673 : Int64) * ((ds_lshl (1 : Int64) (nI a)) - (1 : Int64))) = ds_cols a := rfl
    refine ⟨_, rfl, ?_, ?_⟩
    · intro i hi hb
      rw [ec, ew, b_or, b_and, b_and, b_and, b_not hi, b_shl c (by omega), b_shr c (by omega), b_all hk hi, b_cols0 a (by omega) (by omega) i hi] at hb
      rcases Bool.or_eq_true_iff.mp hb with h1 | h1
      · have := (Bool.and_eq_true_iff.mp (Bool.and_eq_true_iff.mp h1).1).2
        unfold ds_ins at this
        simpa using this
      · have h2 := Bool.and_eq_true_iff.mp h1
        have h3 : i % 8 < a := by simpa using h2.2
        by_cases h4 : (w - a) + i < 64
        · have := hc _ h4 h2.1
          omega
        · rw [b_big (by omega)] at h2; cases h2.1
    · intro x r hx hr
      rw [ec, ew, b_or, b_and, b_and, b_and, b_not (by omega), b_shl c (by omega), b_shr c (by omega), b_all hk (by omega), b_cols0 a (by omega) (by omega) _ (by omega)]
      have hin : ds_ins w h (8 * r + x) = true := by unfold ds_ins; simp; omega
      rw [hin, Bool.and_true]
      have h64 : decide (8 * r + x < 64) = true := by simp; omega
      rw [h64, Bool.true_and]
      by_cases hxa : a ≤ x
      · have e1 : (x + w - a) % w = x - a := by
          rw [show x + w - a = (x - a) + w by omega, Nat.add_mod_right, Nat.mod_eq_of_lt (by omega)]
        rw [e1, show decide ((8 * r + x) % 8 < a) = false by simp; omega, show decide (a ≤ 8 * r + x) = true by simp; omega]
        simp only [Bool.and_false, Bool.or_false, Bool.not_false, Bool.and_true, Bool.true_and]
        congr 1; omega
      · have e1 : (x + w - a) % w = x + w - a := Nat.mod_eq_of_lt (by omega)
        rw [e1, show decide ((8 * r + x) % 8 < a) = true by simp; omega]
        simp only [Bool.not_true, Bool.and_false, Bool.false_or, Bool.and_true]
        congr 1; omega
theorem mod_sub {n : Nat} (hn : 1 ≤ n) (x a : Int) : ((((x % n).toNat : Nat) + n - (a % n).toNat) % n : Nat) = ((x - a) % n).toNat := by
  have a1 := Int.emod_nonneg x (b := (n : Int)) (by omega)
  have a2 := Int.emod_lt_of_pos x (b := (n : Int)) (by omega)
  have a3 := Int.emod_nonneg a (b := (n : Int)) (by omega)
  have a4 := Int.emod_lt_of_pos a (b := (n : Int)) (by omega)
  have a5 := Int.emod_nonneg (x - a) (b := (n : Int)) (by omega)
  apply Int.ofNat_inj.mp
  rw [Int.toNat_of_nonneg a5, Int.natCast_emod, Int.ofNat_sub (by omega), Int.natCast_add, Int.toNat_of_nonneg a1, Int.toNat_of_nonneg a3]
  have e : x % (n : Int) + (n : Int) - a % (n : Int) = (x % (n : Int) - a % (n : Int)) + n := by omega
  rw [e, Int.add_emod_right, ← Int.sub_emod]
theorem at_in {w h : Nat} (hk : ds_ok w h) (c : Int64) (x y : Int) : ds_pt w h c x y = ds_b c (8 * (y % h).toNat + (x % w).toNat) := rfl
theorem p_rolled {w h : Nat} (hk : ds_ok w h) {c : Int64} (hc : ds_sub w h c) {a b : Int} (h1 : -2147483648 ≤ a) (h2 : a < 2147483648) (h3 : -2147483648 ≤ b) (h4 : b < 2147483648) : ∃ c', fX6_rolled (nI w) (nI h) c (ds_z a) (ds_z b) = some c' ∧ ds_sub w h c' ∧ ∀ x y : Int, ds_pt w h c' x y = ds_pt w h c (x - a) (y - b) := by
  obtain ⟨k1, k2, k3, k4⟩ := id hk
  have b1 := Int.emod_nonneg b (b := (h : Int)) (by omega)
  have b2 := Int.emod_lt_of_pos b (b := (h : Int)) (by omega)
  have b3 := Int.emod_nonneg a (b := (w : Int)) (by omega)
  have b4 := Int.emod_lt_of_pos a (b := (w : Int)) (by omega)
  obtain ⟨c1, e1, s1, g1⟩ := p_down hk hc (y := (b % h).toNat) (by omega)
  obtain ⟨c2, e2, s2, g2⟩ := p_along hk s1 (a := (a % w).toNat) (by omega)
  refine ⟨c2, ?_, s2, fun x y => ?_⟩
  · unfold fX6_rolled
    rw [p_rest h3 h4 k3 (by omega), Option.bind_some, e1, Option.bind_some, p_rest h1 h2 k1 (by omega), Option.bind_some, e2, Option.bind_some]
  · obtain ⟨i1, i2, i3, i4, i5⟩ := ix_lt hk x y
    unfold ds_pt ds_ix
    rw [g2 _ _ i1 i2, mod_sub k1 x a]
    obtain ⟨j1, j2, -⟩ := ix_lt hk (x - a) y
    rw [g1 _ _ j1 j2, mod_sub k3 y b]
