/-! numbers: an int by its whole number, a long by its bits -/
def ds_z (z : Int) : Int32 := Int32.ofInt z
theorem z_nI (n : Nat) : nI n = ds_z n := (Int32.ofInt_eq_ofNat).symm
theorem z_of (x : Int32) : ds_z x.toInt = x := Int32.ofInt_toInt x
theorem z_add (a b : Int) : ds_z a + ds_z b = ds_z (a + b) := (Int32.ofInt_add a b).symm
theorem z_sub (a b : Int) : ds_z a - ds_z b = ds_z (a - b) := (Int32.ofInt_sub a b).symm
theorem z_mul (a b : Int) : ds_z a * ds_z b = ds_z (a * b) := (Int32.ofInt_mul a b).symm
theorem z_neg (a : Int) : -ds_z a = ds_z (-a) := (Int32.ofInt_neg a).symm
theorem z_toInt {a : Int} (h1 : -2147483648 ≤ a) (h2 : a < 2147483648) : (ds_z a).toInt = a := Int32.toInt_ofInt_of_le (by omega) (by omega)
theorem z_lt {a b : Int} (h1 : -2147483648 ≤ a) (h2 : a < 2147483648) (h3 : -2147483648 ≤ b) (h4 : b < 2147483648) : ds_z a < ds_z b ↔ a < b := by
  rw [Int32.lt_iff_toInt_lt, z_toInt h1 h2, z_toInt h3 h4]
theorem z_le {a b : Int} (h1 : -2147483648 ≤ a) (h2 : a < 2147483648) (h3 : -2147483648 ≤ b) (h4 : b < 2147483648) : ds_z a ≤ ds_z b ↔ a ≤ b := by
  rw [Int32.le_iff_toInt_le, z_toInt h1 h2, z_toInt h3 h4]
theorem z_eq {a b : Int} (h1 : -2147483648 ≤ a) (h2 : a < 2147483648) (h3 : -2147483648 ≤ b) (h4 : b < 2147483648) : ds_z a = ds_z b ↔ a = b := by
  constructor
  · intro h
    have := congrArg Int32.toInt h
    rwa [z_toInt h1 h2, z_toInt h3 h4] at this
  · intro h; rw [h]
theorem z_clamp {a : Int} (h1 : 0 ≤ a) (h2 : a < 2147483648) : (ds_z a).toNatClampNeg = a.toNat := Int32.toNatClampNeg_ofInt_of_le (by omega) (by omega)
theorem z_div {a b : Int} (h1 : -2147483648 ≤ a) (h2 : a < 2147483648) (h3 : 0 < b) (h4 : b < 2147483648) : ds_z a / ds_z b = ds_z (a.tdiv b) := by
  apply Int32.toInt_inj.mp
  rw [Int32.toInt_div_of_ne_right _ _ (by
    intro h
    have h5 := congrArg Int32.toInt h
    rw [z_toInt (by omega) h4] at h5
    have : (-1 : Int32).toInt = -1 := by decide
    omega), z_toInt h1 h2, z_toInt (by omega) h4]
  have h6 := Int.natAbs_tdiv_le_natAbs a b
  rw [z_toInt]
  · omega
  · by_cases h7 : 0 ≤ a
    · have := Int.tdiv_nonneg h7 (Int.le_of_lt h3); have := Int.tdiv_le_self b h7; omega
    · have h8 : (-a).tdiv b = -(a.tdiv b) := Int.neg_tdiv a b
      have := Int.tdiv_nonneg (a := -a) (b := b) (by omega) (Int.le_of_lt h3); omega
theorem z_rem {a b : Int} (h1 : -2147483648 ≤ a) (h2 : a < 2147483648) (h3 : 0 < b) (h4 : b < 2147483648) : ds_rem (ds_z a) (ds_z b) = ds_z (a.tmod b) := by
  unfold ds_rem
  rw [z_div h1 h2 h3 h4, z_mul, z_sub]
  congr 1
  have := Int.mul_tdiv_add_tmod a b
  rw [Int.mul_comm] at this
  omega
-- bits of a long
def ds_b (a : Int64) (i : Nat) : Bool := a.toBitVec.getLsbD i
theorem b_ext {a b : Int64} (h : ∀ i, i < 64 → ds_b a i = ds_b b i) : a = b := by
  apply Int64.toBitVec.inj
  apply BitVec.eq_of_getLsbD_eq
  intro i hi
  exact h i hi
theorem b_big {a : Int64} {i : Nat} (h : 64 ≤ i) : ds_b a i = false := BitVec.getLsbD_of_ge _ _ h
theorem b_and (a b : Int64) (i : Nat) : ds_b (a &&& b) i = (ds_b a i && ds_b b i) := by
  unfold ds_b; exact BitVec.getLsbD_and
theorem b_or (a b : Int64) (i : Nat) : ds_b (a ||| b) i = (ds_b a i || ds_b b i) := by
  unfold ds_b; exact BitVec.getLsbD_or
theorem b_xor (a b : Int64) (i : Nat) : ds_b (a ^^^ b) i = (ds_b a i ^^ ds_b b i) := by
  unfold ds_b; exact BitVec.getLsbD_xor
theorem b_zero (i : Nat) : ds_b 0 i = false := by
  unfold ds_b; exact BitVec.getLsbD_zero
theorem b_m1 {i : Nat} (h : i < 64) : ds_b (-1) i = true := by
  have : ∀ i, i < 64 → ds_b (-1) i = true := by decide +kernel
  exact this i h
theorem b_not {a : Int64} {i : Nat} (h : i < 64) : ds_b (a ^^^ (-1)) i = !ds_b a i := by
  rw [b_xor, b_m1 h]; cases ds_b a i <;> rfl
theorem b_sa : ∀ n, n < 64 → (((nI n).toInt64 &&& 63).toBitVec.smod 64).toNat = n := by decide +kernel
theorem b_ua : ∀ n, n < 64 → (((nI n).toInt64.toUInt64 &&& Int64.toUInt64 63).toBitVec % 64).toNat = n := by decide +kernel
theorem b_shl (a : Int64) {n : Nat} (hn : n < 64) (i : Nat) : ds_b (ds_lshl a (nI n)) i = (decide (i < 64) && (decide (n ≤ i) && ds_b a (i - n))) := by
  unfold ds_b ds_lshl
  have e : (a <<< ((nI n).toInt64 &&& 63)).toBitVec = a.toBitVec <<< (((nI n).toInt64 &&& 63).toBitVec.smod 64).toNat := rfl
  rw [e, b_sa n hn, BitVec.getLsbD_shiftLeft]
  by_cases h : n ≤ i
  · have h2 : ¬ i < n := by omega
    simp [h, h2]
  · have h2 : i < n := by omega
    simp [h, h2]
theorem b_shr (a : Int64) {n : Nat} (hn : n < 64) (i : Nat) : ds_b (ds_lushr a (nI n)) i = ds_b a (n + i) := by
  unfold ds_b ds_lushr
  have e : (a.toUInt64 >>> ((nI n).toInt64.toUInt64 &&& Int64.toUInt64 63)).toInt64.toBitVec = a.toBitVec >>> (((nI n).toInt64.toUInt64 &&& Int64.toUInt64 63).toBitVec % 64).toNat := rfl
  rw [e, b_ua n hn, BitVec.getLsbD_ushiftRight]
theorem b_bit : ∀ n, n < 64 → ∀ i, i < 64 → ds_b (ds_lshl 1 (nI n)) i = decide (i = n) := by decide +kernel
theorem b_cmp (a b : Int64) : lg_cmp a b = 0 ↔ a = b := by
  unfold lg_cmp
  by_cases h : a = b
  · subst h
    have : ¬ a > a := Int64.lt_irrefl
    simp [this]
  · by_cases h2 : a > b
    · simp [h, h2]
    · simp [h, h2]
-- loops
theorem ds_it_up {σ ρ : Type} (body : σ → Option (σ ⊕ ρ)) (st : Nat → σ) : ∀ (N fuel : Nat) (o : Option ρ), (∀ k, k < N → body (st k) = some (.inl (st (k + 1)))) → (body (st N) = o.map .inr) → N < fuel → ds_it body fuel (st 0) = o := by
  intro N
  induction N generalizing st with
  | zero =>
    intro fuel o h1 h2 h3
    obtain ⟨f, rfl⟩ : ∃ f, fuel = f + 1 := ⟨fuel - 1, by omega⟩
    unfold ds_it
    rw [h2]
    cases o <;> rfl
  | succ N ih =>
    intro fuel o h1 h2 h3
    obtain ⟨f, rfl⟩ : ∃ f, fuel = f + 1 := ⟨fuel - 1, by omega⟩
    unfold ds_it
    rw [h1 0 (by omega)]
    exact ih (fun k => st (k + 1)) f o (fun k hk => h1 (k + 1) (by omega)) h2 (by omega)
