/-! how many bits a long has: the JDK's way, byte by byte -/
def ds_ct (p : Nat → Bool) : Nat → Nat
  | 0 => 0
  | n + 1 => ds_ct p n + (if p n then 1 else 0)
theorem ct_cong {p q : Nat → Bool} : ∀ {n : Nat}, (∀ k, k < n → p k = q k) → ds_ct p n = ds_ct q n
  | 0, _ => rfl
  | n + 1, h => by unfold ds_ct; rw [ct_cong (fun k hk => h k (by omega)), h n (by omega)]
theorem ct_le (p : Nat → Bool) : ∀ n, ds_ct p n ≤ n
  | 0 => Nat.le_refl _
  | n + 1 => by unfold ds_ct; have := ct_le p n; split <;> omega
def ds_by (f : Nat → Nat) : Nat → Nat
  | 0 => 0
  | k + 1 => f 0 + 256 * ds_by (fun j => f (j + 1)) k
theorem land_split {k a b c d : Nat} (ha : a < 2 ^ k) (hc : c < 2 ^ k) : (a + 2 ^ k * b) &&& (c + 2 ^ k * d) = (a &&& c) + 2 ^ k * (b &&& d) := by
  apply Nat.eq_of_testBit_eq
  intro j
  rw [Nat.add_comm a, Nat.add_comm c, Nat.add_comm (a &&& c), Nat.testBit_and, Nat.testBit_two_pow_mul_add _ ha, Nat.testBit_two_pow_mul_add _ hc, Nat.testBit_two_pow_mul_add _ (Nat.and_lt_two_pow a hc)]
  split <;> rw [Nat.testBit_and]
theorem land_256 {a b c d : Nat} (ha : a < 256) (hc : c < 256) : (a + 256 * b) &&& (c + 256 * d) = (a &&& c) + 256 * (b &&& d) := land_split (k := 8) ha hc
def ds_f1 (b : Nat) : Nat := b - ((b / 2) &&& 85)
def ds_f2 (b : Nat) : Nat := (b &&& 51) + ((b / 4) &&& 51)
def ds_f3 (b : Nat) : Nat := (b + b / 16) &&& 15
theorem f1_ok : ∀ b, b < 256 → ∀ r, r < 2 → ((b / 2 + 128 * r) &&& 85 = (b / 2) &&& 85) ∧ (b / 2) &&& 85 ≤ b ∧ ds_f1 b < 256 := by decide +kernel
theorem f2_ok : ∀ b, b < 256 → ∀ r, r < 4 → ((b / 4 + 64 * r) &&& 51 = (b / 4) &&& 51) ∧ ds_f2 (ds_f1 b) % 16 ≤ 4 ∧ ds_f2 (ds_f1 b) / 16 ≤ 4 ∧ ds_f2 b < 256 := by decide +kernel
theorem f3_ok : ∀ e, e < 80 → ∀ r, r < 5 → ((e + e / 16 + 16 * r) &&& 15 = ds_f3 e) := by decide +kernel
theorem f_all : ∀ b, b < 256 → ds_f3 (ds_f2 (ds_f1 b)) = ds_ct (fun i => b.testBit i) 8 := by decide +kernel
theorem by_1 : ∀ (k : Nat) (f : Nat → Nat), (∀ j, f j < 256) → (ds_by f k / 2) &&& ds_by (fun _ => 85) k ≤ ds_by f k ∧ ds_by f k - ((ds_by f k / 2) &&& ds_by (fun _ => 85) k) = ds_by (fun j => ds_f1 (f j)) k
  | 0, f, h => by simp [ds_by]
  | k + 1, f, h => by
    obtain ⟨h1, h2⟩ := by_1 k (fun j => f (j + 1)) (fun j => h (j + 1))
    unfold ds_by
    generalize ds_by (fun j => f (j + 1)) k = Y at h1 h2 ⊢
    have e : (f 0 + 256 * Y) / 2 = (f 0 / 2 + 128 * (Y % 2)) + 256 * (Y / 2) := by omega
    obtain ⟨a1, a2, a3⟩ := f1_ok (f 0) (h 0) (Y % 2) (by omega)
    have h0 := h 0
    rw [e, land_256 (by omega) (by omega), a1, ← h2]
    unfold ds_f1
    omega
theorem by_2 : ∀ (k : Nat) (f : Nat → Nat), (∀ j, f j < 256) → (ds_by f k &&& ds_by (fun _ => 51) k) + ((ds_by f k / 4) &&& ds_by (fun _ => 51) k) = ds_by (fun j => ds_f2 (f j)) k
  | 0, f, h => by simp [ds_by]
  | k + 1, f, h => by
    have h2 := by_2 k (fun j => f (j + 1)) (fun j => h (j + 1))
    unfold ds_by
    generalize ds_by (fun j => f (j + 1)) k = Y at h2 ⊢
    have e : (f 0 + 256 * Y) / 4 = (f 0 / 4 + 64 * (Y % 4)) + 256 * (Y / 4) := by omega
    obtain ⟨a1, -⟩ := f2_ok (f 0) (h 0) (Y % 4) (by omega)
    have h0 := h 0
    rw [e, land_256 h0 (by omega), land_256 (by omega) (by omega), a1, ← h2]
    unfold ds_f2
    omega
theorem by_mod : ∀ (k : Nat) (f : Nat → Nat), (∀ j, f j % 16 ≤ 4) → ds_by f k % 16 ≤ 4
  | 0, f, h => by simp [ds_by]
  | k + 1, f, h => by unfold ds_by; have := h 0; omega
theorem by_3 : ∀ (k : Nat) (f : Nat → Nat), (∀ j, f j % 16 ≤ 4 ∧ f j / 16 ≤ 4) → (ds_by f k + ds_by f k / 16) &&& ds_by (fun _ => 15) k = ds_by (fun j => ds_f3 (f j)) k
  | 0, f, h => by simp [ds_by]
  | k + 1, f, h => by
    have h2 := by_3 k (fun j => f (j + 1)) (fun j => h (j + 1))
    have hm := by_mod k (fun j => f (j + 1)) (fun j => (h (j + 1)).1)
    unfold ds_by
    generalize ds_by (fun j => f (j + 1)) k = Y at h2 hm ⊢
    have h0 := h 0
    have e : f 0 + 256 * Y + (f 0 + 256 * Y) / 16 = (f 0 + f 0 / 16 + 16 * (Y % 16)) + 256 * (Y + Y / 16) := by omega
    rw [e, land_256 (by omega) (by omega), f3_ok (f 0) (by omega) (Y % 16) (by omega), ← h2]
theorem by_bytes (X : Nat) : ∀ k, ds_by (fun j => X / 256 ^ j % 256) k = X % 256 ^ k := by
  intro k
  induction k generalizing X with
  | zero => simp [ds_by, Nat.mod_one]
  | succ k ih =>
    unfold ds_by
    have := ih (X / 256)
    have e : (fun j => X / 256 ^ (j + 1) % 256) = (fun j => X / 256 / 256 ^ j % 256) := by
      funext j
      rw [Nat.div_div_eq_div_mul, Nat.pow_succ, Nat.mul_comm (256 ^ j)]
    rw [e, this, Nat.pow_zero, Nat.div_one, Nat.pow_succ, Nat.mul_comm (256 ^ k), Nat.mod_mul]
def ds_u (x : Int64) : Nat := x.toBitVec.toNat
theorem u_lt (x : Int64) : ds_u x < 18446744073709551616 := x.toBitVec.isLt
theorem u_sub {x y : Int64} (h : ds_u y ≤ ds_u x) : ds_u (x - y) = ds_u x - ds_u y := by
  unfold ds_u; exact BitVec.toNat_sub_of_le h
theorem u_add {x y : Int64} (h : ds_u x + ds_u y < 18446744073709551616) : ds_u (x + y) = ds_u x + ds_u y := by
  unfold ds_u at h ⊢
  have e : (x + y).toBitVec = x.toBitVec + y.toBitVec := rfl
  rw [e, BitVec.toNat_add, Nat.mod_eq_of_lt h]
theorem u_and (x y : Int64) : ds_u (x &&& y) = ds_u x &&& ds_u y := by
  unfold ds_u
  have e : (x &&& y).toBitVec = x.toBitVec &&& y.toBitVec := rfl
  rw [e, BitVec.toNat_and]
theorem u_shr (x : Int64) {n : Nat} (hn : n < 64) : ds_u (ds_lushr x (nI n)) = ds_u x / 2 ^ n := by
  unfold ds_u ds_lushr
  have e : (x.toUInt64 >>> ((nI n).toInt64.toUInt64 &&& Int64.toUInt64 63)).toInt64.toBitVec = x.toBitVec >>> (((nI n).toInt64.toUInt64 &&& Int64.toUInt64 63).toBitVec % 64).toNat := rfl
  rw [e, b_ua n hn, BitVec.toNat_ushiftRight, Nat.shiftRight_eq_div_pow]
theorem u_bit (x : Int64) (i : Nat) : ds_b x i = (ds_u x).testBit i := rfl
theorem u_127 (x : Int64) : x.toInt32 &&& (127 : Int32) = nI (ds_u x % 128) := by
  apply Int32.toBitVec.inj
  apply BitVec.eq_of_toNat_eq
  have e : (x.toInt32 &&& (127 : Int32)).toBitVec = x.toBitVec.signExtend 32 &&& 127#32 := rfl
  have e2 : (nI (ds_u x % 128)).toBitVec = BitVec.ofNat 32 (ds_u x % 128) := rfl
  rw [e, e2, BitVec.toNat_and, BitVec.signExtend_eq_setWidth_of_le _ (by omega), BitVec.toNat_setWidth, BitVec.toNat_ofNat, BitVec.toNat_ofNat]
  unfold ds_u
  rw [show (127 : Nat) % 2 ^ 32 = 2 ^ 7 - 1 by decide, Nat.and_two_pow_sub_one_eq_mod]
  omega
theorem ct_byte (x : Int64) (j : Nat) : ds_ct (fun i => (ds_u x / 256 ^ j % 256).testBit i) 8 = ds_ct (fun i => ds_b x (8 * j + i)) 8 := by
  apply ct_cong
  intro i hi
  have e1 : (256 : Nat) ^ j = 2 ^ (8 * j) := by rw [Nat.pow_mul]
  rw [u_bit, e1, show (256 : Nat) = 2 ^ 8 by decide, Nat.testBit_mod_two_pow, Nat.testBit_div_two_pow, Nat.add_comm (8 * j)]
  simp [hi]
theorem ct_add (p : Nat → Bool) (m : Nat) : ∀ n, ds_ct p (m + n) = ds_ct p m + ds_ct (fun i => p (m + i)) n
  | 0 => by simp [ds_ct]
  | n + 1 => by
    have e1 : ds_ct p (m + (n + 1)) = ds_ct p (m + n) + (if p (m + n) then 1 else 0) := rfl
    have e2 : ds_ct (fun i => p (m + i)) (n + 1) = ds_ct (fun i => p (m + i)) n + (if p (m + n) then 1 else 0) := rfl
    rw [e1, e2, ct_add p m n]; omega
set_option maxRecDepth 10000 in
theorem p_bitCount (x : Int64) : fJ13_bitCount_95d88 x = some (nI (ds_ct (ds_b x) 64)) := by
  have hX := u_lt x
  have hb : ∀ j, ds_u x / 256 ^ j % 256 < 256 := fun j => Nat.mod_lt _ (by omega)
  have e0 : ds_u x = ds_by (fun j => ds_u x / 256 ^ j % 256) 8 := by
    rw [by_bytes, Nat.mod_eq_of_lt (by have : (256 : Nat) ^ 8 = 18446744073709551616 := by decide
                                       omega)]
  obtain ⟨s1, s2⟩ := by_1 8 _ hb
  rw [← e0] at s1 s2
  have c1 : ds_u (6148914691236517205 : Int64) = ds_by (fun _ => 85) 8 := by decide +kernel
  have c2 : ds_u (3689348814741910323 : Int64) = ds_by (fun _ => 51) 8 := by decide +kernel
  have c3 : ds_u (1085102592571150095 : Int64) = ds_by (fun _ => 15) 8 := by decide +kernel
  unfold fJ13_bitCount_95d88
  -- first
  obtain ⟨x1, hx1⟩ : ∃ z, z = x - ((ds_lushr x (1 : Int32)) &&& (6148914691236517205 : Int64)) := ⟨_, rfl⟩
  have v1 : ds_u x1 = ds_by (fun j => ds_f1 (ds_u x / 256 ^ j % 256)) 8 := by
    have q : ds_u ((ds_lushr x (1 : Int32)) &&& (6148914691236517205 : Int64)) = (ds_u x / 2) &&& ds_by (fun _ => 85) 8 := by
      rw [u_and, c1, show (1 : Int32) = nI 1 from rfl, u_shr x (by omega)]
    rw [hx1, u_sub (by rw [q]; exact s1), q, s2]
  have b1 : ∀ j, ds_f1 (ds_u x / 256 ^ j % 256) < 256 := fun j => (f1_ok _ (hb j) 0 (by omega)).2.2
  rw [← hx1, Option.bind_some]
  -- second
  have g : ∀ j, ds_f2 (ds_f1 (ds_u x / 256 ^ j % 256)) % 16 ≤ 4 ∧ ds_f2 (ds_f1 (ds_u x / 256 ^ j % 256)) / 16 ≤ 4 := fun j => ⟨(f2_ok _ (hb j) 0 (by omega)).2.1, (f2_ok _ (hb j) 0 (by omega)).2.2.1⟩
  obtain ⟨x2, hx2⟩ : ∃ z, z = (x1 &&& (3689348814741910323 : Int64)) + ((ds_lushr x1 (2 : Int32)) &&& (3689348814741910323 : Int64)) := ⟨_, rfl⟩
  have t2 := by_2 8 _ b1
  have bound : ∀ (f : Nat → Nat) (n : Nat), (∀ j, f j ≤ n) → ds_by f 8 ≤ n * 72340172838076673 := by
    intro f n hf
    have := hf 0; have := hf 1; have := hf 2; have := hf 3; have := hf 4; have := hf 5; have := hf 6; have := hf 7
    show f 0 + 256 * (f 1 + 256 * (f 2 + 256 * (f 3 + 256 * (f 4 + 256 * (f 5 + 256 * (f 6 + 256 * (f 7 + 256 * 0))))))) ≤ _
    omega
  have v2 : ds_u x2 = ds_by (fun j => ds_f2 (ds_f1 (ds_u x / 256 ^ j % 256))) 8 := by
    have q1 : ds_u (x1 &&& (3689348814741910323 : Int64)) = ds_u x1 &&& ds_by (fun _ => 51) 8 := by rw [u_and, c2]
    have q2 : ds_u ((ds_lushr x1 (2 : Int32)) &&& (3689348814741910323 : Int64)) = (ds_u x1 / 4) &&& ds_by (fun _ => 51) 8 := by
      rw [u_and, c2, show (2 : Int32) = nI 2 from rfl, u_shr x1 (by omega)]
    have q3 := bound _ 68 (fun j => (by have := g j; omega : ds_f2 (ds_f1 (ds_u x / 256 ^ j % 256)) ≤ 68))
    rw [hx2, u_add (by rw [q1, q2, v1, t2]; omega), q1, q2, v1, t2]
  rw [← hx2, Option.bind_some]
  -- third
  obtain ⟨x3, hx3⟩ : ∃ z, z = (x2 + (ds_lushr x2 (4 : Int32))) &&& (1085102592571150095 : Int64) := ⟨_, rfl⟩
  have t3 := by_3 8 _ g
  have v3 : ds_u x3 = ds_by (fun j => ds_ct (fun i => ds_b x (8 * j + i)) 8) 8 := by
    have q1 : ds_u (ds_lushr x2 (4 : Int32)) = ds_u x2 / 16 := by rw [show (4 : Int32) = nI 4 from rfl, u_shr x2 (by omega)]
    have q3 := bound _ 68 (fun j => (by have := g j; omega : ds_f2 (ds_f1 (ds_u x / 256 ^ j % 256)) ≤ 68))
    rw [hx3, u_and, c3, u_add (by rw [q1, v2]; omega), q1, v2, t3]
    congr 1
    funext j
    rw [f_all _ (hb j), ct_byte]
  rw [← hx3, Option.bind_some]
  -- the sums
  have p : ∀ j, ds_ct (fun i => ds_b x (8 * j + i)) 8 ≤ 8 := fun j => ct_le _ 8
  have tot : ds_ct (ds_b x) 64 = ds_ct (fun i => ds_b x (8 * 0 + i)) 8 + ds_ct (fun i => ds_b x (8 * 1 + i)) 8 + ds_ct (fun i => ds_b x (8 * 2 + i)) 8 + ds_ct (fun i => ds_b x (8 * 3 + i)) 8 + ds_ct (fun i => ds_b x (8 * 4 + i)) 8 + ds_ct (fun i => ds_b x (8 * 5 + i)) 8 + ds_ct (fun i => ds_b x (8 * 6 + i)) 8 + ds_ct (fun i => ds_b x (8 * 7 + i)) 8 := by
    rw [show 64 = 8 * 7 + 8 by rfl, ct_add, show 8 * 7 = 8 * 6 + 8 by rfl, ct_add, show 8 * 6 = 8 * 5 + 8 by rfl, ct_add, show 8 * 5 = 8 * 4 + 8 by rfl, ct_add, show 8 * 4 = 8 * 3 + 8 by rfl, ct_add, show 8 * 3 = 8 * 2 + 8 by rfl, ct_add, show 8 * 2 = 8 * 1 + 8 by rfl, ct_add, show 8 * 1 = 8 * 0 + 8 by rfl, ct_add]
    have z : ds_ct (ds_b x) (8 * 0) = 0 := rfl
    rw [z, Nat.zero_add]
  have p0 := p 0; have p1 := p 1; have p2 := p 2; have p3 := p 3; have p4 := p 4; have p5 := p 5; have p6 := p 6; have p7 := p 7
  have v4 : ds_u x3 = ds_ct (fun i => ds_b x (8 * 0 + i)) 8 + 256 * (ds_ct (fun i => ds_b x (8 * 1 + i)) 8 + 256 * (ds_ct (fun i => ds_b x (8 * 2 + i)) 8 + 256 * (ds_ct (fun i => ds_b x (8 * 3 + i)) 8 + 256 * (ds_ct (fun i => ds_b x (8 * 4 + i)) 8 + 256 * (ds_ct (fun i => ds_b x (8 * 5 + i)) 8 + 256 * (ds_ct (fun i => ds_b x (8 * 6 + i)) 8 + 256 * (ds_ct (fun i => ds_b x (8 * 7 + i)) 8 + 256 * 0))))))) := v3
  rw [tot]
  clear v3 t3 t2 v2 v1 s1 s2 e0 tot g b1 bound hb c1 c2 c3 hx1 hx2 hx3 p
  generalize ds_ct (fun i => ds_b x (8 * 0 + i)) 8 = a0 at *
  generalize ds_ct (fun i => ds_b x (8 * 1 + i)) 8 = a1 at *
  generalize ds_ct (fun i => ds_b x (8 * 2 + i)) 8 = a2 at *
  generalize ds_ct (fun i => ds_b x (8 * 3 + i)) 8 = a3 at *
  generalize ds_ct (fun i => ds_b x (8 * 4 + i)) 8 = a4 at *
  generalize ds_ct (fun i => ds_b x (8 * 5 + i)) 8 = a5 at *
  generalize ds_ct (fun i => ds_b x (8 * 6 + i)) 8 = a6 at *
  generalize ds_ct (fun i => ds_b x (8 * 7 + i)) 8 = a7 at *
  have w1 : ds_u (ds_lushr x3 (8 : Int32)) = a1 + 256 * (a2 + 256 * (a3 + 256 * (a4 + 256 * (a5 + 256 * (a6 + 256 * a7))))) := by
    rw [show (8 : Int32) = nI 8 from rfl, u_shr x3 (by omega), v4]; omega
  obtain ⟨y1, hy1⟩ : ∃ z, z = x3 + ds_lushr x3 (8 : Int32) := ⟨_, rfl⟩
  have w2 : ds_u y1 = (a0 + a1) + 256 * ((a1 + a2) + 256 * ((a2 + a3) + 256 * ((a3 + a4) + 256 * ((a4 + a5) + 256 * ((a5 + a6) + 256 * ((a6 + a7) + 256 * a7)))))) := by
    rw [hy1, u_add (by rw [w1, v4]; omega), w1, v4]; omega
  rw [← hy1]
  have w3 : ds_u (ds_lushr y1 (16 : Int32)) = (a2 + a3) + 256 * ((a3 + a4) + 256 * ((a4 + a5) + 256 * ((a5 + a6) + 256 * ((a6 + a7) + 256 * a7)))) := by
    rw [show (16 : Int32) = nI 16 from rfl, u_shr y1 (by omega), w2]; omega
  obtain ⟨y2, hy2⟩ : ∃ z, z = y1 + ds_lushr y1 (16 : Int32) := ⟨_, rfl⟩
  have w4 : ds_u y2 = (a0 + a1 + a2 + a3) + 256 * ((a1 + a2 + a3 + a4) + 256 * ((a2 + a3 + a4 + a5) + 256 * ((a3 + a4 + a5 + a6) + 256 * ((a4 + a5 + a6 + a7) + 256 * ((a5 + a6 + a7) + 256 * ((a6 + a7) + 256 * a7)))))) := by
    rw [hy2, u_add (by rw [w3, w2]; omega), w3, w2]; omega
  rw [← hy2, Option.bind_some]
  have w5 : ds_u (ds_lushr y2 (32 : Int32)) = (a4 + a5 + a6 + a7) + 256 * ((a5 + a6 + a7) + 256 * ((a6 + a7) + 256 * a7)) := by
    rw [show (32 : Int32) = nI 32 from rfl, u_shr y2 (by omega), w4]; omega
  rw [u_127, u_add (by rw [w5, w4]; omega), w5, w4]
  congr 2
  omega
theorem p_bitInt0 : ∀ a, a < 64 → ∀ b, b < 64 → fJ6_bitCount_0f7a4 (nI (64 * a + b)) = some (nI (ds_ct (fun i => (64 * a + b).testBit i) 12)) := by decide +kernel
theorem p_bitInt {n : Nat} (h : n < 4096) : fJ6_bitCount_0f7a4 (nI n) = some (nI (ds_ct (fun i => n.testBit i) 12)) := by
  have := p_bitInt0 (n / 64) (by omega) (n % 64) (by omega)
  rwa [show 64 * (n / 64) + n % 64 = n by omega] at this
