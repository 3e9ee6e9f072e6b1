/-! the turnings, as whole numbers -/
def ds_tabI : List Int := [1, 0, 0, 1, 0, -1, 1, 0, -1, 0, 0, -1, 0, 1, -1, 0, 1, 0, 0, -1, -1, 0, 0, 1, 0, 1, 1, 0, 0, -1, -1, 0, 1, 0, 0, 1, 0, -1, 1, 1, -1, -1, 1, 0, -1, 0, 0, -1, 0, 1, -1, -1, 1, 1, -1, 0, 0, 1, 1, 0, 0, -1, -1, 0, 1, 1, 0, -1, -1, -1, 0, 1, 1, 0, -1, -1, -1, 0, 1, 1]
def ds_nt (hex : Bool) : Nat := if hex then 12 else 8
def ds_n2 (hex : Bool) : Nat := if hex then 6 else 4
def ds_ln (hex : Bool) (t : Nat) : Nat := (if hex then 8 else 0) + t
def ds_m (hex : Bool) (t k : Nat) : Int := ds_tabI.getD (4 * ds_ln hex t + k) 0
def ds_tx (hex : Bool) (t : Nat) (x y : Int) : Int := ds_m hex t 0 * x + ds_m hex t 1 * y
def ds_ty2 (hex : Bool) (t : Nat) (x y : Int) : Int := ds_m hex t 2 * x + ds_m hex t 3 * y
def ds_iv (hex : Bool) (t : Nat) : Nat := if t = 0 then 0 else if ds_n2 hex ≤ t then t else ds_n2 hex - t
theorem n_entry : ∀ k, k < 80 → fX1_entry_t0 (nI k) = some (ds_z (ds_tabI.getD k 0)) := by decide +kernel
theorem n_line (hex : Bool) (t : Nat) : fX1_lineOf (ds_q hex) (nI t) = some (nI (ds_ln hex t)) := by
  unfold fX1_lineOf ds_ln
  cases hex
  · rw [if_pos (show ds_q false = 0 from rfl)]; simp
  · rw [if_neg (by decide), show (8 : Int32) = nI 8 from rfl, nI_add]; rfl
theorem n_lt {hex : Bool} {t : Nat} (ht : t < ds_nt hex) : ds_ln hex t < 20 := by
  unfold ds_nt at ht; unfold ds_ln
  cases hex <;> simp at ht ⊢ <;> omega
theorem n_4 (k : Nat) : (4 : Int32) * nI k = nI (4 * k) := by
  rw [z_nI, z_nI, show (4 : Int32) = ds_z 4 from rfl, z_mul]; congr 1
theorem p_tx {hex : Bool} {t : Nat} (ht : t < ds_nt hex) (x y : Int) : fX1_turnedX (ds_q hex) (nI t) (ds_z x) (ds_z y) = some (ds_z (ds_tx hex t x y)) := by
  have := n_lt ht
  unfold fX1_turnedX
  rw [n_line, Option.bind_some, n_4, n_entry _ (by omega), Option.bind_some, show (1 : Int32) = nI 1 from rfl, nI_add, n_entry _ (by omega), Option.bind_some, z_mul, z_mul, z_add]
  rfl
theorem p_ty {hex : Bool} {t : Nat} (ht : t < ds_nt hex) (x y : Int) : fX1_turnedY (ds_q hex) (nI t) (ds_z x) (ds_z y) = some (ds_z (ds_ty2 hex t x y)) := by
  have := n_lt ht
  unfold fX1_turnedY
  rw [n_line, Option.bind_some, n_4, show (2 : Int32) = nI 2 from rfl, show (3 : Int32) = nI 3 from rfl, nI_add, n_entry _ (by omega), Option.bind_some, nI_add, n_entry _ (by omega), Option.bind_some, z_mul, z_mul, z_add]
  rfl
theorem n_inv : ∀ hex : Bool, ∀ t, t < ds_nt hex → fX1_inverse (ds_q hex) (nI t) = some (nI (ds_iv hex t)) ∧ ds_iv hex t < ds_nt hex := by decide +kernel
/-- a turning and the one that takes it back -/
theorem n_back : ∀ hex : Bool, ∀ t, t < ds_nt hex →
    (ds_m hex (ds_iv hex t) 0 * ds_m hex t 0 + ds_m hex (ds_iv hex t) 1 * ds_m hex t 2 = 1 ∧ ds_m hex (ds_iv hex t) 0 * ds_m hex t 1 + ds_m hex (ds_iv hex t) 1 * ds_m hex t 3 = 0 ∧
     ds_m hex (ds_iv hex t) 2 * ds_m hex t 0 + ds_m hex (ds_iv hex t) 3 * ds_m hex t 2 = 0 ∧ ds_m hex (ds_iv hex t) 2 * ds_m hex t 1 + ds_m hex (ds_iv hex t) 3 * ds_m hex t 3 = 1) ∧
    (ds_m hex t 0 * ds_m hex (ds_iv hex t) 0 + ds_m hex t 1 * ds_m hex (ds_iv hex t) 2 = 1 ∧ ds_m hex t 0 * ds_m hex (ds_iv hex t) 1 + ds_m hex t 1 * ds_m hex (ds_iv hex t) 3 = 0 ∧
     ds_m hex t 2 * ds_m hex (ds_iv hex t) 0 + ds_m hex t 3 * ds_m hex (ds_iv hex t) 2 = 0 ∧ ds_m hex t 2 * ds_m hex (ds_iv hex t) 1 + ds_m hex t 3 * ds_m hex (ds_iv hex t) 3 = 1) := by decide +kernel
theorem n_small : ∀ hex : Bool, ∀ t, t < ds_nt hex → ∀ k, k < 4 → -1 ≤ ds_m hex t k ∧ ds_m hex t k ≤ 1 := by decide +kernel
theorem iv_tx {hex : Bool} {t : Nat} (ht : t < ds_nt hex) (x y : Int) : ds_tx hex (ds_iv hex t) (ds_tx hex t x y) (ds_ty2 hex t x y) = x ∧ ds_ty2 hex (ds_iv hex t) (ds_tx hex t x y) (ds_ty2 hex t x y) = y := by
  obtain ⟨⟨a1, a2, a3, a4⟩, -⟩ := n_back hex t ht
  unfold ds_tx ds_ty2
  generalize ds_m hex (ds_iv hex t) 0 = p at *
  generalize ds_m hex (ds_iv hex t) 1 = q at *
  generalize ds_m hex (ds_iv hex t) 2 = r at *
  generalize ds_m hex (ds_iv hex t) 3 = s at *
  generalize ds_m hex t 0 = a at *
  generalize ds_m hex t 1 = b at *
  generalize ds_m hex t 2 = c at *
  generalize ds_m hex t 3 = d at *
  constructor
  · have : p * (a * x + b * y) + q * (c * x + d * y) = (p * a + q * c) * x + (p * b + q * d) * y := by grind
    rw [this, a1, a2]; omega
  · have : r * (a * x + b * y) + s * (c * x + d * y) = (r * a + s * c) * x + (r * b + s * d) * y := by grind
    rw [this, a3, a4]; omega
theorem tx_iv {hex : Bool} {t : Nat} (ht : t < ds_nt hex) (x y : Int) : ds_tx hex t (ds_tx hex (ds_iv hex t) x y) (ds_ty2 hex (ds_iv hex t) x y) = x ∧ ds_ty2 hex t (ds_tx hex (ds_iv hex t) x y) (ds_ty2 hex (ds_iv hex t) x y) = y := by
  obtain ⟨-, a1, a2, a3, a4⟩ := n_back hex t ht
  unfold ds_tx ds_ty2
  generalize ds_m hex (ds_iv hex t) 0 = p at *
  generalize ds_m hex (ds_iv hex t) 1 = q at *
  generalize ds_m hex (ds_iv hex t) 2 = r at *
  generalize ds_m hex (ds_iv hex t) 3 = s at *
  generalize ds_m hex t 0 = a at *
  generalize ds_m hex t 1 = b at *
  generalize ds_m hex t 2 = c at *
  generalize ds_m hex t 3 = d at *
  constructor
  · have : a * (p * x + q * y) + b * (r * x + s * y) = (a * p + b * r) * x + (a * q + b * s) * y := by grind
    rw [this, a1, a2]; omega
  · have : c * (p * x + q * y) + d * (r * x + s * y) = (c * p + d * r) * x + (c * q + d * s) * y := by grind
    rw [this, a3, a4]; omega
theorem tx_add {hex : Bool} {t : Nat} (x y u v : Int) : ds_tx hex t (x + u) (y + v) = ds_tx hex t x y + ds_tx hex t u v ∧ ds_ty2 hex t (x + u) (y + v) = ds_ty2 hex t x y + ds_ty2 hex t u v := by
  unfold ds_tx ds_ty2
  constructor <;> grind
theorem tx_mul {hex : Bool} {t : Nat} (k x y : Int) : ds_tx hex t (k * x) (k * y) = k * ds_tx hex t x y ∧ ds_ty2 hex t (k * x) (k * y) = k * ds_ty2 hex t x y := by
  unfold ds_tx ds_ty2
  constructor <;> grind
