/-! symmetries of the plane; the reference's shifts are they -/
def ds_Sy (w h : Nat) (hex : Bool) (o t : Int64) (tn : Nat) (a b : Int) : Prop := ∀ x y : Int, ds_P w h o t (ds_tx hex tn x y + a) (ds_ty2 hex tn x y + b) = ds_P w h o t x y
theorem t_id : ∀ hex : Bool, ds_m hex 0 0 = 1 ∧ ds_m hex 0 1 = 0 ∧ ds_m hex 0 2 = 0 ∧ ds_m hex 0 3 = 1 := by decide +kernel
theorem tx_0 (hex : Bool) (x y : Int) : ds_tx hex 0 x y = x ∧ ds_ty2 hex 0 x y = y := by
  obtain ⟨a, b, c, d⟩ := t_id hex
  unfold ds_tx ds_ty2
  rw [a, b, c, d]; omega
theorem Sy_0 {w h : Nat} {hex : Bool} {o t : Int64} {a b : Int} : ds_Sy w h hex o t 0 a b ↔ ds_St w h o t a b := by
  unfold ds_Sy ds_St
  constructor <;> (intro q x y; have := q x y; have e := tx_0 hex x y; first | (rw [e.1, e.2] at this; exact this) | (rw [e.1, e.2]; exact this))
theorem St_mod {w h : Nat} {o t : Int64} {a b : Int} : ds_St w h o t (a % w) (b % h) ↔ ds_St w h o t a b := by
  have hx : a = a % w + w * (a / w) := by have := Int.emod_add_mul_ediv a w; omega
  have hy : b = b % h + h * (b / h) := by have := Int.emod_add_mul_ediv b h; omega
  have S : ds_St w h o t (w * (a / w)) (h * (b / h)) := by
    have s1 := St_mul (St_w (w := w) (h := h) (o := o) (t := t)) (a / w)
    have s2 := St_mul (St_h (w := w) (h := h) (o := o) (t := t)) (b / h)
    have := St_add s1 s2
    rw [Int.mul_zero, Int.mul_zero, Int.add_zero, Int.zero_add, Int.mul_comm (a / w), Int.mul_comm (b / h)] at this
    exact this
  constructor
  · intro q
    have := St_add q S
    rw [← hx, ← hy] at this
    exact this
  · intro q
    have := St_add q (St_neg S)
    rw [show a + -(w * (a / w)) = a % w by omega, show b + -(h * (b / h)) = b % h by omega] at this
    exact this
theorem Sy_mod {w h : Nat} {hex : Bool} {o t : Int64} {tn : Nat} {a b : Int} : ds_Sy w h hex o t tn (a % w) (b % h) ↔ ds_Sy w h hex o t tn a b := by
  have hx : a = a % w + w * (a / w) := by have := Int.emod_add_mul_ediv a w; omega
  have hy : b = b % h + h * (b / h) := by have := Int.emod_add_mul_ediv b h; omega
  have S : ∀ x y : Int, ds_P w h o t (x + a) (y + b) = ds_P w h o t (x + a % w) (y + b % h) := by
    intro x y
    have e1 := at_per (w := w) (h := h) o (x + a % w) (y + b % h) (a / w) (b / h)
    have e2 := at_per (w := w) (h := h) t (x + a % w) (y + b % h) (a / w) (b / h)
    unfold ds_P
    rw [← e1, ← e2]
    rw [show x + a % w + w * (a / w) = x + a by omega, show y + b % h + h * (b / h) = y + b by omega]
  unfold ds_Sy
  constructor
  · intro q x y; rw [S]; exact q x y
  · intro q x y; rw [← S]; exact q x y
theorem Sy_model {w h : Nat} (hk : ds_ok w h) {hex : Bool} {o t : Int64} {tn : Nat} (htn : tn < ds_nt hex) {a b : Int} : ds_Sy w h hex o t tn a b ↔ (ds_St w h o t (ds_tx hex tn w 0) (ds_ty2 hex tn w 0) ∧ ds_St w h o t (ds_tx hex tn 0 h) (ds_ty2 hex tn 0 h)) ∧ ds_Al w h hex o t tn a b := by
  obtain ⟨k1, k2, k3, k4⟩ := id hk
  constructor
  · intro q
    have st : ∀ u v : Int, ds_St w h o t u v → ds_St w h o t (ds_tx hex tn u v) (ds_ty2 hex tn u v) := by
      intro u v s x y
      -- (x, y) = T p + (a, b)
      obtain ⟨p1, p2⟩ := tx_iv htn (x - a) (y - b)
      generalize ds_tx hex (ds_iv hex tn) (x - a) (y - b) = px at p1 p2
      generalize ds_ty2 hex (ds_iv hex tn) (x - a) (y - b) = py at p1 p2
      have ex : x = ds_tx hex tn px py + a := by omega
      have ey : y = ds_ty2 hex tn px py + b := by omega
      have l := tx_add (hex := hex) (t := tn) px py u v
      have q1 := q (px + u) (py + v)
      rw [l.1, l.2, s px py] at q1
      rw [ex, ey, q px py, ← q1]
      congr 1 <;> omega
    exact ⟨⟨st _ _ St_w, st _ _ St_h⟩, fun x y _ _ => q x y⟩
  · rintro ⟨⟨s1, s2⟩, al⟩ x y
    obtain ⟨i1, i2, -⟩ := ix_lt hk x y
    have a1 := Int.emod_nonneg x (b := (w : Int)) (by omega)
    have a3 := Int.emod_nonneg y (b := (h : Int)) (by omega)
    have q := al _ _ i1 i2
    rw [Int.toNat_of_nonneg a1, Int.toNat_of_nonneg a3] at q
    have dx : x = x % w + w * (x / w) := by have := Int.emod_add_mul_ediv x w; omega
    have dy : y = y % h + h * (y / h) := by have := Int.emod_add_mul_ediv y h; omega
    have T := St_add (St_mul s1 (x / w)) (St_mul s2 (y / h)) (ds_tx hex tn (x % w) (y % h) + a) (ds_ty2 hex tn (x % w) (y % h) + b)
    have P0 : ds_P w h o t x y = ds_P w h o t (x % w) (y % h) := by
      have e1 := at_per (w := w) (h := h) o (x % w) (y % h) (x / w) (y / h)
      have e2 := at_per (w := w) (h := h) t (x % w) (y % h) (x / w) (y / h)
      unfold ds_P
      rw [← e1, ← e2, ← dx, ← dy]
    rw [P0, ← q, ← T]
    congr 1
    · conv => lhs; rw [dx, dy]
      unfold ds_tx; grind
    · conv => lhs; rw [dx, dy]
      unfold ds_ty2; grind
theorem Sy_class {w h : Nat} {hex : Bool} {o t o' t' : Int64} {tn : Nat} (htn : tn < ds_nt hex) (hp : ∀ x y : Int, ds_P w h o' t' x y = ds_P w h o t (ds_tx hex (ds_iv hex tn) x y) (ds_ty2 hex (ds_iv hex tn) x y)) {a b : Int} : ds_Sy w h hex o t tn a b ↔ ds_From w h o t o' t' a b := by
  unfold ds_Sy ds_From
  constructor
  · intro q u v
    rw [hp]
    obtain ⟨p1, p2⟩ := tx_iv htn (u - a) (v - b)
    have := q (ds_tx hex (ds_iv hex tn) (u - a) (v - b)) (ds_ty2 hex (ds_iv hex tn) (u - a) (v - b))
    rw [p1, p2, show u - a + a = u by omega, show v - b + b = v by omega] at this
    exact this.symm
  · intro q x y
    have := q (ds_tx hex tn x y + a) (ds_ty2 hex tn x y + b)
    rw [hp, show ds_tx hex tn x y + a - a = ds_tx hex tn x y by omega, show ds_ty2 hex tn x y + b - b = ds_ty2 hex tn x y by omega, (iv_tx htn x y).1, (iv_tx htn x y).2] at this
    exact this.symm
/-- the tile's own steps, turned back, are steps where there is a symmetry -/
theorem Sy_back {w h : Nat} {hex : Bool} {o t : Int64} {tn : Nat} (htn : tn < ds_nt hex) {a b : Int} (q : ds_Sy w h hex o t tn a b) {u v : Int} (s : ds_St w h o t u v) : ds_St w h o t (ds_tx hex (ds_iv hex tn) u v) (ds_ty2 hex (ds_iv hex tn) u v) := by
  intro x y
  have l := tx_add (hex := hex) (t := tn) x y (ds_tx hex (ds_iv hex tn) u v) (ds_ty2 hex (ds_iv hex tn) u v)
  have q1 := q (x + ds_tx hex (ds_iv hex tn) u v) (y + ds_ty2 hex (ds_iv hex tn) u v)
  rw [l.1, l.2, (tx_iv htn u v).1, (tx_iv htn u v).2] at q1
  rw [← q1, ← q x y]
  have := s (ds_tx hex tn x y + a) (ds_ty2 hex tn x y + b)
  rw [← this]
  congr 1 <;> omega
