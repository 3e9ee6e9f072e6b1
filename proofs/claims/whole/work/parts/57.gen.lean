/-! FIRST and SECOND generate every step -/
def ds_lm (hex : Bool) (x y u v : Int) : Int := 2 * (x * u) + 2 * (y * v) + (if hex then x * v + y * u else 0)
theorem lg_lin (hex : Bool) (a b x y u v : Int) : ds_lg hex (a * x + b * u) (a * y + b * v) = a * a * ds_lg hex x y + a * b * ds_lm hex x y u v + b * b * ds_lg hex u v := by
  unfold ds_lg ds_lm
  cases hex
  · simp only [Bool.false_eq_true, if_false]; grind
  · simp only [if_true]; grind
theorem lg_sc (hex : Bool) (d x y : Int) : ds_lg hex (d * x) (d * y) = d * d * ds_lg hex x y := by
  unfold ds_lg
  cases hex
  · simp only [Bool.false_eq_true, if_false]; grind
  · simp only [if_true]; grind
theorem sq_pos {a : Int} (h : a ≠ 0) : 0 < a * a := by
  rcases Int.lt_or_gt_of_ne h with q | q
  · exact Int.mul_pos_of_neg_of_neg q q
  · exact Int.mul_pos q q
theorem lg_pos {hex : Bool} {x y : Int} (h : ¬ (x = 0 ∧ y = 0)) : 0 < ds_lg hex x y := by
  have a1 := sq_nn x
  have a2 := sq_nn y
  have a3 := sq_nn (x + y)
  have a4 : 0 < x * x ∨ 0 < y * y := by
    by_cases c : x = 0
    · exact Or.inr (sq_pos (fun z => h ⟨c, z⟩))
    · exact Or.inl (sq_pos c)
  have a5 : (x + y) * (x + y) = x * x + y * y + 2 * (x * y) := by grind
  unfold ds_lg
  cases hex
  · simp only [Bool.false_eq_true, if_false]; omega
  · simp only [if_true]; omega
theorem ah_le {hex : Bool} {x y u v : Int} (h : ds_ah hex x y u v) : ds_lg hex x y ≤ ds_lg hex u v := by
  unfold ds_ah at h; omega
theorem Mn_le {hex : Bool} {C : Int → Int → Prop} {x y u v : Int} (h : ds_Mn hex C x y) (hc : C u v) : ds_lg hex x y ≤ ds_lg hex u v := by
  by_cases c : u = x ∧ v = y
  · rw [c.1, c.2]; exact Int.le_refl _
  · exact ah_le (h.2 u v hc c)
theorem near0 {A d : Int} (hd : 0 < d) : ∃ a : Int, -d ≤ 2 * (A - a * d) ∧ 2 * (A - a * d) ≤ d := by
  refine ⟨(2 * A + d) / (2 * d), ?_⟩
  have h1 := Int.emod_add_mul_ediv (2 * A + d) (2 * d)
  have h2 := Int.emod_nonneg (2 * A + d) (show 2 * d ≠ 0 by omega)
  have h3 := Int.emod_lt_of_pos (2 * A + d) (show 0 < 2 * d by omega)
  have h4 : 2 * d * ((2 * A + d) / (2 * d)) = 2 * ((2 * A + d) / (2 * d) * d) := by grind
  omega
theorem near (A d : Int) (hd : d ≠ 0) : ∃ a D : Int, D * D = d * d ∧ -D ≤ 2 * (A - a * d) ∧ 2 * (A - a * d) ≤ D ∧ 0 < D := by
  rcases Int.lt_or_gt_of_ne hd with q | q
  · obtain ⟨a, h1, h2⟩ := near0 (A := A) (d := -d) (by omega)
    have e : a * -d = -a * d := by grind
    rw [e] at h1 h2
    exact ⟨-a, -d, by grind, h1, h2, by omega⟩
  · obtain ⟨a, h1, h2⟩ := near0 (A := A) q
    exact ⟨a, d, rfl, h1, h2, q⟩
theorem sq_le {T D : Int} (h1 : -D ≤ T) (h2 : T ≤ D) : T * T ≤ D * D := by
  have := Int.mul_nonneg (show 0 ≤ D - T by omega) (show 0 ≤ D + T by omega)
  have e : (D - T) * (D + T) = D * D - T * T := by grind
  omega
theorem pq_le {p q P Q : Int} (h1 : -P ≤ p) (h2 : p ≤ P) (h3 : -Q ≤ q) (h4 : q ≤ Q) : p * q ≤ P * Q := by
  have a1 := Int.mul_nonneg (show 0 ≤ P - p by omega) (show 0 ≤ Q + q by omega)
  have a2 := Int.mul_nonneg (show 0 ≤ P + p by omega) (show 0 ≤ Q - q by omega)
  have e1 : (P - p) * (Q + q) = P * Q + P * q - p * Q - p * q := by grind
  have e2 : (P + p) * (Q - q) = P * Q - P * q + p * Q - p * q := by grind
  omega
theorem red_1 {E F M S A B : Int} (hE : 0 < E) (hA : 4 * (A * A) ≤ E) (hB : 4 * (B * B) ≤ E) (hF : 0 ≤ F) (hFS : F ≤ S) (hS : 0 < S) (hM1 : -F ≤ M) (hM2 : M ≤ F) : 4 * (A * A * F + A * B * M + B * B * S) < 4 * (E * S) := by
  have s1 := sq_nn (A + B)
  have s2 := sq_nn (A - B)
  have e1 : (A + B) * (A + B) = A * A + B * B + 2 * (A * B) := by grind
  have e2 : (A - B) * (A - B) = A * A + B * B - 2 * (A * B) := by grind
  have t1 := Int.mul_nonneg (show 0 ≤ E - 4 * (A * A) by omega) hF
  have t2 := Int.mul_nonneg (show 0 ≤ E - 4 * (B * B) by omega) (show 0 ≤ S by omega)
  have t3 := pq_le (p := 4 * (A * B)) (q := M) (P := E) (Q := F) (by omega) (by omega) hM1 hM2
  have t4 := Int.mul_nonneg (show 0 ≤ E by omega) (show 0 ≤ S - F by omega)
  have t5 := Int.mul_pos hE hS
  have f1 : (E - 4 * (A * A)) * F = E * F - 4 * (A * A * F) := by grind
  have f2 : (E - 4 * (B * B)) * S = E * S - 4 * (B * B * S) := by grind
  have f3 : 4 * (A * B) * M = 4 * (A * B * M) := by grind
  have f4 : E * (S - F) = E * S - E * F := by grind
  omega
theorem FS_gen {w h : Nat} {hex : Bool} {o t : Int64} {fx fy sx sy : Int} (hF : ds_FS w h hex o t fx fy sx sy) {x y : Int} (hs : ds_St w h o t x y) : ∃ a b : Int, x = a * fx + b * sx ∧ y = a * fy + b * sy := by
  obtain ⟨⟨f1, _, _⟩, s1, _, _⟩ := hF
  have fS := f1.1.1
  have f0 := f1.1.2
  have sS := s1.1.1
  have s0 := s1.1.2
  have sn : ¬ (sx = 0 ∧ sy = 0) := fun z => s0 (by rw [z.1, z.2, Int.zero_mul, Int.zero_mul])
  have hd : fx * sy - fy * sx ≠ 0 := fun z => s0 (by grind)
  have le1 := Mn_le f1 (u := sx) (v := sy) ⟨sS, sn⟩
  have pF := lg_pos (hex := hex) f0
  have p1 := Mn_le s1 (u := 1 * fx + 1 * sx) (v := 1 * fy + 1 * sy) ⟨by rw [Int.one_mul, Int.one_mul, Int.one_mul, Int.one_mul]; exact St_add fS sS, fun z => s0 (by grind)⟩
  have p2 := Mn_le s1 (u := (-1) * fx + 1 * sx) (v := (-1) * fy + 1 * sy) ⟨by rw [Int.one_mul, Int.one_mul]; exact St_add (St_mul fS (-1)) sS, fun z => s0 (by grind)⟩
  rw [lg_lin] at p1 p2
  obtain ⟨a, D, eD, a1, a2, Dp⟩ := near (x * sy - y * sx) (fx * sy - fy * sx) hd
  obtain ⟨b, D', eD', b1, b2, Dp'⟩ := near (fx * y - fy * x) (fx * sy - fy * sx) hd
  refine ⟨a, b, ?_⟩
  have rS : ds_St w h o t (x - a * fx - b * sx) (y - a * fy - b * sy) := by
    have := St_add (St_add hs (St_mul fS (-a))) (St_mul sS (-b))
    rw [show x + -a * fx + -b * sx = x - a * fx - b * sx by grind, show y + -a * fy + -b * sy = y - a * fy - b * sy by grind] at this
    exact this
  generalize hrx : x - a * fx - b * sx = rx at rS
  generalize hry : y - a * fy - b * sy = ry at rS
  generalize hA : (x * sy - y * sx) - a * (fx * sy - fy * sx) = A at a1 a2
  generalize hB : (fx * y - fy * x) - b * (fx * sy - fy * sx) = B at b1 b2
  have eA : A = rx * sy - ry * sx := by grind
  have eB : B = fx * ry - fy * rx := by grind
  generalize hdd : fx * sy - fy * sx = d at hd eD eD'
  have x1 : d * rx = A * fx + B * sx := by grind
  have x2 : d * ry = A * fy + B * sy := by grind
  have key := lg_lin hex A B fx fy sx sy
  rw [← x1, ← x2, lg_sc] at key
  have q1 : 4 * (A * A) ≤ d * d := by
    have := sq_le a1 a2
    have e : 2 * A * (2 * A) = 4 * (A * A) := by grind
    omega
  have q2 : 4 * (B * B) ≤ d * d := by
    have := sq_le b1 b2
    have e : 2 * B * (2 * B) = 4 * (B * B) := by grind
    omega
  have dd := sq_pos hd
  have red := red_1 (E := d * d) (F := ds_lg hex fx fy) (M := ds_lm hex fx fy sx sy) (S := ds_lg hex sx sy) dd q1 q2 (by omega) le1 (by omega) (by omega) (by omega)
  rw [← key] at red
  have par : rx * fy = ry * fx := by
    by_cases c : rx * fy = ry * fx
    · exact c
    · have := Mn_le s1 (u := rx) (v := ry) ⟨rS, c⟩
      have := Int.mul_nonneg (show 0 ≤ d * d by omega) (show 0 ≤ ds_lg hex rx ry - ds_lg hex sx sy by omega)
      have e : d * d * (ds_lg hex rx ry - ds_lg hex sx sy) = d * d * ds_lg hex rx ry - d * d * ds_lg hex sx sy := by grind
      omega
  have B0 : B = 0 := by grind
  have r0 : rx = 0 ∧ ry = 0 := by
    by_cases c : rx = 0 ∧ ry = 0
    · exact c
    · have l2 := Mn_le f1 (u := rx) (v := ry) ⟨rS, c⟩
      have l3 := Int.mul_nonneg (show 0 ≤ d * d by omega) (show 0 ≤ ds_lg hex rx ry - ds_lg hex fx fy by omega)
      have e : d * d * (ds_lg hex rx ry - ds_lg hex fx fy) = d * d * ds_lg hex rx ry - d * d * ds_lg hex fx fy := by grind
      have l4 := Int.mul_nonneg (show 0 ≤ d * d - 4 * (A * A) by omega) (show 0 ≤ ds_lg hex fx fy by omega)
      have e4 : (d * d - 4 * (A * A)) * ds_lg hex fx fy = d * d * ds_lg hex fx fy - 4 * (A * A * ds_lg hex fx fy) := by grind
      have l5 := Int.mul_pos dd pF
      rw [B0, Int.mul_zero, Int.zero_mul, Int.zero_mul, Int.zero_mul] at key
      omega
  omega
-- half sums
def ds_Hf (w h : Nat) (hex : Bool) (o t : Int64) (tn : Nat) (x y : Int) : Prop := ∃ u v : Int, x + ds_tx hex tn x y = 2 * u ∧ y + ds_ty2 hex tn x y = 2 * v ∧ ds_St w h o t u v
noncomputable def ds_pa (w h : Nat) (hex : Bool) (o t : Int64) (tn : Nat) : Bool := ds_d (∀ x y : Int, ds_St w h o t x y → ds_Hf w h hex o t tn x y)
theorem Hf_add {w h : Nat} {hex : Bool} {o t : Int64} {tn : Nat} {x y a b : Int} (h1 : ds_Hf w h hex o t tn x y) (h2 : ds_Hf w h hex o t tn a b) : ds_Hf w h hex o t tn (x + a) (y + b) := by
  obtain ⟨u, v, e1, e2, s⟩ := h1
  obtain ⟨u', v', e1', e2', s'⟩ := h2
  refine ⟨u + u', v + v', ?_, ?_, St_add s s'⟩
  · rw [(tx_add x y a b).1]; omega
  · rw [(tx_add x y a b).2]; omega
theorem Hf_mul {w h : Nat} {hex : Bool} {o t : Int64} {tn : Nat} {x y : Int} (k : Int) (h1 : ds_Hf w h hex o t tn x y) : ds_Hf w h hex o t tn (k * x) (k * y) := by
  obtain ⟨u, v, e1, e2, s⟩ := h1
  refine ⟨k * u, k * v, ?_, ?_, St_mul s k⟩
  · rw [(tx_mul k x y).1]; grind
  · rw [(tx_mul k x y).2]; grind
theorem pa_FS {w h : Nat} {hex : Bool} {o t : Int64} {tn : Nat} {fx fy sx sy : Int} (hF : ds_FS w h hex o t fx fy sx sy) : ds_pa w h hex o t tn = ds_d (ds_Hf w h hex o t tn fx fy ∧ ds_Hf w h hex o t tn sx sy) := by
  unfold ds_pa
  rw [Bool.eq_iff_iff, d_iff, d_iff]
  constructor
  · intro q; exact ⟨q _ _ hF.1.1.1.1, q _ _ hF.2.1.1.1⟩
  · intro q x y s
    obtain ⟨a, b, e1, e2⟩ := FS_gen hF s
    rw [e1, e2]
    exact Hf_add (Hf_mul a q.1) (Hf_mul b q.2)
theorem pa_tile {w h : Nat} (hk : ds_ok w h) {hex : Bool} {o t : Int64} {tn : Nat} : ds_pa w h hex o t tn = ds_d ((ds_Hf w h hex o t tn w 0 ∧ ds_Hf w h hex o t tn 0 h) ∧ ∀ y x : Nat, y < h → x < w → ds_St w h o t x y → ds_Hf w h hex o t tn x y) := by
  obtain ⟨k1, k2, k3, k4⟩ := id hk
  unfold ds_pa
  rw [Bool.eq_iff_iff, d_iff, d_iff]
  constructor
  · intro q; exact ⟨⟨q _ _ St_w, q _ _ St_h⟩, fun y x _ _ s => q _ _ s⟩
  · intro q x y s
    have a1 := Int.emod_nonneg x (show (w : Int) ≠ 0 by omega)
    have a2 := Int.emod_lt_of_pos x (show (0 : Int) < w by omega)
    have a3 := Int.emod_nonneg y (show (h : Int) ≠ 0 by omega)
    have a4 := Int.emod_lt_of_pos y (show (0 : Int) < h by omega)
    have := q.2 (y % h).toNat (x % w).toNat (by omega) (by omega) (by rw [Int.toNat_of_nonneg a1, Int.toNat_of_nonneg a3]; exact St_mod.mpr s)
    rw [Int.toNat_of_nonneg a1, Int.toNat_of_nonneg a3] at this
    have g := Hf_add this (Hf_add (Hf_mul (x / w) q.1.1) (Hf_mul (y / h) q.1.2))
    have e1 := Int.emod_add_mul_ediv x w
    have e2 := Int.emod_add_mul_ediv y h
    rw [Int.mul_comm] at e1 e2
    rw [Int.mul_zero, Int.mul_zero, Int.zero_add, Int.add_zero] at g
    rw [show x % w + x / w * w = x by grind, show y % h + y / h * h = y by grind] at g
    exact g
