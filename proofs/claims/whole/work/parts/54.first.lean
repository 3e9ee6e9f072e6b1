/-! FIRST and SECOND found: class and reference -/
theorem z_eq0 {a : Int} (h1 : -2147483648 ≤ a) (h2 : a < 2147483648) : ds_z a = 0 ↔ a = 0 := z_eq (b := 0) h1 h2 (by omega) (by omega)
def ds_C1 (w h : Nat) (o t : Int64) (x y : Int) : Prop := ds_St w h o t x y ∧ ¬ (x = 0 ∧ y = 0)
def ds_C2 (w h : Nat) (o t : Int64) (fx fy x y : Int) : Prop := ds_St w h o t x y ∧ ¬ x * fy = y * fx
def ds_bd (a : Int × Int) : Prop := -10 ≤ a.1 ∧ a.1 ≤ 10 ∧ -10 ≤ a.2 ∧ a.2 ≤ 10
theorem sp_bd {hex : Bool} {C : Int → Int → Prop} {a : Int × Int} {x y : Int} (h : ds_bd a) (h1 : -10 ≤ x) (h2 : x ≤ 10) (h3 : -10 ≤ y) (h4 : y ≤ 10) : ds_bd (ds_sp hex C a x y) := by
  unfold ds_sp
  split
  · exact ⟨h1, h2, h3, h4⟩
  · exact h
theorem mul_bd {x y : Int} (h1 : -10 ≤ x) (h2 : x ≤ 10) (h3 : -10 ≤ y) (h4 : y ≤ 10) : -100 ≤ x * y ∧ x * y ≤ 100 := by
  have : x = -10 ∨ x = -9 ∨ x = -8 ∨ x = -7 ∨ x = -6 ∨ x = -5 ∨ x = -4 ∨ x = -3 ∨ x = -2 ∨ x = -1 ∨ x = 0 ∨ x = 1 ∨ x = 2 ∨ x = 3 ∨ x = 4 ∨ x = 5 ∨ x = 6 ∨ x = 7 ∨ x = 8 ∨ x = 9 ∨ x = 10 := by omega
  rcases this with rfl | rfl | rfl | rfl | rfl | rfl | rfl | rfl | rfl | rfl | rfl | rfl | rfl | rfl | rfl | rfl | rfl | rfl | rfl | rfl | rfl <;> omega
theorem lg_bd {hex : Bool} {x y : Int} (h1 : -10 ≤ x) (h2 : x ≤ 10) (h3 : -10 ≤ y) (h4 : y ≤ 10) : -1000 ≤ ds_lg hex x y ∧ ds_lg hex x y ≤ 1000 := by
  have a1 := mul_bd h1 h2 h1 h2
  have a2 := mul_bd h3 h4 h3 h4
  have a3 := mul_bd h1 h2 h3 h4
  unfold ds_lg
  split <;> omega
theorem p_lg (hex : Bool) (x y : Int) : fX1_lengthOf (ds_q hex) (ds_z x) (ds_z y) = some (ds_z (ds_lg hex x y)) := by
  unfold fX1_lengthOf fX1_lengthOf_18 ds_lg
  cases hex
  · rw [if_pos (show ds_q false = 0 from rfl), z_mul, z_mul, z_add, show (0 : Int32) = ds_z 0 from rfl, z_add]; rfl
  · rw [if_neg (by decide), z_mul, z_mul, z_add, z_mul, z_add]; rfl
theorem p_ahead (hex : Bool) {x y u v : Int} (h1 : -10 ≤ x) (h2 : x ≤ 10) (h3 : -10 ≤ y) (h4 : y ≤ 10) (h5 : -10 ≤ u) (h6 : u ≤ 10) (h7 : -10 ≤ v) (h8 : v ≤ 10) : fX0_comesAhead (ds_q hex) (ds_z x) (ds_z y) (ds_z u) (ds_z v) = some (ds_q (ds_d ((u = 0 ∧ v = 0) ∨ ds_ah hex x y u v))) := by
  have b1 := lg_bd (hex := hex) h1 h2 h3 h4
  have b2 := lg_bd (hex := hex) h5 h6 h7 h8
  have main : ¬ (u = 0 ∧ v = 0) → fX0_comesAhead_11 (ds_q hex) (ds_z x) (ds_z y) (ds_z u) (ds_z v) = some (ds_q (ds_d ((u = 0 ∧ v = 0) ∨ ds_ah hex x y u v))) := by
    intro hn
    unfold fX0_comesAhead_11
    rw [p_lg, Option.bind_some, p_lg, Option.bind_some]
    have e : ((u = 0 ∧ v = 0) ∨ ds_ah hex x y u v) ↔ ds_ah hex x y u v := ⟨fun z => z.elim (fun q => absurd q hn) id, Or.inr⟩
    have ee : ds_d ((u = 0 ∧ v = 0) ∨ ds_ah hex x y u v) = ds_d (ds_ah hex x y u v) := by rw [Bool.eq_iff_iff, d_iff, d_iff]; exact e
    rw [ee]
    unfold ds_ah
    by_cases c1 : ds_lg hex x y = ds_lg hex u v
    · rw [if_pos (by rw [c1])]
      by_cases c2 : x = u
      · rw [if_pos (by rw [c2])]
        by_cases c3 : y ≤ v
        · rw [if_pos ((z_le (by omega) (by omega) (by omega) (by omega)).mpr c3), d_false (by omega)]; rfl
        · rw [if_neg (fun z => c3 ((z_le (by omega) (by omega) (by omega) (by omega)).mp z)), d_true (by omega)]; rfl
      · rw [if_neg (fun z => c2 ((z_eq (by omega) (by omega) (by omega) (by omega)).mp z))]
        by_cases c3 : x ≤ u
        · rw [if_pos ((z_le (by omega) (by omega) (by omega) (by omega)).mpr c3), d_false (by omega)]; rfl
        · rw [if_neg (fun z => c3 ((z_le (by omega) (by omega) (by omega) (by omega)).mp z)), d_true (by omega)]; rfl
    · rw [if_neg (fun z => c1 ((z_eq (by omega) (by omega) (by omega) (by omega)).mp z))]
      by_cases c3 : ds_lg hex u v ≤ ds_lg hex x y
      · rw [if_pos ((z_le (by omega) (by omega) (by omega) (by omega)).mpr c3), d_false (by omega)]; rfl
      · rw [if_neg (fun z => c3 ((z_le (by omega) (by omega) (by omega) (by omega)).mp z)), d_true (by omega)]; rfl
  unfold fX0_comesAhead
  by_cases c1 : u = 0
  · rw [if_pos (show ds_z u = 0 by rw [c1]; rfl)]
    by_cases c2 : v = 0
    · rw [if_pos (show ds_z v = 0 by rw [c2]; rfl), d_true (Or.inl ⟨c1, c2⟩)]; rfl
    · rw [if_neg (fun z => c2 ((z_eq0 (by omega) (by omega)).mp z))]
      exact main (fun z => c2 z.2)
  · rw [if_neg (fun z => c1 ((z_eq0 (by omega) (by omega)).mp z))]
    exact main (fun z => c1 z.1)
theorem sp_no {hex : Bool} {C : Int → Int → Prop} {a : Int × Int} {x y : Int} (h : ¬ (C x y ∧ ((a.1 = 0 ∧ a.2 = 0) ∨ ds_ah hex x y a.1 a.2))) : ds_sp hex C a x y = a := by
  unfold ds_sp; rw [d_false h, if_neg (by decide)]
theorem sp_yes {hex : Bool} {C : Int → Int → Prop} {a : Int × Int} {x y : Int} (h : C x y ∧ ((a.1 = 0 ∧ a.2 = 0) ∨ ds_ah hex x y a.1 a.2)) : ds_sp hex C a x y = (x, y) := by
  unfold ds_sp; rw [d_true h, if_pos rfl]
theorem z_succ (k : Nat) (R : Int) : ds_z ((k : Int) - R) + 1 = ds_z (((k + 1 : Nat) : Int) - R) := by
  rw [show (1 : Int32) = ds_z 1 from rfl, z_add, show ((k + 1 : Nat) : Int) - R = (k : Int) - R + 1 by omega]
theorem C1_0 {w h : Nat} {o t : Int64} : ¬ ds_C1 w h o t 0 0 := fun z => z.2 ⟨rfl, rfl⟩
theorem C2_0 {w h : Nat} {o t : Int64} {fx fy : Int} : ¬ ds_C2 w h o t fx fy 0 0 := fun z => z.2 (by rw [Int.zero_mul, Int.zero_mul])
/-- what both sides find -/
def ds_FS (w h : Nat) (hex : Bool) (o t : Int64) (fx fy sx sy : Int) : Prop := (ds_Mn hex (ds_C1 w h o t) fx fy ∧ ds_lg hex fx fy ≤ 64 ∧ (-9 ≤ fx ∧ fx ≤ 9 ∧ -9 ≤ fy ∧ fy ≤ 9)) ∧ ds_Mn hex (ds_C2 w h o t fx fy) sx sy ∧ ds_lg hex sx sy ≤ 64 ∧ (-9 ≤ sx ∧ sx ≤ 9 ∧ -9 ≤ sy ∧ sy ≤ 9)
theorem FS_one {w h : Nat} {hex : Bool} {o t : Int64} {a b c d a' b' c' d' : Int} (h1 : ds_FS w h hex o t a b c d) (h2 : ds_FS w h hex o t a' b' c' d') : a = a' ∧ b = b' ∧ c = c' ∧ d = d' := by
  have e := Mn_one h1.1.1 h2.1.1
  obtain ⟨rfl, rfl⟩ := e
  have e2 := Mn_one h1.2.1 h2.2.1
  exact ⟨rfl, rfl, e2.1, e2.2⟩
theorem FS_of {w h : Nat} (hk : ds_ok w h) {hex : Bool} {o t : Int64} {R : Nat} (hR : 9 ≤ R) {a b : Int × Int} (h1 : ds_In hex (ds_C1 w h o t) (fun x y => -(R : Int) ≤ x ∧ x ≤ R ∧ -(R : Int) ≤ y ∧ y ≤ R) a) (h2 : ds_In hex (ds_C2 w h o t a.1 a.2) (fun x y => -(R : Int) ≤ x ∧ x ≤ R ∧ -(R : Int) ≤ y ∧ y ≤ R) b) : ds_FS w h hex o t a.1 a.2 b.1 b.2 := by
  obtain ⟨k1, k2, k3, k4⟩ := hk
  have M1 := In_Mn hR h1 (p := w) (q := 0) ⟨St_w, fun z => by omega⟩ (lg_w k2).1
  refine ⟨M1, ?_⟩
  by_cases c : a.2 = 0
  · have hne : ¬ a.1 = 0 := fun z => M1.1.1.2 ⟨z, c⟩
    refine In_Mn hR h2 (p := 0) (q := h) ⟨St_h, fun z => ?_⟩ (lg_w k4).2
    rw [Int.zero_mul] at z
    rcases Int.mul_eq_zero.mp z.symm with q | q
    · omega
    · exact hne q
  · refine In_Mn hR h2 (p := w) (q := 0) ⟨St_w, fun z => ?_⟩ (lg_w k2).1
    rw [Int.zero_mul] at z
    rcases Int.mul_eq_zero.mp z with q | q
    · omega
    · exact c q
