/-! FIRST and SECOND: the least steps, on both sides -/
def ds_lg (hex : Bool) (x y : Int) : Int := x * x + y * y + (if hex then x * y else 0)
def ds_ah (hex : Bool) (x y u v : Int) : Prop := ds_lg hex x y < ds_lg hex u v ∨ (ds_lg hex x y = ds_lg hex u v ∧ (u < x ∨ (u = x ∧ v < y)))
theorem ah_tot {hex : Bool} {x y u v : Int} (h : ¬ (x = u ∧ y = v)) : ds_ah hex x y u v ∨ ds_ah hex u v x y := by
  unfold ds_ah; omega
theorem ah_asym {hex : Bool} {x y u v : Int} (h : ds_ah hex x y u v) : ¬ ds_ah hex u v x y := by
  unfold ds_ah at *; omega
theorem ah_trans {hex : Bool} {x y u v a b : Int} (h1 : ds_ah hex x y u v) (h2 : ds_ah hex u v a b) : ds_ah hex x y a b := by
  unfold ds_ah at *; omega
/-- the one that comes ahead of all others -/
def ds_Mn (hex : Bool) (C : Int → Int → Prop) (x y : Int) : Prop := C x y ∧ ∀ u v : Int, C u v → ¬ (u = x ∧ v = y) → ds_ah hex x y u v
theorem Mn_one {hex : Bool} {C : Int → Int → Prop} {x y u v : Int} (h1 : ds_Mn hex C x y) (h2 : ds_Mn hex C u v) : x = u ∧ y = v := by
  by_cases e : x = u ∧ y = v
  · exact e
  · exact absurd (h2.2 x y h1.1 e) (ah_asym (h1.2 u v h2.1 (fun z => e ⟨z.1.symm, z.2.symm⟩)))
theorem sq_nn (a : Int) : 0 ≤ a * a := by
  rcases Int.le_total 0 a with h | h
  · exact Int.mul_nonneg h h
  · have := Int.mul_nonneg (show 0 ≤ -a by omega) (show 0 ≤ -a by omega)
    rwa [Int.neg_mul_neg] at this
theorem sq_100 {a : Int} (h : a ≤ -10 ∨ 10 ≤ a) : 100 ≤ a * a := by
  rcases h with h | h
  · have := Int.mul_le_mul (a := 10) (b := 10) (c := -a) (d := -a) (by omega) (by omega) (by omega) (by omega)
    rw [Int.neg_mul_neg] at this; omega
  · have := Int.mul_le_mul (a := 10) (b := 10) (c := a) (d := a) h h (by omega) (by omega)
    omega
theorem lg_far {hex : Bool} {x y : Int} (h : (x ≤ -10 ∨ 10 ≤ x) ∨ (y ≤ -10 ∨ 10 ≤ y)) : 64 < ds_lg hex x y := by
  unfold ds_lg
  have h1 := sq_nn x
  have h2 := sq_nn y
  cases hex
  · rcases h with h | h
    · have := sq_100 h; simp; omega
    · have := sq_100 h; simp; omega
  · have h3 := sq_nn (2 * y + x)
    have h4 := sq_nn (2 * x + y)
    have e3 : (2 * y + x) * (2 * y + x) = 4 * (y * y) + 4 * (x * y) + x * x := by grind
    have e4 : (2 * x + y) * (2 * x + y) = 4 * (x * x) + 4 * (x * y) + y * y := by grind
    rcases h with h | h
    · have := sq_100 h; simp; omega
    · have := sq_100 h; simp; omega
/-- one step of the search -/
noncomputable def ds_sp (hex : Bool) (C : Int → Int → Prop) (a : Int × Int) (x y : Int) : Int × Int := if ds_d (C x y ∧ ((a.1 = 0 ∧ a.2 = 0) ∨ ds_ah hex x y a.1 a.2)) then (x, y) else a
def ds_In (hex : Bool) (C V : Int → Int → Prop) (a : Int × Int) : Prop := (a = (0, 0) ∧ ∀ x y, V x y → ¬ C x y) ∨ (V a.1 a.2 ∧ C a.1 a.2 ∧ ∀ u v, V u v → C u v → ¬ (u = a.1 ∧ v = a.2) → ds_ah hex a.1 a.2 u v)
theorem In_step {hex : Bool} {C V V' : Int → Int → Prop} {a : Int × Int} {x y : Int} (h0 : ¬ C 0 0) (hV : ∀ u v, V' u v ↔ V u v ∨ (u = x ∧ v = y)) (h : ds_In hex C V a) : ds_In hex C V' (ds_sp hex C a x y) := by
  unfold ds_sp
  by_cases hc : C x y ∧ ((a.1 = 0 ∧ a.2 = 0) ∨ ds_ah hex x y a.1 a.2)
  · rw [d_true hc, if_pos rfl]
    right
    refine ⟨(hV x y).mpr (Or.inr ⟨rfl, rfl⟩), hc.1, fun u v hv hcu hne => ?_⟩
    rcases (hV u v).mp hv with q | q
    · rcases h with ⟨ha, hn⟩ | ⟨_, hca, hm⟩
      · exact absurd hcu (hn u v q)
      · rcases hc.2 with z | z
        · rw [z.1, z.2] at hca; exact absurd hca h0
        · by_cases e : u = a.1 ∧ v = a.2
          · rw [e.1, e.2]; exact z
          · exact ah_trans z (hm u v q hcu e)
    · exact absurd q hne
  · rw [d_false hc, if_neg (by decide)]
    rcases h with ⟨ha, hn⟩ | ⟨hva, hca, hm⟩
    · left
      refine ⟨ha, fun u v hv hcu => ?_⟩
      rcases (hV u v).mp hv with q | q
      · exact hn u v q hcu
      · rw [q.1, q.2] at hcu
        exact hc ⟨hcu, Or.inl (by rw [ha]; exact ⟨rfl, rfl⟩)⟩
    · right
      refine ⟨(hV _ _).mpr (Or.inl hva), hca, fun u v hv hcu hne => ?_⟩
      rcases (hV u v).mp hv with q | q
      · exact hm u v q hcu hne
      · rw [q.1, q.2] at hcu hne ⊢
        rcases ah_tot (hex := hex) hne with z | z
        · exact absurd ⟨hcu, Or.inr z⟩ hc
        · exact z
theorem fx_ind {A : Type} {g : A → Nat → A} (P : Nat → A → Prop) {n : Nat} {a : A} (h0 : P 0 a) (hs : ∀ k a, k < n → P k a → P (k + 1) (g a k)) : P n (ds_fx g n a) := by
  have : ∀ k, k ≤ n → P k (ds_fx g k a) := by
    intro k
    induction k with
    | zero => intro _; exact h0
    | succ k ih => intro hk; exact hs k _ (by omega) (ih (by omega))
  exact this n (Nat.le_refl n)
/-- a search over a box, rows by y or by x -/
theorem box_y {hex : Bool} {C : Int → Int → Prop} (h0 : ¬ C 0 0) (R : Nat) : ds_In hex C (fun x y => -(R : Int) ≤ x ∧ x ≤ R ∧ -(R : Int) ≤ y ∧ y ≤ R) (ds_fg (fun a (x y : Nat) => ds_sp hex C a ((x : Int) - R) ((y : Int) - R)) (2 * R + 1) (2 * R + 1) (0, 0)) := by
  have := fx_ind (g := fun a y => ds_fx (fun a (x : Nat) => ds_sp hex C a ((x : Int) - R) ((y : Int) - R)) (2 * R + 1) a) (n := 2 * R + 1) (a := ((0 : Int), (0 : Int))) (fun k a => ds_In hex C (fun x y => -(R : Int) ≤ x ∧ x ≤ R ∧ -(R : Int) ≤ y ∧ y < (k : Int) - R) a) (Or.inl ⟨rfl, fun x y q => by omega⟩) (fun k a hk hI => by
    have := fx_ind (g := fun a (x : Nat) => ds_sp hex C a ((x : Int) - R) ((k : Int) - R)) (n := 2 * R + 1) (a := a) (fun j a => ds_In hex C (fun x y => -(R : Int) ≤ x ∧ x ≤ R ∧ -(R : Int) ≤ y ∧ (y < (k : Int) - R ∨ (y = (k : Int) - R ∧ x < (j : Int) - R))) a) (by
      have e : (fun x y : Int => -(R : Int) ≤ x ∧ x ≤ R ∧ -(R : Int) ≤ y ∧ (y < (k : Int) - R ∨ (y = (k : Int) - R ∧ x < ((0 : Nat) : Int) - R))) = (fun x y : Int => -(R : Int) ≤ x ∧ x ≤ R ∧ -(R : Int) ≤ y ∧ y < (k : Int) - R) := by
        funext x y; apply propext; omega
      rw [e]; exact hI) (fun j a hj hI => In_step h0 (fun u v => by omega) hI)
    have e : (fun x y : Int => -(R : Int) ≤ x ∧ x ≤ R ∧ -(R : Int) ≤ y ∧ (y < (k : Int) - R ∨ (y = (k : Int) - R ∧ x < ((2 * R + 1 : Nat) : Int) - R))) = (fun x y : Int => -(R : Int) ≤ x ∧ x ≤ R ∧ -(R : Int) ≤ y ∧ y < ((k + 1 : Nat) : Int) - R) := by
      funext x y; apply propext; omega
    rw [e] at this; exact this)
  have e : (fun x y : Int => -(R : Int) ≤ x ∧ x ≤ R ∧ -(R : Int) ≤ y ∧ y < ((2 * R + 1 : Nat) : Int) - R) = (fun x y : Int => -(R : Int) ≤ x ∧ x ≤ R ∧ -(R : Int) ≤ y ∧ y ≤ R) := by
    funext x y; apply propext; omega
  rw [e] at this; exact this
theorem box_x {hex : Bool} {C : Int → Int → Prop} (h0 : ¬ C 0 0) (R : Nat) : ds_In hex C (fun x y => -(R : Int) ≤ x ∧ x ≤ R ∧ -(R : Int) ≤ y ∧ y ≤ R) (ds_fg (fun a (y x : Nat) => ds_sp hex C a ((x : Int) - R) ((y : Int) - R)) (2 * R + 1) (2 * R + 1) (0, 0)) := by
  have := fx_ind (g := fun a x => ds_fx (fun a (y : Nat) => ds_sp hex C a ((x : Int) - R) ((y : Int) - R)) (2 * R + 1) a) (n := 2 * R + 1) (a := ((0 : Int), (0 : Int))) (fun k a => ds_In hex C (fun x y => -(R : Int) ≤ y ∧ y ≤ R ∧ -(R : Int) ≤ x ∧ x < (k : Int) - R) a) (Or.inl ⟨rfl, fun x y q => by omega⟩) (fun k a hk hI => by
    have := fx_ind (g := fun a (y : Nat) => ds_sp hex C a ((k : Int) - R) ((y : Int) - R)) (n := 2 * R + 1) (a := a) (fun j a => ds_In hex C (fun x y => -(R : Int) ≤ y ∧ y ≤ R ∧ -(R : Int) ≤ x ∧ (x < (k : Int) - R ∨ (x = (k : Int) - R ∧ y < (j : Int) - R))) a) (by
      have e : (fun x y : Int => -(R : Int) ≤ y ∧ y ≤ R ∧ -(R : Int) ≤ x ∧ (x < (k : Int) - R ∨ (x = (k : Int) - R ∧ y < ((0 : Nat) : Int) - R))) = (fun x y : Int => -(R : Int) ≤ y ∧ y ≤ R ∧ -(R : Int) ≤ x ∧ x < (k : Int) - R) := by
        funext x y; apply propext; omega
      rw [e]; exact hI) (fun j a hj hI => In_step h0 (fun u v => by omega) hI)
    have e : (fun x y : Int => -(R : Int) ≤ y ∧ y ≤ R ∧ -(R : Int) ≤ x ∧ (x < (k : Int) - R ∨ (x = (k : Int) - R ∧ y < ((2 * R + 1 : Nat) : Int) - R))) = (fun x y : Int => -(R : Int) ≤ y ∧ y ≤ R ∧ -(R : Int) ≤ x ∧ x < ((k + 1 : Nat) : Int) - R) := by
      funext x y; apply propext; omega
    rw [e] at this; exact this)
  have e : (fun x y : Int => -(R : Int) ≤ y ∧ y ≤ R ∧ -(R : Int) ≤ x ∧ x < ((2 * R + 1 : Nat) : Int) - R) = (fun x y : Int => -(R : Int) ≤ x ∧ x ≤ R ∧ -(R : Int) ≤ y ∧ y ≤ R) := by
    funext x y; apply propext; omega
  rw [e] at this; exact this
/-- if something short is there, the best of a box of 9 or more is the best of all -/
theorem In_Mn {hex : Bool} {C : Int → Int → Prop} {R : Nat} (hR : 9 ≤ R) {a : Int × Int} (h : ds_In hex C (fun x y => -(R : Int) ≤ x ∧ x ≤ R ∧ -(R : Int) ≤ y ∧ y ≤ R) a) {p q : Int} (hc : C p q) (hl : ds_lg hex p q ≤ 64) : ds_Mn hex C a.1 a.2 ∧ ds_lg hex a.1 a.2 ≤ 64 ∧ (-9 ≤ a.1 ∧ a.1 ≤ 9 ∧ -9 ≤ a.2 ∧ a.2 ≤ 9) := by
  have near : ∀ x y : Int, ds_lg hex x y ≤ 64 → -9 ≤ x ∧ x ≤ 9 ∧ -9 ≤ y ∧ y ≤ 9 := by
    intro x y hxy
    by_cases z : (x ≤ -10 ∨ 10 ≤ x) ∨ (y ≤ -10 ∨ 10 ≤ y)
    · have := lg_far (hex := hex) z; omega
    · omega
  have np := near p q hl
  rcases h with ⟨_, hn⟩ | ⟨hva, hca, hm⟩
  · exact absurd hc (hn p q (by omega))
  · have la : ds_lg hex a.1 a.2 ≤ 64 := by
      by_cases e : p = a.1 ∧ q = a.2
      · rw [← e.1, ← e.2]; exact hl
      · have := hm p q (by omega) hc e
        unfold ds_ah at this; omega
    refine ⟨⟨hca, fun u v hu hne => ?_⟩, la, near _ _ la⟩
    by_cases z : (u ≤ -10 ∨ 10 ≤ u) ∨ (v ≤ -10 ∨ 10 ≤ v)
    · have := lg_far (hex := hex) z
      unfold ds_ah; omega
    · exact hm u v (by omega) hu hne
theorem lg_w {hex : Bool} {n : Nat} (hn : n ≤ 8) : ds_lg hex n 0 ≤ 64 ∧ ds_lg hex 0 n ≤ 64 := by
  have h1 : (n : Int) * n ≤ 64 := by
    have := Nat.mul_le_mul hn hn
    omega
  unfold ds_lg
  cases hex <;> simp <;> omega
