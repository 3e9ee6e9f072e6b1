/-! the reference's FIRST and SECOND -/
theorem m_lg {w h : Nat} {hex : Bool} {o t : Int64} {al : Nat → Int32} (hm : ds_MT w h hex o t al) (x y : Int) : fX8_longOf al (ds_z x) (ds_z y) = some (ds_z (ds_lg hex x y)) := by
  unfold fX8_longOf fX8_longOf_24 ds_lg
  rw [l_2, hm.2.2.1]
  cases hex
  · rw [if_neg (by decide), z_mul, z_mul, z_add, show (0 : Int32) = ds_z 0 from rfl, z_add]; rfl
  · rw [if_pos (by decide), z_mul, z_mul, z_add, z_mul, z_add]; rfl
theorem m_ahead {w h : Nat} {hex : Bool} {o t : Int64} {al : Nat → Int32} (hm : ds_MT w h hex o t al) {x y u v : Int} (h1 : -10 ≤ x) (h2 : x ≤ 10) (h3 : -10 ≤ y) (h4 : y ≤ 10) (h5 : -10 ≤ u) (h6 : u ≤ 10) (h7 : -10 ≤ v) (h8 : v ≤ 10) : fX8_isAhead al (ds_z x) (ds_z y) (ds_z u) (ds_z v) = some (ds_q (ds_d (ds_ah hex x y u v))) := by
  have b1 := lg_bd (hex := hex) h1 h2 h3 h4
  have b2 := lg_bd (hex := hex) h5 h6 h7 h8
  unfold fX8_isAhead
  rw [m_lg hm, Option.bind_some, m_lg hm, Option.bind_some, z_sub]
  unfold ds_ah
  by_cases c1 : ds_lg hex x y = ds_lg hex u v
  · rw [if_pos ((z_eq0 (by omega) (by omega)).mpr (by omega))]
    by_cases c2 : x = u
    · rw [if_pos (by rw [c2])]
      by_cases c3 : y ≤ v
      · rw [if_pos ((z_le (by omega) (by omega) (by omega) (by omega)).mpr c3), d_false (by omega)]; rfl
      · rw [if_neg (fun z => c3 ((z_le (by omega) (by omega) (by omega) (by omega)).mp z)), d_true (by omega)]; rfl
    · rw [if_neg (fun z => c2 ((z_eq (by omega) (by omega) (by omega) (by omega)).mp z))]
      by_cases c3 : x ≤ u
      · rw [if_pos ((z_le (by omega) (by omega) (by omega) (by omega)).mpr c3), d_false (by omega)]; rfl
      · rw [if_neg (fun z => c3 ((z_le (by omega) (by omega) (by omega) (by omega)).mp z)), d_true (by omega)]; rfl
  · rw [if_neg (fun z => by have := (z_eq0 (by omega) (by omega)).mp z; omega), show (0 : Int32) = ds_z 0 from rfl]
    by_cases c3 : ds_lg hex u v ≤ ds_lg hex x y
    · rw [if_pos ((z_le (by omega) (by omega) (by omega) (by omega)).mpr (by omega)), d_false (by omega)]; rfl
    · rw [if_neg (fun z => c3 (by have := (z_le (by omega) (by omega) (by omega) (by omega)).mp z; omega)), d_true (by omega)]; rfl
theorem m_60 {w h : Nat} {hex : Bool} {o t : Int64} {al : Nat → Int32} (hm : ds_MT w h hex o t al) {C : Int → Int → Prop} {b : Int × Int} (hb : ds_bd b) {x y : Int} (h1 : -10 ≤ x) (h2 : x ≤ 10) (h3 : -10 ≤ y) (h4 : y ≤ 10) (hC : C x y) : fX8_laysSteps_60 (ds_z b.1) (ds_z b.2) al (ds_z x) (ds_z y) 1 = some (.inl (ds_z y + 1, ds_z (ds_sp hex C b x y).1, ds_z (ds_sp hex C b x y).2)) := by
  obtain ⟨b1, b2, b3, b4⟩ := id hb
  unfold fX8_laysSteps_60 fX8_laysSteps_96 fX8_laysSteps_79 fX8_laysSteps_96 fX8_laysSteps_106
  rw [if_neg (by decide), m_ahead hm h1 h2 h3 h4 b1 b2 b3 b4, Option.bind_some]
  by_cases c1 : b.1 = 0 ∧ b.2 = 0
  · rw [if_pos ((z_eq0 (by omega) (by omega)).mpr c1.1), if_pos ((z_eq0 (by omega) (by omega)).mpr c1.2), sp_yes ⟨hC, Or.inl c1⟩]
  · have e : (if ds_q (ds_d (ds_ah hex x y b.1 b.2)) = 0 then (some (.inl (ds_z y + 1, ds_z b.1, ds_z b.2)) : Option ((Int32 × Int32 × Int32) ⊕ ((Int32 × Int32 × Int32) ⊕ (Int32 × Int32 × Int32 × Int32)))) else some (.inl (ds_z y + 1, ds_z x, ds_z y))) = some (.inl (ds_z y + 1, ds_z (ds_sp hex C b x y).1, ds_z (ds_sp hex C b x y).2)) := by
      by_cases c2 : ds_ah hex x y b.1 b.2
      · rw [d_true c2, if_neg (by decide), sp_yes ⟨hC, Or.inr c2⟩]
      · rw [d_false c2, if_pos (show ds_q false = 0 from rfl), sp_no (fun z => z.2.elim c1 c2)]
    by_cases c2 : b.1 = 0
    · rw [if_pos ((z_eq0 (by omega) (by omega)).mpr c2), if_neg (fun z => c1 ⟨c2, (z_eq0 (by omega) (by omega)).mp z⟩)]; exact e
    · rw [if_neg (fun z => c2 ((z_eq0 (by omega) (by omega)).mp z))]; exact e
theorem m_59 {hex : Bool} {al : Nat → Int32} {C : Int → Int → Prop} {b : Int × Int} {x y : Int} (hC : ¬ C x y) : fX8_laysSteps_60 (ds_z b.1) (ds_z b.2) al (ds_z x) (ds_z y) 0 = some (.inl (ds_z y + 1, ds_z (ds_sp hex C b x y).1, ds_z (ds_sp hex C b x y).2)) := by
  unfold fX8_laysSteps_60 fX8_laysSteps_106
  rw [if_pos rfl, sp_no (fun z => hC z.1)]
theorem m_165 : fX8_laysSteps_165 = fX8_laysSteps_60 := rfl
theorem m_steps {w h : Nat} (hk : ds_ok w h) {hex : Bool} {o t : Int64} {al sh : Nat → Int32} (hm : ds_MT w h hex o t al) (h01 : ds_01 sh) (hv : ds_SV w h hex o t sh 0) : ∃ a b c d : Int, fX8_laysSteps al sh = some (ds_z a, ds_z b, ds_z c, ds_z d) ∧ ds_FS w h hex o t a b c d := by
  have sym : ∀ x y : Int, -10 ≤ x → x ≤ 10 → -10 ≤ y → y ≤ 10 → fX8_isStep al sh (ds_z x) (ds_z y) = some (ds_q (ds_d (ds_St w h o t x y))) := by
    intro x y h1 h2 h3 h4
    obtain ⟨q, e1, e2⟩ := m_step hk hm h01 hv (x := x) (y := y) (by omega) (by omega) (by omega) (by omega)
    rw [e1, show q = ds_d (ds_St w h o t x y) by rw [Bool.eq_iff_iff, d_iff, e2]]
  have sec : ∀ a : Int × Int, ds_bd a → fX8_laysSteps_118 (ds_z a.1) (ds_z a.2) (0 : Int32) (0 : Int32) al sh = some (ds_z a.1, ds_z a.2, ds_z (ds_fg (fun b (y x : Nat) => ds_sp hex (ds_C2 w h o t a.1 a.2) b ((x : Int) - (10 : Nat)) ((y : Int) - (10 : Nat))) 21 21 (0, 0)).1, ds_z (ds_fg (fun b (y x : Nat) => ds_sp hex (ds_C2 w h o t a.1 a.2) b ((x : Int) - (10 : Nat)) ((y : Int) - (10 : Nat))) 21 21 (0, 0)).2) := by
    intro a ha
    unfold fX8_laysSteps_118 fX8_laysSteps_121
    have := ds_grid (OB := fun s => fX8_laysSteps_121_b (ds_z a.1) (ds_z a.2) al sh s.1 s.2.1 s.2.2) (IB := fun x s => fX8_laysSteps_130_b (ds_z a.1) (ds_z a.2) al sh (ds_z ((x : Int) - 10)) s.1 s.2.1 s.2.2) 21 21 (fun b x => (ds_z ((x : Int) - 10), ds_z b.1, ds_z b.2)) (fun b _ y => (ds_z ((y : Int) - 10), ds_z b.1, ds_z b.2)) (fun b (y x : Nat) => ds_sp hex (ds_C2 w h o t a.1 a.2) b ((x : Int) - (10 : Nat)) ((y : Int) - (10 : Nat))) ds_bd (by omega) (by omega)
      (fun b y hy hb => by
        dsimp only
        unfold fX8_laysSteps_121_b
        rw [show (10 : Int32) = ds_z 10 from rfl, if_neg (fun z => by have := (z_lt (by omega) (by omega) (by omega) (by omega)).mp z; omega)]; rfl)
      (fun b x y hx hy hb => by
        obtain ⟨b1, b2, b3, b4⟩ := id hb
        obtain ⟨a1, a2, a3, a4⟩ := id ha
        refine ⟨?_, sp_bd hb (by omega) (by omega) (by omega) (by omega)⟩
        dsimp only
        unfold fX8_laysSteps_130_b fX8_laysSteps_164
        have x1 := mul_bd (x := (x : Int) - 10) (y := a.2) (by omega) (by omega) (by omega) (by omega)
        have x2 := mul_bd (x := (y : Int) - 10) (y := a.1) (by omega) (by omega) (by omega) (by omega)
        rw [show (10 : Int32) = ds_z 10 from rfl, if_neg (fun z => by have := (z_lt (by omega) (by omega) (by omega) (by omega)).mp z; omega), sym _ _ (by omega) (by omega) (by omega) (by omega), Option.bind_some, m_165, show ((10 : Nat) : Int) = 10 from rfl, z_mul, z_mul, ← z_succ]
        by_cases c3 : ds_St w h o t ((x : Int) - 10) ((y : Int) - 10)
        · rw [d_true c3, if_neg (by decide)]
          by_cases c1 : ((x : Int) - 10) * a.2 = ((y : Int) - 10) * a.1
          · rw [if_pos (by rw [c1])]
            exact m_59 (fun z => z.2 c1)
          · rw [if_neg (fun z => c1 ((z_eq (by omega) (by omega) (by omega) (by omega)).mp z))]
            exact m_60 hm hb (by omega) (by omega) (by omega) (by omega) ⟨c3, c1⟩
        · rw [d_false c3, if_pos (show ds_q false = 0 from rfl)]
          exact m_59 (fun z => c3 z.1))
      (fun b y hy hb => by
        dsimp only
        unfold fX8_laysSteps_130_b fX8_laysSteps_217
        rw [if_pos (by decide), Option.bind_some, z_succ])
      (o := fun b => some (ds_z a.1, ds_z a.2, ds_z b.1, ds_z b.2))
      (fun b hb => by
        dsimp only
        unfold fX8_laysSteps_121_b
        rw [if_pos (by decide)]; rfl)
      ((0 : Int), (0 : Int)) ⟨by decide, by decide, by decide, by decide⟩
    exact this.1
  unfold fX8_laysSteps fX8_laysSteps_23
  have F := ds_grid (OB := fun s => fX8_laysSteps_23_b (0 : Int32) (0 : Int32) al sh s.1 s.2.1 s.2.2) (IB := fun x s => fX8_laysSteps_32_b al sh (ds_z ((x : Int) - 10)) s.1 s.2.1 s.2.2) 21 21 (fun b x => (ds_z ((x : Int) - 10), ds_z b.1, ds_z b.2)) (fun b _ y => (ds_z ((y : Int) - 10), ds_z b.1, ds_z b.2)) (fun b (y x : Nat) => ds_sp hex (ds_C1 w h o t) b ((x : Int) - (10 : Nat)) ((y : Int) - (10 : Nat))) ds_bd (by omega) (by omega)
      (fun b y hy hb => by
        dsimp only
        unfold fX8_laysSteps_23_b
        rw [show (10 : Int32) = ds_z 10 from rfl, if_neg (fun z => by have := (z_lt (by omega) (by omega) (by omega) (by omega)).mp z; omega)]; rfl)
      (fun b x y hx hy hb => by
        obtain ⟨b1, b2, b3, b4⟩ := id hb
        refine ⟨?_, sp_bd hb (by omega) (by omega) (by omega) (by omega)⟩
        dsimp only
        unfold fX8_laysSteps_32_b fX8_laysSteps_59 fX8_laysSteps_55
        rw [show (10 : Int32) = ds_z 10 from rfl, if_neg (fun z => by have := (z_lt (by omega) (by omega) (by omega) (by omega)).mp z; omega), sym _ _ (by omega) (by omega) (by omega) (by omega), Option.bind_some, show ((10 : Nat) : Int) = 10 from rfl, ← z_succ]
        by_cases c3 : ds_St w h o t ((x : Int) - 10) ((y : Int) - 10)
        · rw [d_true c3, if_neg (by decide)]
          by_cases c1 : (x : Int) - 10 = 0
          · rw [if_pos ((z_eq0 (by omega) (by omega)).mpr c1)]
            by_cases c2 : (y : Int) - 10 = 0
            · rw [if_pos ((z_eq0 (by omega) (by omega)).mpr c2)]
              exact m_59 (fun z => z.2 ⟨c1, c2⟩)
            · rw [if_neg (fun z => c2 ((z_eq0 (by omega) (by omega)).mp z))]
              exact m_60 hm hb (by omega) (by omega) (by omega) (by omega) ⟨c3, fun z => c2 z.2⟩
          · rw [if_neg (fun z => c1 ((z_eq0 (by omega) (by omega)).mp z))]
            exact m_60 hm hb (by omega) (by omega) (by omega) (by omega) ⟨c3, fun z => c1 z.1⟩
        · rw [d_false c3, if_pos (show ds_q false = 0 from rfl)]
          exact m_59 (fun z => c3 z.1))
      (fun b y hy hb => by
        dsimp only
        unfold fX8_laysSteps_32_b fX8_laysSteps_112
        rw [if_pos (by decide), Option.bind_some, z_succ])
      (o := fun b => fX8_laysSteps_118 (ds_z b.1) (ds_z b.2) (0 : Int32) (0 : Int32) al sh)
      (fun b hb => by
        dsimp only
        unfold fX8_laysSteps_23_b
        rw [if_pos (by decide)]
        cases fX8_laysSteps_118 (ds_z b.1) (ds_z b.2) (0 : Int32) (0 : Int32) al sh <;> rfl)
      ((0 : Int), (0 : Int)) ⟨by decide, by decide, by decide, by decide⟩
  have B1 := box_x (hex := hex) (C := ds_C1 w h o t) C1_0 10
  have F1 := F.1
  have F2 := F.2
  generalize hA : ds_fg (fun b (y x : Nat) => ds_sp hex (ds_C1 w h o t) b ((x : Int) - (10 : Nat)) ((y : Int) - (10 : Nat))) 21 21 ((0 : Int), (0 : Int)) = a at F1 F2
  have B1 : ds_In hex (ds_C1 w h o t) (fun x y => -((10 : Nat) : Int) ≤ x ∧ x ≤ (10 : Nat) ∧ -((10 : Nat) : Int) ≤ y ∧ y ≤ (10 : Nat)) a := by rw [← hA]; exact B1
  have B2 := box_x (hex := hex) (C := ds_C2 w h o t a.1 a.2) C2_0 10
  rw [sec a F2] at F1
  exact ⟨_, _, _, _, F1, FS_of hk (by omega) B1 B2⟩
