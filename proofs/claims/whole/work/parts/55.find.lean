/-! the searches themselves -/
theorem g_steps {w h : Nat} (hk : ds_ok w h) {hex : Bool} {o t : Int64} {fd : Nat → Int64} (hv : ds_GV w h hex o t fd 0) (fx fy sx sy : Int32) : ∃ a b c d : Int, fX0_findSteps 0 fx fy sx sy (nI w) (nI h) (ds_q hex) fd = some (1, ds_z a, ds_z b, ds_z c, ds_z d) ∧ ds_FS w h hex o t a b c d := by
  have hnt : 0 < ds_nt hex := by have := nt_le hex; omega
  have sym : ∀ x y : Int, -10 ≤ x → x ≤ 10 → -10 ≤ y → y ≤ 10 → fX0_hasSymmetry fd (nI w) (nI h) (0 : Int32) (ds_z x) (ds_z y) = some (ds_q (ds_d (ds_St w h o t x y))) := by
    intro x y h1 h2 h3 h4
    have := g_sym hk hv hnt (x := x) (y := y) (by omega) (by omega) (by omega) (by omega)
    have e : ds_d (ds_Sy w h hex o t 0 x y) = ds_d (ds_St w h o t x y) := by rw [Bool.eq_iff_iff, d_iff, d_iff, Sy_0]
    rw [e] at this; exact this
  unfold fX0_findSteps
  rw [if_pos rfl]
  -- SECOND, FIRST being there
  have sec : ∀ a : Int × Int, ds_bd a → fX0_findSteps_103 (ds_z a.1) (ds_z a.2) (0 : Int32) (0 : Int32) (nI w) (nI h) (ds_q hex) fd = some (1, ds_z a.1, ds_z a.2, ds_z (ds_fg (fun b (x y : Nat) => ds_sp hex (ds_C2 w h o t a.1 a.2) b ((x : Int) - (9 : Nat)) ((y : Int) - (9 : Nat))) 19 19 (0, 0)).1, ds_z (ds_fg (fun b (x y : Nat) => ds_sp hex (ds_C2 w h o t a.1 a.2) b ((x : Int) - (9 : Nat)) ((y : Int) - (9 : Nat))) 19 19 (0, 0)).2) := by
    intro a ha
    unfold fX0_findSteps_103 fX0_findSteps_106
    have := ds_grid (OB := fun s => fX0_findSteps_106_b (ds_z a.1) (ds_z a.2) (nI w) (nI h) (ds_q hex) fd s.1 s.2.1 s.2.2) (IB := fun y s => fX0_findSteps_115_b (ds_z a.1) (ds_z a.2) (nI w) (nI h) (ds_q hex) fd (ds_z ((y : Int) - 9)) s.1 s.2.1 s.2.2) 19 19 (fun b y => (ds_z ((y : Int) - 9), ds_z b.1, ds_z b.2)) (fun b _ x => (ds_z ((x : Int) - 9), ds_z b.1, ds_z b.2)) (fun b (x y : Nat) => ds_sp hex (ds_C2 w h o t a.1 a.2) b ((x : Int) - (9 : Nat)) ((y : Int) - (9 : Nat))) ds_bd (by omega) (by omega)
      (fun b y hy hb => by
        dsimp only
        unfold fX0_findSteps_106_b
        rw [show (9 : Int32) = ds_z 9 from rfl, if_neg (fun z => by have := (z_lt (by omega) (by omega) (by omega) (by omega)).mp z; omega)]; rfl)
      (fun b y x hy hx hb => by
        obtain ⟨b1, b2, b3, b4⟩ := id hb
        obtain ⟨a1, a2, a3, a4⟩ := id ha
        refine ⟨?_, sp_bd hb (by omega) (by omega) (by omega) (by omega)⟩
        dsimp only
        unfold fX0_findSteps_115_b fX0_findSteps_173
        have x1 := mul_bd (x := (x : Int) - 9) (y := a.2) (by omega) (by omega) (by omega) (by omega)
        have x2 := mul_bd (x := (y : Int) - 9) (y := a.1) (by omega) (by omega) (by omega) (by omega)
        rw [show (9 : Int32) = ds_z 9 from rfl, if_neg (fun z => by have := (z_lt (by omega) (by omega) (by omega) (by omega)).mp z; omega), z_mul, z_mul, z_succ, p_ahead hex (by omega) (by omega) (by omega) (by omega) (by omega) (by omega) (by omega) (by omega), Option.bind_some, sym _ _ (by omega) (by omega) (by omega) (by omega), Option.bind_some]
        rw [show ((9 : Nat) : Int) = 9 from rfl]
        by_cases c1 : ((x : Int) - 9) * a.2 = ((y : Int) - 9) * a.1
        · rw [if_pos (by rw [c1]), sp_no (fun z => z.1.2 c1)]
        · rw [if_neg (fun z => c1 ((z_eq (by omega) (by omega) (by omega) (by omega)).mp z))]
          by_cases c2 : (b.1 = 0 ∧ b.2 = 0) ∨ ds_ah hex ((x : Int) - 9) ((y : Int) - 9) b.1 b.2
          · rw [d_true c2, if_neg (by decide)]
            by_cases c3 : ds_St w h o t ((x : Int) - 9) ((y : Int) - 9)
            · rw [d_true c3, if_neg (by decide), sp_yes ⟨⟨c3, c1⟩, c2⟩]
            · rw [d_false c3, if_pos (show ds_q false = 0 from rfl), sp_no (fun z => c3 z.1.1)]
          · rw [d_false c2, if_pos (show ds_q false = 0 from rfl), sp_no (fun z => c2 z.2)])
      (fun b y hy hb => by
        dsimp only
        unfold fX0_findSteps_115_b fX0_findSteps_179
        rw [if_pos (by decide), Option.bind_some, z_succ])
      (o := fun b => some (1, ds_z a.1, ds_z a.2, ds_z b.1, ds_z b.2))
      (fun b hb => by
        dsimp only
        unfold fX0_findSteps_106_b fX0_findSteps_185
        rw [if_pos (by decide), Option.bind_some]; rfl)
      ((0 : Int), (0 : Int)) ⟨by decide, by decide, by decide, by decide⟩
    exact this.1
  unfold fX0_findSteps_31
  have F := ds_grid (OB := fun s => fX0_findSteps_31_b (0 : Int32) (0 : Int32) (nI w) (nI h) (ds_q hex) fd s.1 s.2.1 s.2.2) (IB := fun y s => fX0_findSteps_40_b (nI w) (nI h) (ds_q hex) fd (ds_z ((y : Int) - 9)) s.1 s.2.1 s.2.2) 19 19 (fun b y => (ds_z ((y : Int) - 9), ds_z b.1, ds_z b.2)) (fun b _ x => (ds_z ((x : Int) - 9), ds_z b.1, ds_z b.2)) (fun b (x y : Nat) => ds_sp hex (ds_C1 w h o t) b ((x : Int) - (9 : Nat)) ((y : Int) - (9 : Nat))) ds_bd (by omega) (by omega)
      (fun b y hy hb => by
        dsimp only
        unfold fX0_findSteps_31_b
        rw [show (9 : Int32) = ds_z 9 from rfl, if_neg (fun z => by have := (z_lt (by omega) (by omega) (by omega) (by omega)).mp z; omega)]; rfl)
      (fun b y x hy hx hb => by
        obtain ⟨b1, b2, b3, b4⟩ := id hb
        refine ⟨?_, sp_bd hb (by omega) (by omega) (by omega) (by omega)⟩
        dsimp only
        unfold fX0_findSteps_40_b
        rw [show (9 : Int32) = ds_z 9 from rfl, if_neg (fun z => by have := (z_lt (by omega) (by omega) (by omega) (by omega)).mp z; omega)]
        have e54 : ¬ ((x : Int) - 9 = 0 ∧ (y : Int) - 9 = 0) → fX0_findSteps_54 (ds_z b.1) (ds_z b.2) (nI w) (nI h) (ds_q hex) fd (ds_z ((y : Int) - 9)) (ds_z ((x : Int) - 9)) = some (.inl (ds_z (((x + 1 : Nat) : Int) - 9), ds_z (ds_sp hex (ds_C1 w h o t) b ((x : Int) - (9 : Nat)) ((y : Int) - (9 : Nat))).1, ds_z (ds_sp hex (ds_C1 w h o t) b ((x : Int) - (9 : Nat)) ((y : Int) - (9 : Nat))).2)) := by
          intro c1
          unfold fX0_findSteps_54 fX0_findSteps_91
          rw [z_succ, p_ahead hex (by omega) (by omega) (by omega) (by omega) (by omega) (by omega) (by omega) (by omega), Option.bind_some, sym _ _ (by omega) (by omega) (by omega) (by omega), Option.bind_some]
          rw [show ((9 : Nat) : Int) = 9 from rfl]
          by_cases c2 : (b.1 = 0 ∧ b.2 = 0) ∨ ds_ah hex ((x : Int) - 9) ((y : Int) - 9) b.1 b.2
          · rw [d_true c2, if_neg (by decide)]
            by_cases c3 : ds_St w h o t ((x : Int) - 9) ((y : Int) - 9)
            · rw [d_true c3, if_neg (by decide), sp_yes ⟨⟨c3, c1⟩, c2⟩]
            · rw [d_false c3, if_pos (show ds_q false = 0 from rfl), sp_no (fun z => c3 z.1.1)]
          · rw [d_false c2, if_pos (show ds_q false = 0 from rfl), sp_no (fun z => c2 z.2)]
        by_cases c1 : (x : Int) - 9 = 0
        · rw [if_pos (by rw [c1]; rfl)]
          by_cases c2 : (y : Int) - 9 = 0
          · rw [if_pos (by rw [c2]; rfl), show ((9 : Nat) : Int) = 9 from rfl, sp_no (fun z => z.1.2 ⟨c1, c2⟩)]
            unfold fX0_findSteps_91
            rw [z_succ]
          · rw [if_neg (fun z => c2 ((z_eq0 (by omega) (by omega)).mp z))]
            exact e54 (fun z => c2 z.2)
        · rw [if_neg (fun z => c1 ((z_eq0 (by omega) (by omega)).mp z))]
          exact e54 (fun z => c1 z.1))
      (fun b y hy hb => by
        dsimp only
        unfold fX0_findSteps_40_b fX0_findSteps_97
        rw [if_pos (by decide), Option.bind_some, z_succ])
      (o := fun b => fX0_findSteps_103 (ds_z b.1) (ds_z b.2) (0 : Int32) (0 : Int32) (nI w) (nI h) (ds_q hex) fd)
      (fun b hb => by
        dsimp only
        unfold fX0_findSteps_31_b
        rw [if_pos (by decide)]
        cases fX0_findSteps_103 (ds_z b.1) (ds_z b.2) (0 : Int32) (0 : Int32) (nI w) (nI h) (ds_q hex) fd <;> rfl)
      ((0 : Int), (0 : Int)) ⟨by decide, by decide, by decide, by decide⟩
  have B1 := box_y (hex := hex) (C := ds_C1 w h o t) C1_0 9
  have F1 := F.1
  have F2 := F.2
  generalize hA : ds_fg (fun b (x y : Nat) => ds_sp hex (ds_C1 w h o t) b ((x : Int) - (9 : Nat)) ((y : Int) - (9 : Nat))) 19 19 ((0 : Int), (0 : Int)) = a at F1 F2
  have B1 : ds_In hex (ds_C1 w h o t) (fun x y => -((9 : Nat) : Int) ≤ x ∧ x ≤ (9 : Nat) ∧ -((9 : Nat) : Int) ≤ y ∧ y ≤ (9 : Nat)) a := by rw [← hA]; exact B1
  have B2 := box_y (hex := hex) (C := ds_C2 w h o t a.1 a.2) C2_0 9
  rw [sec a F2] at F1
  exact ⟨_, _, _, _, F1, FS_of hk (Nat.le_refl 9) B1 B2⟩
