/-! loops over the cells of a tile, as folds; counts -/
def ds_fx {A : Type} (g : A → Nat → A) : Nat → A → A
  | 0, a => a
  | n + 1, a => g (ds_fx g n a) n
def ds_fg {A : Type} (g : A → Nat → Nat → A) (w h : Nat) (a : A) : A := ds_fx (fun a y => ds_fx (fun a x => g a x y) w a) h a
theorem ds_lin {A σ ρ : Type} {body : σ → Option (σ ⊕ ρ)} (N : Nat) (so : A → Nat → σ) (g : A → Nat → A) (Inv : A → Prop) (hN : N < 1000)
    (hS : ∀ a k, k < N → Inv a → body (so a k) = some (.inl (so (g a k) (k + 1))) ∧ Inv (g a k)) {o : A → Option ρ} (hE : ∀ a, Inv a → body (so a N) = (o a).map .inr) (a0 : A) (h0 : Inv a0) : ds_it body 1000 (so a0 0) = o (ds_fx g N a0) ∧ Inv (ds_fx g N a0) := by
  have hI : ∀ k, k ≤ N → Inv (ds_fx g k a0) := by
    intro k
    induction k with
    | zero => intro _; exact h0
    | succ k ih => intro hk; exact (hS _ k (by omega) (ih (by omega))).2
  refine ⟨?_, hI N (Nat.le_refl N)⟩
  exact ds_it_up body (fun k => so (ds_fx g k a0) k) N 1000 _ (fun k hk => (hS _ k hk (hI k (by omega))).1) (hE _ (hI N (Nat.le_refl N))) hN
theorem ds_grid {A σ τ ρ : Type} {OB : σ → Option (σ ⊕ ρ)} {IB : Nat → τ → Option (τ ⊕ (σ ⊕ ρ))} (w h : Nat) (so : A → Nat → σ) (si : A → Nat → Nat → τ) (g : A → Nat → Nat → A) (Inv : A → Prop) (hw : w < 1000) (hh : h < 1000)
    (hO : ∀ a y, y < h → Inv a → OB (so a y) = ds_it (IB y) 1000 (si a y 0))
    (hI : ∀ a y x, y < h → x < w → Inv a → IB y (si a y x) = some (.inl (si (g a x y) y (x + 1))) ∧ Inv (g a x y))
    (hIe : ∀ a y, y < h → Inv a → IB y (si a y w) = some (.inr (.inl (so a (y + 1)))))
    {o : A → Option ρ} (hOe : ∀ a, Inv a → OB (so a h) = (o a).map .inr) (a0 : A) (h0 : Inv a0) : ds_it OB 1000 (so a0 0) = o (ds_fg g w h a0) ∧ Inv (ds_fg g w h a0) := by
  refine ds_lin (body := OB) h so (fun a y => ds_fx (fun a x => g a x y) w a) Inv hh ?_ hOe a0 h0
  intro a y hy ha
  rw [hO a y hy ha]
  have := ds_lin (body := IB y) w (fun a x => si a y x) (fun a x => g a x y) Inv hw (fun a x hx ha => hI a y x hy hx ha) (o := fun a => some (.inl (so a (y + 1)))) (fun a ha => by rw [hIe a y hy ha]; rfl) a ha
  exact this
-- counts
theorem fx_ct (p : Nat → Bool) : ∀ (n c : Nat), ds_fx (fun a k => a + (if p k then 1 else 0)) n c = c + ds_ct p n
  | 0, c => rfl
  | n + 1, c => by
    unfold ds_fx ds_ct
    rw [fx_ct p n c]; omega
def ds_rc (p : Nat → Bool) (w : Nat) : Nat → Nat
  | 0 => 0
  | y + 1 => ds_rc p w y + ds_ct (fun x => p (8 * y + x)) w
theorem fg_ct (p : Nat → Bool) (w : Nat) : ∀ (h c : Nat), ds_fg (fun a x y => a + (if p (8 * y + x) then 1 else 0)) w h c = c + ds_rc p w h
  | 0, c => rfl
  | h + 1, c => by
    have ih := fg_ct p w h c
    unfold ds_fg at ih ⊢
    unfold ds_fx ds_rc
    rw [ih, fx_ct (fun x => p (8 * h + x))]
    omega
theorem ct_false {p : Nat → Bool} : ∀ {n : Nat}, (∀ k, k < n → p k = false) → ds_ct p n = 0
  | 0, _ => rfl
  | n + 1, h => by unfold ds_ct; rw [ct_false (fun k hk => h k (by omega)), h n (by omega)]; rfl
theorem ct_cut (p : Nat → Bool) {w n : Nat} (h : w ≤ n) : ds_ct (fun x => decide (x < w) && p x) n = ds_ct p w := by
  obtain ⟨d, rfl⟩ : ∃ d, n = w + d := ⟨n - w, by omega⟩
  have z : ds_ct (fun i => decide (w + i < w) && p (w + i)) d = 0 := ct_false (fun k _ => by
    have : ¬ w + k < w := by omega
    simp [this])
  rw [ct_add, ct_cong (p := fun x => decide (x < w) && p x) (q := p) (fun k hk => by simp [hk]), z]
  omega
theorem rc_64 (p : Nat → Bool) {w h : Nat} (hw : w ≤ 8) (hh : h ≤ 8) : ds_rc p w h = ds_ct (fun i => ds_ins w h i && p i) 64 := by
  have rows : ∀ y, y ≤ 8 → ds_ct (fun i => ds_ins w h i && p i) (8 * y) = ds_rc p w (min y h) := by
    intro y
    induction y with
    | zero => intro _; rw [Nat.zero_min]; rfl
    | succ y ih =>
      intro hy
      rw [Nat.mul_succ, ct_add, ih (by omega)]
      by_cases h1 : y < h
      · rw [show min (y + 1) h = y + 1 by omega, show min y h = y by omega]
        have : ds_ct (fun i => ds_ins w h (8 * y + i) && p (8 * y + i)) 8 = ds_ct (fun x => p (8 * y + x)) w := by
          rw [← ct_cut (fun x => p (8 * y + x)) hw]
          apply ct_cong
          intro k hk
          have e : ds_ins w h (8 * y + k) = decide (k < w) := by
            unfold ds_ins
            rw [show (8 * y + k) % 8 = k by omega, show (8 * y + k) / 8 = y by omega, decide_eq_true h1, Bool.and_true]
          rw [e]
        rw [this]; rfl
      · rw [show min (y + 1) h = min y h by omega, ct_false]
        · omega
        · intro k hk
          unfold ds_ins
          rw [show (8 * y + k) / 8 = y by omega, decide_eq_false h1, Bool.and_false, Bool.false_and]
  have := rows 8 (Nat.le_refl 8)
  rw [show min 8 h = h by omega] at this
  exact this.symm
-- what is there, as yes or no
noncomputable def ds_d (p : Prop) : Bool := @decide p (Classical.propDecidable p)
theorem d_iff (p : Prop) : ds_d p = true ↔ p := @decide_eq_true_iff p (Classical.propDecidable p)
theorem d_true {p : Prop} (h : p) : ds_d p = true := (d_iff p).mpr h
theorem d_false {p : Prop} (h : ¬ p) : ds_d p = false := by
  cases e : ds_d p
  · rfl
  · exact absurd ((d_iff p).mp e) h
noncomputable def ds_sb (w h : Nat) (hex : Bool) (o t : Int64) (tn i : Nat) : Bool := ds_d (ds_Sy w h hex o t tn ((i % 8 : Nat) : Int) ((i / 8 : Nat) : Int))
/-- how many shifts a turning has -/
noncomputable def ds_ns (w h : Nat) (hex : Bool) (o t : Int64) (tn : Nat) : Nat := ds_ct (fun i => ds_ins w h i && ds_sb w h hex o t tn i) 64
theorem sb_xy {w h : Nat} {hex : Bool} {o t : Int64} {tn x y : Nat} (hx : x < 8) : ds_sb w h hex o t tn (8 * y + x) = ds_d (ds_Sy w h hex o t tn x y) := by
  unfold ds_sb
  rw [show (8 * y + x) % 8 = x by omega, show (8 * y + x) / 8 = y by omega]
theorem GV_b {w h : Nat} (hk : ds_ok w h) {hex : Bool} {o t : Int64} {fd : Nat → Int64} {tn : Nat} (hv : ds_GV w h hex o t fd tn) (ht : tn < ds_nt hex) {i : Nat} (hi : i < 64) : ds_b (fd tn) i = (ds_ins w h i && ds_sb w h hex o t tn i) := by
  obtain ⟨h1, h2, -⟩ := hv
  by_cases hin : i % 8 < w ∧ i / 8 < h
  · have e : ds_ins w h i = true := by unfold ds_ins; simp [hin.1, hin.2]
    have := h2 ht _ _ hin.1 hin.2
    rw [show 8 * (i / 8) + i % 8 = i by omega] at this
    rw [e, Bool.true_and]
    unfold ds_sb
    rw [Bool.eq_iff_iff, d_iff]; exact this
  · have e : ds_ins w h i = false := by
      unfold ds_ins
      by_cases h3 : i % 8 < w
      · have : ¬ i / 8 < h := fun z => hin ⟨h3, z⟩
        simp [this]
      · simp [h3]
    rw [e, Bool.false_and]
    cases e2 : ds_b (fd tn) i
    · rfl
    · exact absurd (h1 i hi e2) hin
theorem p_sf {fd : Nat → Int64} {tn : Nat} (h : tn < 12) : fX0_shiftsFor fd (nI tn) = some (fd tn) := by
  unfold fX0_shiftsFor
  rw [if_neg (nI_pos (by omega)), if_neg (show ¬ (12 : Int32) ≤ nI tn from nI_ge (b := 12) h (by omega)), if_pos (in_nI (by omega) (by omega)), nI_clamp (by omega)]
theorem g_ns {w h : Nat} (hk : ds_ok w h) {hex : Bool} {o t : Int64} {fd : Nat → Int64} {tn : Nat} (hv : ds_GV w h hex o t fd tn) (ht : tn < ds_nt hex) : fJ13_bitCount_95d88 (fd tn) = some (nI (ds_ns w h hex o t tn)) := by
  rw [p_bitCount]
  congr 2
  exact ct_cong (fun k hk2 => GV_b hk hv ht hk2)
theorem m_ns {w h : Nat} (hk : ds_ok w h) {hex : Bool} {o t : Int64} {al sh : Nat → Int32} (hm : ds_MT w h hex o t al) (h01 : ds_01 sh) {tn : Nat} (ht : tn < ds_nt hex) (hv : ds_SV w h hex o t sh tn) : fX8_shiftsOf al sh (nI tn) = some (nI (ds_ns w h hex o t tn)) := by
  obtain ⟨m0, m1, m2, m3⟩ := id hm
  obtain ⟨k1, k2, k3, k4⟩ := id hk
  have hnt : ds_nt hex ≤ 12 := by unfold ds_nt; split <;> omega
  unfold fX8_shiftsOf fX8_shiftsOf_4
  have := ds_grid (OB := fun s => fX8_shiftsOf_4_b al sh (nI tn) s.1 s.2) (IB := fun y s => fX8_shiftsOf_17_b al sh (nI tn) (nI y) s.1 s.2) w h (fun c y => (nI c, nI y)) (fun c _ x => (nI c, nI x)) (fun a x y => a + (if ds_sb w h hex o t tn (8 * y + x) then 1 else 0)) (fun _ => True) (by omega) (by omega)
    (fun a y hy _ => by
      dsimp only
      unfold fX8_shiftsOf_4_b
      rw [l_1, m1, if_neg (nI_ge hy (by omega))]; rfl)
    (fun a y x hy hx _ => by
      refine ⟨?_, trivial⟩
      dsimp only
      unfold fX8_shiftsOf_17_b
      rw [l_0, m0, if_neg (nI_ge hx (by omega)), i_768 (by omega) (by omega) (by omega), if_pos (in_nI (by omega) (by omega)), nI_clamp (by omega), sb_xy (by omega)]
      have q := hv x y hx hy
      rcases h01 (64 * tn + 8 * y + x) with e | e
      · rw [e] at q
        rw [if_pos e, d_false (fun z => absurd (q.mpr z) (by decide))]
        unfold fX8_shiftsOf_54
        rw [show (0 : Int32) = nI 0 from rfl, nI_add, nI_1]; rfl
      · rw [e] at q
        rw [if_neg (by rw [e]; decide), d_true (q.mp rfl)]
        unfold fX8_shiftsOf_54
        rw [nI_1, nI_1]; rfl)
    (fun a y hy _ => by
      dsimp only
      unfold fX8_shiftsOf_17_b
      rw [l_0, m0, if_pos (nI_le (Nat.le_refl w) (by omega))]
      unfold fX8_shiftsOf_62
      rw [Option.bind_some, nI_1])
    (o := fun a => some (nI a))
    (fun a _ => by
      dsimp only
      unfold fX8_shiftsOf_4_b
      rw [l_1, m1, if_pos (nI_le (Nat.le_refl h) (by omega))]; rfl)
    0 trivial
  have e := this.1
  rw [fg_ct, Nat.zero_add, rc_64 _ k2 k4] at e
  exact e
