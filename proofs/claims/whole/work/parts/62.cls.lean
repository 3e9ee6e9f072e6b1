/-! the class of the ornament, on both sides -/
theorem n_eq0 {n : Nat} (h : n < 1000) : nI n = 0 ↔ n = 0 := by
  rw [z_nI, z_eq0 (by omega) (by omega)]; omega
theorem n_le0 {n : Nat} (h : n < 1000) : nI n ≤ 0 ↔ n = 0 := by
  rw [z_nI, show (0 : Int32) = ds_z 0 from rfl, z_le (by omega) (by omega) (by omega) (by omega)]; omega
theorem fc_le {w h : Nat} {hex : Bool} {o t : Int64} {p : Nat → Bool} : ds_fc w h hex o t p ≤ 6 := by
  obtain ⟨n1, n2, n3, n4⟩ := nt_le hex
  have := ct_le (fun k => ds_hs w h hex o t (ds_n2 hex + k) && p (ds_n2 hex + k)) (ds_n2 hex)
  unfold ds_fc; omega
theorem fc_true {w h : Nat} {hex : Bool} {o t : Int64} : ds_ct (fun k => ds_hs w h hex o t (ds_n2 hex + k)) (ds_n2 hex) = ds_fc w h hex o t (fun _ => true) := by
  unfold ds_fc
  exact ct_cong (fun k _ => by rw [Bool.and_true])
noncomputable def ds_cv (w h : Nat) (hex : Bool) (o t : Int64) (a b : Int) : Int :=
  if ds_or w h hex o t = 1 then
    if ds_fc w h hex o t (fun _ => true) = 0 then 0 else if ds_fc w h hex o t (fun k => !ds_pa w h hex o t k) = 0 then (if ds_fc w h hex o t (ds_mi w h hex o t) = 0 then 3 else 2) else 4
  else if ds_or w h hex o t = 2 then
    if ds_fc w h hex o t (fun _ => true) = 0 then 1 else if ds_fc w h hex o t (fun k => !ds_pa w h hex o t k) = 0 then 7 - (ds_fc w h hex o t (ds_mi w h hex o t) : Int) else 8
  else if ds_or w h hex o t = 3 then
    if ds_fc w h hex o t (fun _ => true) = 0 then 12 else if ds_sh w h hex o t a b = false then 14 else 13
  else if ds_or w h hex o t = 4 then
    if ds_fc w h hex o t (fun _ => true) = 0 then 9 else if ds_fmi w h hex o t a b = false then 11 else 10
  else if ds_fc w h hex o t (fun _ => true) = 0 then 15 else 16
theorem m_cls {w h : Nat} (hk : ds_ok w h) {hex : Bool} {o t : Int64} {al sh : Nat → Int32} (hm : ds_MT w h hex o t al) (h01 : ds_01 sh) (hv : ∀ tn, tn < ds_nt hex → ds_SV w h hex o t sh tn) : ∃ a b c d : Int, ds_FS w h hex o t a b c d ∧ fX8_cls al sh ds_tabF = some (ds_z (ds_cv w h hex o t a b), ds_z a, ds_z b, ds_z c, ds_z d) := by
  obtain ⟨n1, n2, n3, n4⟩ := nt_le hex
  obtain ⟨a, b, c, d, e, hF⟩ := m_steps hk hm h01 (hv 0 (by omega))
  refine ⟨a, b, c, d, hF, ?_⟩
  obtain ⟨⟨fm, fl, f1, f2, f3, f4⟩, _⟩ := id hF
  have q0 := m_flips hk hm h01 hv (q := 0) (by omega)
  have q1 := m_flips hk hm h01 hv (q := 1) (by omega)
  have q3 := m_flips hk hm h01 hv (q := 3) (by omega)
  rw [show nI 0 = 0 from rfl, show ds_wh w h hex o t 0 = fun _ => true from rfl] at q0
  rw [show nI 1 = 1 from rfl, show ds_wh w h hex o t 1 = ds_mi w h hex o t from rfl] at q1
  rw [show nI 3 = 3 from rfl, show ds_wh w h hex o t 3 = fun k => !ds_pa w h hex o t k from rfl] at q3
  have l0 := fc_le (w := w) (h := h) (hex := hex) (o := o) (t := t) (p := fun _ => true)
  have l1 := fc_le (w := w) (h := h) (hex := hex) (o := o) (t := t) (p := ds_mi w h hex o t)
  have l3 := fc_le (w := w) (h := h) (hex := hex) (o := o) (t := t) (p := fun k => !ds_pa w h hex o t k)
  unfold fX8_cls ds_cv
  rw [e, Option.bind_some, m_order hk hm h01 hv, Option.bind_some, q0, Option.bind_some, q1, Option.bind_some, q3, Option.bind_some, m_short hk hm h01 hv f1 f2 f3 f4 fl, Option.bind_some, m_firstMirror hk hm h01 hv f1 f2 f3 f4 fm.1.2, Option.bind_some]
  simp only [n_eq0 (show ds_fc w h hex o t (fun _ => true) < 1000 by omega), n_le0 (show ds_fc w h hex o t (ds_mi w h hex o t) < 1000 by omega), n_le0 (show ds_fc w h hex o t (fun k => !ds_pa w h hex o t k) < 1000 by omega), q_0]
  rcases or_ok (w := w) (h := h) (hex := hex) (o := o) (t := t) with r | r | r | r | r
  · rw [r, if_pos (show nI 1 = 1 from rfl), if_pos (rfl : (1 : Nat) = 1)]
    split
    · rfl
    · split
      · split <;> rfl
      · rfl
  · rw [r, if_neg (show ¬ nI 2 = 1 by decide), if_pos (show nI 2 = 2 from rfl), if_neg (show ¬ (2 : Nat) = 1 by decide), if_pos (rfl : (2 : Nat) = 2)]
    split
    · rfl
    · split
      · rw [z_nI, show (7 : Int32) = ds_z 7 from rfl, z_sub]
      · rfl
  · rw [r, if_neg (show ¬ nI 3 = 1 by decide), if_neg (show ¬ nI 3 = 2 by decide), if_pos (show nI 3 = 3 from rfl), if_neg (show ¬ (3 : Nat) = 1 by decide), if_neg (show ¬ (3 : Nat) = 2 by decide), if_pos (rfl : (3 : Nat) = 3)]
    split
    · rfl
    · split <;> rfl
  · rw [r, if_neg (show ¬ nI 4 = 1 by decide), if_neg (show ¬ nI 4 = 2 by decide), if_neg (show ¬ nI 4 = 3 by decide), if_pos (show nI 4 = 4 from rfl), if_neg (show ¬ (4 : Nat) = 1 by decide), if_neg (show ¬ (4 : Nat) = 2 by decide), if_neg (show ¬ (4 : Nat) = 3 by decide), if_pos (rfl : (4 : Nat) = 4)]
    split
    · rfl
    · split <;> rfl
  · rw [r, if_neg (show ¬ nI 6 = 1 by decide), if_neg (show ¬ nI 6 = 2 by decide), if_neg (show ¬ nI 6 = 3 by decide), if_neg (show ¬ nI 6 = 4 by decide), if_neg (show ¬ (6 : Nat) = 1 by decide), if_neg (show ¬ (6 : Nat) = 2 by decide), if_neg (show ¬ (6 : Nat) = 3 by decide), if_neg (show ¬ (6 : Nat) = 4 by decide)]
    split <;> rfl
theorem g_cls {w h : Nat} (hk : ds_ok w h) {hex : Bool} {o t : Int64} {fd : Nat → Int64} (hv : ∀ tn, tn < 12 → ds_GV w h hex o t fd tn) {sf fx fy sx sy : Int32} (hs : ds_SF w h hex o t sf fx fy sx sy) {a b c d : Int} (hF : ds_FS w h hex o t a b c d) : fX0_planeClass sf fx fy sx sy (nI w) (nI h) (ds_q hex) fd = some (ds_z (ds_cv w h hex o t a b), 1, ds_z a, ds_z b, ds_z c, ds_z d) := by
  obtain ⟨n1, n2, n3, n4⟩ := nt_le hex
  obtain ⟨⟨fm, fl, f1, f2, f3, f4⟩, _⟩ := id hF
  have l0 := fc_le (w := w) (h := h) (hex := hex) (o := o) (t := t) (p := fun _ => true)
  have l1 := fc_le (w := w) (h := h) (hex := hex) (o := o) (t := t) (p := ds_mi w h hex o t)
  have l3 := fc_le (w := w) (h := h) (hex := hex) (o := o) (t := t) (p := fun k => !ds_pa w h hex o t k)
  have hs1 : ds_SF w h hex o t 1 (ds_z a) (ds_z b) (ds_z c) (ds_z d) := Or.inr ⟨rfl, a, b, c, d, rfl, rfl, rfl, rfl, hF⟩
  have key : ∀ s : Bool, (s = true ↔ ds_fc w h hex o t (fun _ => true) = 0) → fX0_planeClass_12 sf fx fy sx sy (nI w) (nI h) (ds_q hex) fd (ds_q s) = some (ds_z (ds_cv w h hex o t a b), 1, ds_z a, ds_z b, ds_z c, ds_z d) := by
    intro s es
    unfold fX0_planeClass_12 fX0_planeClass_144 ds_cv
    rw [g_find hk (hv 0 (by omega)) hs hF, Option.bind_some, g_order hk hv, Option.bind_some]
    dsimp only
    rw [g_crossed hk hv hs1 hF, Option.bind_some, g_mirrors hk hv, Option.bind_some, g_short hk hv f1 f2 f3 f4 fl, Option.bind_some, g_keeps hk hv f1 f2 f3 f4, Option.bind_some]
    simp only [Option.bind_some, n_le0 (show ds_fc w h hex o t (fun k => !ds_pa w h hex o t k) < 1000 by omega), q_0]
    have sw : ∀ {A : Type} (x y : A), (if s = false then x else y) = if ds_fc w h hex o t (fun _ => true) = 0 then y else x := by
      intro A x y
      cases s
      · rw [if_pos rfl, if_neg (fun z => Bool.noConfusion (es.mpr z))]
      · rw [if_neg (by decide), if_pos (es.mp rfl)]
    simp only [sw]
    rcases or_ok (w := w) (h := h) (hex := hex) (o := o) (t := t) with r | r | r | r | r
    · have one := fc_one (p := ds_mi w h hex o t) r
      rw [r, if_neg (show ¬ nI 1 = 2 by decide), if_neg (show ¬ nI 1 = 3 by decide), if_neg (show ¬ nI 1 = 4 by decide), if_neg (show ¬ nI 1 = 5 by decide), if_neg (show ¬ nI 1 = 6 by decide), if_pos (rfl : (1 : Nat) = 1)]
      split
      · rfl
      · split
        · split
          · rename_i e0; rw [e0]; rfl
          · rw [show ds_fc w h hex o t (ds_mi w h hex o t) = 1 by omega]; rfl
        · rfl
    · rw [r, if_pos (show nI 2 = 2 from rfl), if_neg (show ¬ (2 : Nat) = 1 by decide), if_pos (rfl : (2 : Nat) = 2)]
      split
      · rfl
      · split
        · rw [z_nI, show (7 : Int32) = ds_z 7 from rfl, z_sub]
        · rfl
    · rw [r, if_neg (show ¬ nI 3 = 2 by decide), if_pos (show nI 3 = 3 from rfl), if_neg (show ¬ (3 : Nat) = 1 by decide), if_neg (show ¬ (3 : Nat) = 2 by decide), if_pos (rfl : (3 : Nat) = 3)]
      split
      · rfl
      · split <;> rfl
    · rw [r, if_neg (show ¬ nI 4 = 2 by decide), if_neg (show ¬ nI 4 = 3 by decide), if_pos (show nI 4 = 4 from rfl), if_neg (show ¬ (4 : Nat) = 1 by decide), if_neg (show ¬ (4 : Nat) = 2 by decide), if_neg (show ¬ (4 : Nat) = 3 by decide), if_pos (rfl : (4 : Nat) = 4)]
      split
      · rfl
      · split <;> rfl
    · rw [r, if_neg (show ¬ nI 6 = 2 by decide), if_neg (show ¬ nI 6 = 3 by decide), if_neg (show ¬ nI 6 = 4 by decide), if_neg (show ¬ nI 6 = 5 by decide), if_pos (show nI 6 = 6 from rfl), if_neg (show ¬ (6 : Nat) = 1 by decide), if_neg (show ¬ (6 : Nat) = 2 by decide), if_neg (show ¬ (6 : Nat) = 3 by decide), if_neg (show ¬ (6 : Nat) = 4 by decide)]
      split <;> rfl
  unfold fX0_planeClass
  rw [g_flips hk hv, fc_true, Option.bind_some]
  by_cases c0 : ds_fc w h hex o t (fun _ => true) = 0
  · rw [if_pos ((n_eq0 (by omega)).mpr c0)]
    exact key true ⟨fun _ => c0, fun _ => rfl⟩
  · rw [if_neg (fun z => c0 ((n_eq0 (by omega)).mp z))]
    exact key false ⟨fun z => Bool.noConfusion z, fun z => absurd z c0⟩
