/-! flips counted -/
theorem ds_any {σ ρ : Type} {body : σ → Option (σ ⊕ ρ)} (N : Nat) (so : Nat → σ) (p : Nat → Prop) (rt rf : ρ) (hN : N < 1000) (hs : ∀ k, k < N → body (so k) = if ds_d (p k) then some (.inr rt) else some (.inl (so (k + 1)))) (he : body (so N) = some (.inr rf)) : ds_it body 1000 (so 0) = some (if ds_d (∃ k, k < N ∧ p k) then rt else rf) := by
  suffices hq : ∃ r, ds_it body 1000 (so 0) = some r ∧ r = (if ds_d (∃ k, k < N ∧ p k) then rt else rf) by
    obtain ⟨r, e, rfl⟩ := hq; exact e
  refine ds_it_inv _ (fun k s => s = so k ∧ ∀ j, j < k → ¬ p j) _ N 1000 0 _ (Nat.zero_le _) ⟨rfl, fun j hj => absurd hj (Nat.not_lt_zero j)⟩ (by omega) ?_ ?_
  · rintro k s hk ⟨rfl, f⟩
    rw [hs k hk]
    by_cases c : p k
    · right
      rw [d_true c, if_pos rfl]
      exact ⟨_, rfl, by rw [d_true ⟨k, hk, c⟩, if_pos rfl]⟩
    · left
      rw [d_false c, if_neg (by decide)]
      refine ⟨_, rfl, rfl, fun j hj => ?_⟩
      by_cases e : j = k
      · rw [e]; exact c
      · exact f j (by omega)
  · rintro s ⟨rfl, f⟩
    rw [he]
    exact ⟨_, rfl, by rw [d_false (fun ⟨j, h1, h2⟩ => f j h1 h2), if_neg (by decide)]⟩
noncomputable def ds_fc (w h : Nat) (hex : Bool) (o t : Int64) (p : Nat → Bool) : Nat := ds_ct (fun k => ds_hs w h hex o t (ds_n2 hex + k) && p (ds_n2 hex + k)) (ds_n2 hex)
noncomputable def ds_fl (w h : Nat) (hex : Bool) (o t : Int64) (tn : Nat) : Bool := decide (ds_n2 hex ≤ tn) && ds_hs w h hex o t tn
theorem fc_all {w h : Nat} {hex : Bool} {o t : Int64} (p : Nat → Bool) : ds_ct (fun k => ds_fl w h hex o t k && p k) (ds_nt hex) = ds_fc w h hex o t p := by
  obtain ⟨n1, n2, n3, n4⟩ := nt_le hex
  rw [show ds_nt hex = ds_n2 hex + ds_n2 hex by omega, ct_add, ct_false (fun k hk => by unfold ds_fl; simp; intro z; omega), Nat.zero_add]
  unfold ds_fc
  apply ct_cong
  intro k _
  unfold ds_fl
  simp
theorem g_hasFlip {w h : Nat} (hk : ds_ok w h) {hex : Bool} {o t : Int64} {fd : Nat → Int64} {tn : Nat} (hv : ds_GV w h hex o t fd tn) (ht : tn < ds_nt hex) : fX0_hasFlip (ds_q hex) fd (nI tn) = some (ds_q (ds_fl w h hex o t tn)) := by
  obtain ⟨n1, n2, n3, n4⟩ := nt_le hex
  unfold fX0_hasFlip fX1_isFlip ds_fl
  rw [(p_nt hex).1, (p_nt hex).2, Option.bind_some, Option.bind_some, p_sf (by omega), Option.bind_some]
  by_cases c : tn < ds_n2 hex
  · rw [if_pos (by rw [z_nI, z_nI]; exact (z_lt (by omega) (by omega) (by omega) (by omega)).mpr (by omega)), Option.bind_some, if_pos rfl]
    rw [show decide (ds_n2 hex ≤ tn) = false by simp; omega]; rfl
  · rw [if_neg (fun z => by rw [z_nI, z_nI] at z; have := (z_lt (by omega) (by omega) (by omega) (by omega)).mp z; omega), if_neg (nI_ge ht (by omega)), Option.bind_some, if_neg (by decide)]
    have g := GV_0 hk hv ht
    rw [show decide (ds_n2 hex ≤ tn) = true by simp; omega, Bool.true_and]
    by_cases e : fd tn = 0
    · rw [if_pos ((b_cmp _ _).mpr e), g.mp e]; rfl
    · have e2 : ds_hs w h hex o t tn = true := by
        cases z : ds_hs w h hex o t tn
        · exact absurd (g.mpr z) e
        · rfl
      rw [if_neg (fun z => e ((b_cmp _ _).mp z)), e2]; rfl
theorem m_flipThere {w h : Nat} (hk : ds_ok w h) {hex : Bool} {o t : Int64} {al sh : Nat → Int32} (hm : ds_MT w h hex o t al) (h01 : ds_01 sh) {tn : Nat} (ht : tn < ds_nt hex) (hv : ds_SV w h hex o t sh tn) : fX8_isFlipThere al sh (nI tn) = some (ds_q (ds_fl w h hex o t tn)) := by
  obtain ⟨n1, n2, n3, n4⟩ := nt_le hex
  obtain ⟨m0, m1, m2, m3⟩ := id hm
  unfold fX8_isFlipThere fX8_isFlip ds_fl
  rw [m_turnings m2, Option.bind_some, nt_half, Option.bind_some, m_ns hk hm h01 ht hv, Option.bind_some]
  by_cases c : tn < ds_n2 hex
  · rw [if_pos (by rw [z_nI, z_nI]; exact (z_lt (by omega) (by omega) (by omega) (by omega)).mpr (by omega)), Option.bind_some, if_pos rfl]
    rw [show decide (ds_n2 hex ≤ tn) = false by simp; omega]; rfl
  · rw [if_neg (fun z => by rw [z_nI, z_nI] at z; have := (z_lt (by omega) (by omega) (by omega) (by omega)).mp z; omega), Option.bind_some, if_neg (by decide), if_neg (nI_ge ht (by omega))]
    have g := ns_0 hk (hex := hex) (o := o) (t := t) (tn := tn)
    rw [show decide (ds_n2 hex ≤ tn) = true by simp; omega, Bool.true_and]
    cases e : ds_hs w h hex o t tn
    · rw [if_pos (g.mpr e)]; rfl
    · rw [if_neg (fun z => by have := g.mp z; rw [e] at this; cases this)]; rfl
theorem g_mirrors {w h : Nat} (hk : ds_ok w h) {hex : Bool} {o t : Int64} {fd : Nat → Int64} (hv : ∀ tn, tn < 12 → ds_GV w h hex o t fd tn) : fX0_mirrors (nI w) (nI h) (ds_q hex) fd = some (nI (ds_fc w h hex o t (ds_mi w h hex o t))) := by
  obtain ⟨n1, n2, n3, n4⟩ := nt_le hex
  unfold fX0_mirrors fX0_mirrors_4
  rw [← fc_all]
  refine ds_it_up _ (fun k => (nI (ds_ct (fun k => ds_fl w h hex o t k && ds_mi w h hex o t k) k), nI k)) (ds_nt hex) 1000 (some (nI (ds_ct (fun k => ds_fl w h hex o t k && ds_mi w h hex o t k) (ds_nt hex)))) (fun k hk2 => ?_) ?_ (by omega)
  · dsimp only
    unfold fX0_mirrors_4_b fX0_mirrors_37
    rw [(p_nt hex).1, Option.bind_some, if_neg (nI_ge hk2 (by omega)), g_hasFlip hk (hv k (by omega)) hk2, Option.bind_some, g_mirror hk (hv k (by omega)) hk2, Option.bind_some, nI_1, nI_1]
    show _ = some (Sum.inl (nI (ds_ct (fun k => ds_fl w h hex o t k && ds_mi w h hex o t k) k + (if (ds_fl w h hex o t k && ds_mi w h hex o t k) = true then 1 else 0)), nI (k + 1)))
    cases ds_fl w h hex o t k
    · rw [if_pos (show ds_q false = 0 from rfl), Bool.false_and]; rfl
    · rw [if_neg (by decide), Bool.true_and]
      cases ds_mi w h hex o t k
      · rw [if_pos (show ds_q false = 0 from rfl)]; rfl
      · rw [if_neg (by decide)]; rfl
  · dsimp only
    unfold fX0_mirrors_4_b
    rw [(p_nt hex).1, Option.bind_some, if_pos (nI_le (Nat.le_refl _) (by omega))]; rfl
/-- what the class knows of its steps -/
def ds_SF (w h : Nat) (hex : Bool) (o t : Int64) (sf fx fy sx sy : Int32) : Prop := sf = 0 ∨ (sf = 1 ∧ ∃ a b c d : Int, fx = ds_z a ∧ fy = ds_z b ∧ sx = ds_z c ∧ sy = ds_z d ∧ ds_FS w h hex o t a b c d)
theorem g_find {w h : Nat} (hk : ds_ok w h) {hex : Bool} {o t : Int64} {fd : Nat → Int64} (hv : ds_GV w h hex o t fd 0) {sf fx fy sx sy : Int32} (hs : ds_SF w h hex o t sf fx fy sx sy) {a b c d : Int} (hF : ds_FS w h hex o t a b c d) : fX0_findSteps sf fx fy sx sy (nI w) (nI h) (ds_q hex) fd = some (1, ds_z a, ds_z b, ds_z c, ds_z d) := by
  rcases hs with rfl | ⟨rfl, a', b', c', d', rfl, rfl, rfl, rfl, h2⟩
  · obtain ⟨a', b', c', d', e, h2⟩ := g_steps hk hv fx fy sx sy
    obtain ⟨rfl, rfl, rfl, rfl⟩ := FS_one hF h2
    exact e
  · obtain ⟨rfl, rfl, rfl, rfl⟩ := FS_one hF h2
    unfold fX0_findSteps
    rw [if_neg (by decide)]
theorem g_crossed {w h : Nat} (hk : ds_ok w h) {hex : Bool} {o t : Int64} {fd : Nat → Int64} (hv : ∀ tn, tn < 12 → ds_GV w h hex o t fd tn) {sf fx fy sx sy : Int32} (hs : ds_SF w h hex o t sf fx fy sx sy) {a b c d : Int} (hF : ds_FS w h hex o t a b c d) : fX0_crossed sf fx fy sx sy (nI w) (nI h) (ds_q hex) fd = some (nI (ds_fc w h hex o t (fun k => !ds_pa w h hex o t k)), 1, ds_z a, ds_z b, ds_z c, ds_z d) := by
  obtain ⟨n1, n2, n3, n4⟩ := nt_le hex
  unfold fX0_crossed
  rw [g_find hk (hv 0 (by omega)) hs hF, Option.bind_some]
  unfold fX0_crossed_8
  rw [← fc_all]
  refine ds_it_up _ (fun k => (nI (ds_ct (fun k => ds_fl w h hex o t k && !ds_pa w h hex o t k) k), nI k)) (ds_nt hex) 1000 (some (nI (ds_ct (fun k => ds_fl w h hex o t k && !ds_pa w h hex o t k) (ds_nt hex)), 1, ds_z a, ds_z b, ds_z c, ds_z d)) (fun k hk2 => ?_) ?_ (by omega)
  · dsimp only
    unfold fX0_crossed_8_b fX0_crossed_41
    rw [(p_nt hex).1, Option.bind_some, if_neg (nI_ge hk2 (by omega)), g_hasFlip hk (hv k (by omega)) hk2, Option.bind_some, g_parted hk (hv 0 (by omega)) hk2 hF, Option.bind_some, nI_1, nI_1]
    show _ = some (Sum.inl (nI (ds_ct (fun k => ds_fl w h hex o t k && !ds_pa w h hex o t k) k + (if (ds_fl w h hex o t k && !ds_pa w h hex o t k) = true then 1 else 0)), nI (k + 1)))
    cases ds_fl w h hex o t k
    · rw [if_pos (show ds_q false = 0 from rfl), Bool.false_and]; rfl
    · rw [if_neg (by decide), Bool.true_and]
      cases ds_pa w h hex o t k
      · rw [if_pos (show ds_q false = 0 from rfl)]; rfl
      · rw [if_neg (by decide)]; rfl
  · dsimp only
    unfold fX0_crossed_8_b
    rw [(p_nt hex).1, Option.bind_some, if_pos (nI_le (Nat.le_refl _) (by omega))]; rfl
/-- which flips the reference counts -/
noncomputable def ds_wh (w h : Nat) (hex : Bool) (o t : Int64) (k : Nat) (tn : Nat) : Bool := if k = 0 then true else if k = 1 then ds_mi w h hex o t tn else if k = 3 then !ds_pa w h hex o t tn else !ds_mi w h hex o t tn
theorem m_flips {w h : Nat} (hk : ds_ok w h) {hex : Bool} {o t : Int64} {al sh : Nat → Int32} (hm : ds_MT w h hex o t al) (h01 : ds_01 sh) (hv : ∀ tn, tn < ds_nt hex → ds_SV w h hex o t sh tn) {q : Nat} (hq : q < 4) : fX8_flips al sh ds_tabF (nI q) = some (nI (ds_fc w h hex o t (ds_wh w h hex o t q))) := by
  obtain ⟨n1, n2, n3, n4⟩ := nt_le hex
  obtain ⟨m0, m1, m2, m3⟩ := id hm
  unfold fX8_flips
  rw [m_turnings m2, Option.bind_some, nt_half]
  unfold fX8_flips_9 ds_fc
  refine ds_it_up _ (fun k => (nI (ds_ct (fun k => ds_hs w h hex o t (ds_n2 hex + k) && ds_wh w h hex o t q (ds_n2 hex + k)) k), nI (ds_n2 hex + k))) (ds_n2 hex) 1000 (some (nI (ds_ct (fun k => ds_hs w h hex o t (ds_n2 hex + k) && ds_wh w h hex o t q (ds_n2 hex + k)) (ds_n2 hex)))) (fun k hk2 => ?_) ?_ (by omega)
  · dsimp only
    have ht : ds_n2 hex + k < ds_nt hex := by omega
    unfold fX8_flips_9_b fX8_flips_64 fX8_flips_68 fX8_flips_61 fX8_flips_64 fX8_flips_68 fX8_flips_69 fX8_flips_71
    rw [m_turnings m2, Option.bind_some, if_neg (nI_ge ht (by omega)), m_flipThere hk hm h01 ht (hv _ ht), Option.bind_some, m_parted hk hm h01 (hv 0 (by omega)) ht, m_mirror hk hm h01 ht (by omega) (hv _ ht), Option.bind_some, Option.bind_some, nI_1, nI_1]
    have z0 : ∀ c : Nat, nI c + 0 = nI (c + 0) := fun c => by rw [show (0 : Int32) = nI 0 from rfl, nI_add]
    rw [z0]
    have fl : ds_fl w h hex o t (ds_n2 hex + k) = ds_hs w h hex o t (ds_n2 hex + k) := by unfold ds_fl; simp
    rw [fl]
    show _ = some (Sum.inl (nI (ds_ct (fun k => ds_hs w h hex o t (ds_n2 hex + k) && ds_wh w h hex o t q (ds_n2 hex + k)) k + (if (ds_hs w h hex o t (ds_n2 hex + k) && ds_wh w h hex o t q (ds_n2 hex + k)) = true then 1 else 0)), nI (ds_n2 hex + (k + 1))))
    generalize ds_ct (fun k => ds_hs w h hex o t (ds_n2 hex + k) && ds_wh w h hex o t q (ds_n2 hex + k)) k = C
    cases ds_hs w h hex o t (ds_n2 hex + k)
    · rw [if_pos (show ds_q false = 0 from rfl), Bool.false_and]; rfl
    · rw [if_neg (show ¬ ds_q true = 0 by decide), Bool.true_and]
      have : q = 0 ∨ q = 1 ∨ q = 2 ∨ q = 3 := by omega
      rcases this with rfl | rfl | rfl | rfl
      · rw [if_pos (show nI 0 = 0 from rfl), show ds_wh w h hex o t 0 (ds_n2 hex + k) = true from rfl]; rfl
      · rw [if_neg (show ¬ nI 1 = 0 by decide), if_neg (show ¬ nI 1 = 3 by decide), if_pos (show nI 1 = 1 by decide), show ds_wh w h hex o t 1 (ds_n2 hex + k) = ds_mi w h hex o t (ds_n2 hex + k) from rfl]
        cases ds_mi w h hex o t (ds_n2 hex + k) <;> rfl
      · rw [if_neg (show ¬ nI 2 = 0 by decide), if_neg (show ¬ nI 2 = 3 by decide), if_neg (show ¬ nI 2 = 1 by decide), show ds_wh w h hex o t 2 (ds_n2 hex + k) = !ds_mi w h hex o t (ds_n2 hex + k) from rfl]
        cases ds_mi w h hex o t (ds_n2 hex + k) <;> rfl
      · rw [if_neg (show ¬ nI 3 = 0 by decide), if_pos (show nI 3 = 3 by decide), show ds_wh w h hex o t 3 (ds_n2 hex + k) = !ds_pa w h hex o t (ds_n2 hex + k) from rfl]
        cases ds_pa w h hex o t (ds_n2 hex + k) <;> rfl
  · dsimp only
    unfold fX8_flips_9_b
    rw [m_turnings m2, Option.bind_some, if_pos (nI_le (by omega) (by omega))]; rfl
