/-! the reference lays its shifts: they are the symmetries -/
def ds_01 (f : Nat → Int32) : Prop := ∀ i, f i = 0 ∨ f i = 1
def ds_SV (w h : Nat) (hex : Bool) (o t : Int64) (sh : Nat → Int32) (tn : Nat) : Prop := ∀ x y : Nat, x < w → y < h → (sh (64 * tn + 8 * y + x) = 1 ↔ ds_Sy w h hex o t tn x y)
theorem nar_q (b : Bool) : vp_nar .boolean (ds_q b) = ds_q b := by cases b <;> rfl
theorem m_step {w h : Nat} (hk : ds_ok w h) {hex : Bool} {o t : Int64} {al sh : Nat → Int32} (hm : ds_MT w h hex o t al) (h01 : ds_01 sh) (hv : ds_SV w h hex o t sh 0) {x y : Int} (a1 : -2147483648 ≤ x) (a2 : x < 2147483648) (a3 : -2147483648 ≤ y) (a4 : y < 2147483648) : ∃ q : Bool, fX8_isStep al sh (ds_z x) (ds_z y) = some (ds_q q) ∧ (q = true ↔ ds_St w h o t x y) := by
  obtain ⟨m0, m1, m2, m3⟩ := hm
  obtain ⟨i1, i2, i3, i4, i5⟩ := ix_lt hk x y
  obtain ⟨k1, k2, k3, k4⟩ := id hk
  unfold fX8_isStep
  rw [m_at hk m0 m1 a1 a2 a3 a4, Option.bind_some, if_pos (in_nI (by omega) (by omega)), nI_clamp (by omega), if_pos (h01 _)]
  have q := hv _ _ i1 i2
  rw [show 64 * 0 + 8 * (y % h).toNat + (x % w).toNat = ds_ix w h x y by unfold ds_ix; omega] at q
  have b1 := Int.emod_nonneg x (b := (w : Int)) (by omega)
  have b3 := Int.emod_nonneg y (b := (h : Int)) (by omega)
  rw [Int.toNat_of_nonneg b1, Int.toNat_of_nonneg b3, Sy_0, St_mod] at q
  rcases h01 (ds_ix w h x y) with e | e
  · rw [e] at q ⊢
    exact ⟨false, rfl, (fun z => by cases z), fun z => absurd (q.mpr z) (by decide)⟩
  · rw [e] at q ⊢
    exact ⟨true, rfl, fun _ => q.mp rfl, fun _ => rfl⟩
theorem m_may {w h : Nat} (hk : ds_ok w h) {hex : Bool} {o t : Int64} {al sh : Nat → Int32} (hm : ds_MT w h hex o t al) (h01 : ds_01 sh) (hv : ds_SV w h hex o t sh 0) {tn : Nat} (ht : tn < ds_nt hex) : ∃ q : Bool, fX8_mayTurn al ds_tabF sh (nI tn) = some (ds_q q) ∧ (q = true ↔ ds_St w h o t (ds_tx hex tn w 0) (ds_ty2 hex tn w 0) ∧ ds_St w h o t (ds_tx hex tn 0 h) (ds_ty2 hex tn 0 h)) := by
  obtain ⟨m0, m1, m2, m3⟩ := id hm
  obtain ⟨k1, k2, k3, k4⟩ := id hk
  have t1 := t_small ht (x := w) (y := 0) (n := 8) (by omega) (by omega) (by omega) (by omega)
  have t2 := t_small ht (x := 0) (y := h) (n := 8) (by omega) (by omega) (by omega) (by omega)
  obtain ⟨q1, e1, d1⟩ := m_step hk hm h01 hv (x := ds_tx hex tn w 0) (y := ds_ty2 hex tn w 0) (by omega) (by omega) (by omega) (by omega)
  obtain ⟨q2, e2, d2⟩ := m_step hk hm h01 hv (x := ds_tx hex tn 0 h) (y := ds_ty2 hex tn 0 h) (by omega) (by omega) (by omega) (by omega)
  unfold fX8_mayTurn
  rw [l_0, l_1, m0, m1, z_nI w, z_nI h]
  have z0 : (0 : Int32) = ds_z 0 := rfl
  rw [z0, m_tx m2 ht, Option.bind_some, m_ty m2 ht, Option.bind_some, e1, Option.bind_some, m_tx m2 ht, Option.bind_some, m_ty m2 ht, Option.bind_some, e2, Option.bind_some]
  cases q1 with
  | false =>
    rw [if_pos (show ds_q false = ds_z 0 from rfl)]
    exact ⟨false, rfl, (fun z => by cases z), fun z => by have := d1.mpr z.1; cases this⟩
  | true =>
    rw [if_neg (by decide)]
    cases q2 with
    | false =>
      rw [if_pos (show ds_q false = ds_z 0 from rfl)]
      exact ⟨false, rfl, (fun z => by cases z), fun z => by have := d2.mpr z.2; cases this⟩
    | true =>
      rw [if_neg (by decide)]
      exact ⟨true, rfl, fun _ => ⟨d1.mp rfl, d2.mp rfl⟩, fun _ => rfl⟩
theorem i_768 {tn y x : Nat} (h1 : tn < 12) (h2 : y < 8) (h3 : x < 8) : ((64 : Int32) * nI tn + (8 : Int32) * nI y) + nI x = nI (64 * tn + 8 * y + x) := by
  rw [sh_8, z_nI tn, show (64 : Int32) = ds_z 64 from rfl, z_mul, z_nI, z_nI, z_nI, z_add, z_add]
  congr 1
theorem upd_at (f : Nat → Int32) (k : Nat) (v : Int32) : upd f k v k = v := by unfold upd; rw [if_pos rfl]
theorem upd_ne (f : Nat → Int32) {k j : Nat} (v : Int32) (h : j ≠ k) : upd f k v j = f j := by unfold upd; rw [if_neg h]
theorem m_lays {w h : Nat} (hk : ds_ok w h) {hex : Bool} {o t : Int64} {al sh : Nat → Int32} (hm : ds_MT w h hex o t al) (h01 : ds_01 sh) : ∃ sh', fX8_laysShifts al ds_tabF sh = some sh' ∧ ds_01 sh' ∧ ∀ tn, tn < ds_nt hex → ds_SV w h hex o t sh' tn := by
  obtain ⟨m0, m1, m2, m3⟩ := id hm
  obtain ⟨k1, k2, k3, k4⟩ := id hk
  have hnt : ds_nt hex ≤ 12 := by unfold ds_nt; split <;> omega
  have u01 : ∀ (f : Nat → Int32) (k : Nat) (b : Bool), ds_01 f → ds_01 (upd f k (vp_nar .boolean (ds_q b))) := by
    intro f k b hf i
    by_cases e : i = k
    · subst e; rw [upd_at, nar_q]; exact q_01 b
    · rw [upd_ne _ _ e]; exact hf i
  unfold fX8_laysShifts fX8_laysShifts_2
  refine ds_it_inv _ (fun k s => s.1 = nI k ∧ ds_01 s.2 ∧ ∀ tn, tn < k → ds_SV w h hex o t s.2 tn) _ (ds_nt hex) 1000 0 _ (Nat.zero_le _) ⟨rfl, h01, fun tn h => absurd h (Nat.not_lt_zero tn)⟩ (by omega) ?_ ?_
  · rintro tn ⟨v1, sh1⟩ htn ⟨rfl, a01, av⟩
    left
    dsimp only at a01 av
    -- a turning: all shifts, if it may
    have turning : ∀ q : Bool, (∀ a b : Int, ds_Sy w h hex o t tn a b ↔ q = true ∧ ds_Al w h hex o t tn a b) → ∃ s', fX8_laysShifts_30 al ds_tabF (nI tn) (ds_q q) (0 : Int32) sh1 = some (.inl s') ∧ s'.1 = nI (tn + 1) ∧ ds_01 s'.2 ∧ ∀ tn', tn' < tn + 1 → ds_SV w h hex o t s'.2 tn' := by
      intro q hq
      unfold fX8_laysShifts_30
      have key : ∃ r, ds_it (fun s => fX8_laysShifts_30_b al ds_tabF (nI tn) (ds_q q) s.1 s.2) 1000 ((0 : Int32), sh1) = some r ∧ ∃ s', r = .inl s' ∧ s'.1 = nI (tn + 1) ∧ ds_01 s'.2 ∧ ∀ tn', tn' < tn + 1 → ds_SV w h hex o t s'.2 tn' := by
        refine ds_it_inv _ (fun k s => s.1 = nI k ∧ ds_01 s.2 ∧ (∀ i, i < 64 * tn → s.2 i = sh1 i) ∧ ∀ x y : Nat, x < w → y < k → (s.2 (64 * tn + 8 * y + x) = 1 ↔ ds_Sy w h hex o t tn x y)) _ h 1000 0 _ (Nat.zero_le _) ⟨rfl, a01, fun _ _ => rfl, fun x y _ hy => absurd hy (Nat.not_lt_zero y)⟩ (by omega) ?_ ?_
        · rintro y ⟨v3, sh2⟩ hy ⟨rfl, b01, bk, bv⟩
          left
          dsimp only at b01 bk bv
          show ∃ s', fX8_laysShifts_30_b al ds_tabF (nI tn) (ds_q q) (nI y) sh2 = some (.inl s') ∧ _
          unfold fX8_laysShifts_30_b
          rw [l_1, m1, if_neg (nI_ge hy (by omega))]
          unfold fX8_laysShifts_43
          have row : ∃ r, ds_it (fun s => fX8_laysShifts_43_b al ds_tabF (nI tn) (ds_q q) (nI y) s.1 s.2) 1000 ((0 : Int32), sh2) = some r ∧ ∃ sh3 : Nat → Int32, r = .inl (nI (y + 1), sh3) ∧ ds_01 sh3 ∧ (∀ i, i < 64 * tn → sh3 i = sh1 i) ∧ ∀ x y' : Nat, x < w → y' < y + 1 → (sh3 (64 * tn + 8 * y' + x) = 1 ↔ ds_Sy w h hex o t tn x y') := by
            refine ds_it_inv _ (fun k s => s.1 = nI k ∧ ds_01 s.2 ∧ (∀ i, i < 64 * tn → s.2 i = sh1 i) ∧ ∀ x y' : Nat, x < w → (y' < y ∨ (y' = y ∧ x < k)) → (s.2 (64 * tn + 8 * y' + x) = 1 ↔ ds_Sy w h hex o t tn x y')) _ w 1000 0 _ (Nat.zero_le _) ⟨rfl, b01, bk, fun x y' hx hy' => bv x y' hx (by omega)⟩ (by omega) ?_ ?_
            · rintro x ⟨v4, sh3⟩ hx ⟨rfl, c01, ck, cv⟩
              left
              dsimp only at c01 ck cv
              show ∃ s', fX8_laysShifts_43_b al ds_tabF (nI tn) (ds_q q) (nI y) (nI x) sh3 = some (.inl s') ∧ _
              have put : ∀ b : Bool, (b = true ↔ ds_Sy w h hex o t tn x y) → ∃ s' : Int32 × (Nat → Int32), fX8_laysShifts_90 sh3 (nI x) (ds_q b) (nI (64 * tn + 8 * y + x)) = some (.inl s') ∧ s'.1 = nI (x + 1) ∧ ds_01 s'.2 ∧ (∀ i, i < 64 * tn → s'.2 i = sh1 i) ∧ ∀ x' y' : Nat, x' < w → (y' < y ∨ (y' = y ∧ x' < x + 1)) → (s'.2 (64 * tn + 8 * y' + x') = 1 ↔ ds_Sy w h hex o t tn x' y') := by
                intro b hb
                unfold fX8_laysShifts_90
                rw [if_pos (in_nI (by omega) (by omega)), nI_clamp (by omega)]
                refine ⟨_, rfl, nI_1 x, u01 _ _ b c01, fun i hi => ?_, fun x' y' hx' hy' => ?_⟩
                · dsimp only
                  rw [upd_ne _ _ (by omega)]; exact ck i hi
                · dsimp only
                  by_cases e : y' = y ∧ x' = x
                  · obtain ⟨e1, e2⟩ := e
                    subst e1; subst e2
                    rw [upd_at, nar_q, ← hb]
                    cases b <;> decide
                  · rw [upd_ne _ _ (by omega)]
                    exact cv x' y' hx' (by omega)
              unfold fX8_laysShifts_43_b
              rw [l_0, m0, if_neg (nI_ge hx (by omega)), i_768 (by omega) (by omega) (by omega)]
              cases q with
              | false =>
                rw [if_pos (show ds_q false = 0 from rfl)]
                exact put false ⟨(fun z => by cases z), fun z => by have := ((hq x y).mp z).1; cases this⟩
              | true =>
                rw [if_neg (by decide)]
                obtain ⟨b, eb, db⟩ := m_alike hk hm htn (dx := x) (dy := y) (by omega) (by omega) (by omega) (by omega)
                rw [z_nI x, z_nI y, eb, Option.bind_some, ← z_nI x]
                have hb : b = true ↔ ds_Sy w h hex o t tn x y := by
                  rw [db, hq]; exact ⟨fun z => ⟨rfl, z⟩, fun z => z.2⟩
                cases b with
                | false =>
                  rw [if_pos (show ds_q false = 0 from rfl)]
                  exact put false hb
                | true =>
                  rw [if_neg (by decide)]
                  exact put true hb
            · rintro ⟨v4, sh3⟩ ⟨rfl, c01, ck, cv⟩
              dsimp only at c01 ck cv
              show ∃ r, fX8_laysShifts_43_b al ds_tabF (nI tn) (ds_q q) (nI y) (nI w) sh3 = some (.inr r) ∧ _
              unfold fX8_laysShifts_43_b
              rw [l_0, m0, if_pos (nI_le (Nat.le_refl w) (by omega))]
              refine ⟨_, rfl, sh3, ?_, c01, ck, fun x y' hx hy' => cv x y' hx (by omega)⟩
              rw [nI_1]
          obtain ⟨r, er, sh3, rfl, p1, p2, p3⟩ := row
          exact ⟨_, er, rfl, p1, p2, p3⟩
        · rintro ⟨v3, sh2⟩ ⟨rfl, b01, bk, bv⟩
          dsimp only at b01 bk bv
          show ∃ r, fX8_laysShifts_30_b al ds_tabF (nI tn) (ds_q q) (nI h) sh2 = some (.inr r) ∧ _
          unfold fX8_laysShifts_30_b
          rw [l_1, m1, if_pos (nI_le (Nat.le_refl h) (by omega))]
          refine ⟨_, rfl, (nI (tn + 1), sh2), ?_, rfl, b01, fun tn' ht' => ?_⟩
          · rw [nI_1]
          · intro x y hx hy
            by_cases e : tn' = tn
            · subst e; exact bv x y hx hy
            · dsimp only
              rw [bk _ (by omega)]
              exact av tn' (by omega) x y hx hy
      obtain ⟨r, er, s', rfl, p⟩ := key
      exact ⟨s', er, p⟩
    show ∃ s', fX8_laysShifts_2_b al ds_tabF (nI tn) sh1 = some (.inl s') ∧ _
    unfold fX8_laysShifts_2_b
    rw [m_turnings m2, Option.bind_some, if_neg (nI_ge htn (by omega))]
    by_cases h0 : tn = 0
    · subst h0
      rw [if_pos nI_0]
      unfold fX8_laysShifts_22 fX8_laysShifts_27
      refine turning true (fun a b => ?_)
      rw [Sy_model hk htn]
      have e1 := tx_0 hex (w : Int) 0
      have e2 := tx_0 hex 0 (h : Int)
      rw [e1.1, e1.2, e2.1, e2.2]
      exact ⟨fun z => ⟨rfl, z.2⟩, fun z => ⟨⟨St_w, St_h⟩, z.2⟩⟩
    · rw [if_neg (nI_ne0 (by omega) (by omega))]
      obtain ⟨q, eq, dq⟩ := m_may hk hm a01 (av 0 (by omega)) htn
      rw [eq, Option.bind_some]
      have hq : ∀ a b : Int, ds_Sy w h hex o t tn a b ↔ q = true ∧ ds_Al w h hex o t tn a b := fun a b => by rw [Sy_model hk htn, dq]
      cases q with
      | false =>
        rw [if_pos (show ds_q false = 0 from rfl)]
        unfold fX8_laysShifts_27
        exact turning false hq
      | true =>
        rw [if_neg (by decide)]
        unfold fX8_laysShifts_22 fX8_laysShifts_27
        exact turning true hq
  · rintro ⟨v1, sh1⟩ ⟨rfl, a01, av⟩
    dsimp only at a01 av
    show ∃ r, fX8_laysShifts_2_b al ds_tabF (nI (ds_nt hex)) sh1 = some (.inr r) ∧ _
    unfold fX8_laysShifts_2_b
    rw [m_turnings m2, Option.bind_some, if_pos (nI_le (Nat.le_refl _) (by omega))]
    exact ⟨_, rfl, a01, av⟩
