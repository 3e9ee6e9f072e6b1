/-! acts: mend, make -/
theorem mem_b {n : Nat} (hk : ds_ok n n) {c : Nat} (hc : c < 17) (hf : ds_fit n c = true) {mem : Nat → Int64} (hv : ∀ q, q < 64 → ds_OV n c mem q) {R : Nat → Int32} {r : Nat → Nat} (u : ds_UF R r) (ui : ∀ i, i < 64 → ds_ins n n i = true → ds_ins n n (r i) = true) (uk : ∀ i j, i < 64 → j < 64 → ds_ins n n i = true → ds_ins n n j = true → (r i = r j ↔ ds_Ko n c i j)) {k : Nat} (hk6 : k < 64) {i : Nat} (hi : i < 64) : ds_b (mem k) i = (ds_ins n n i && decide (r i = k)) := by
  by_cases l : ds_ld n n (ds_Ko n c) k
  · have rk := (KR_lead u ui uk hk6 l.2.1).mpr l
    rw [ob_b (hv k hk6) l hi]
    unfold ds_ob1
    cases ii : ds_ins n n i
    · rfl
    · have := KR_ob hk hc hf u uk hk6 l.2.1 rk hi ii
      rw [Bool.true_and, Bool.true_and]
      by_cases e : r i = k
      · rw [decide_eq_true e, this.mp e]
      · rw [decide_eq_false e]
        cases q : ds_d (ds_Ko n c k i)
        · rfl
        · exact absurd (this.mpr q) e
  · rw [(hv k hk6).2 l, b_zero]
    cases ii : ds_ins n n i
    · rfl
    · rw [Bool.true_and]
      symm
      apply decide_eq_false
      intro e
      apply l
      have b := (u i hi).1
      have := (KR_lead u ui uk (show r i < 64 by omega) (ui i hi ii)).mp (uf_rr u i hi)
      rw [e] at this; exact this
theorem g_start {mem : Nat → Int64} {k : Nat} (hk : k < 64) : fX2_startingAt mem (nI k) = some (mem k) := by
  unfold fX2_startingAt
  rw [if_neg (nI_pos (by omega)), show (64 : Int32) = nI 64 from rfl, if_neg (nI_ge hk (by omega)), if_pos (in_nI hk (by omega)), nI_clamp (by omega)]
theorem OV_sub {n c : Nat} {mem : Nat → Int64} {k : Nat} (hv : ds_OV n c mem k) : ds_sub n n (mem k) := by
  by_cases l : ds_ld n n (ds_Ko n c) k
  · exact (hv.1 l).1
  · rw [hv.2 l]; exact sub_0
theorem q_mend {w h : Nat} (hk : ds_ok w h) {hex : Bool} {o t : Int64} (ho : ds_sub w h o) (ht : ds_sub w h t) {al : Nat → Int32} (hm : ds_MT w h hex o t al) {nx sz ud : Int32} {T : Nat → ds_TV} {un : Nat → Int32} (hh : ds_HI nx sz T ud un) (os : Int32) (mem : Nat → Int64) (dw dh dx : Int32) (do_ dt : Int64) (R nn : Nat → Int32) (p : Int32) :
    ∃ (v : Int32) (W H X : Int32) (O U : Int64) (os' : Int32) (mem' : Nat → Int64) (dw' dh' dx' : Int32) (do' dt' : Int64) (nx' sz' : Int32) (T' : Nat → ds_TV) (ud' : Int32) (al' R' nn' un' : Nat → Int32), fX7_mend (nI w) (nI h) (ds_q hex) o t os mem dw dh dx do_ dt nx sz T p = some (v, W, H, X, O, U, os', mem', dw', dh', dx', do', dt', nx', sz', T') ∧ fX8_mend ud al ds_hvF R ds_mrF ds_tabF nn un p = some (v, 0, ud', al', R', nn', un') ∧ ds_Ps al W H X O U nx' sz' T' ud' al' un' := by
  obtain ⟨m0, m1, m2, m3⟩ := id hm
  have stay : ds_Ps al (nI w) (nI h) (ds_q hex) o t nx sz T ud al un := ⟨w, h, hex, hk, rfl, rfl, rfl, ho, ht, hm, hh, fun _ _ => rfl⟩
  unfold fX7_mend fX8_mend
  rcases q_ask hk hm p with ⟨c, hc, rfl, rfl, rfl, hf, e1, e2⟩ | ⟨_, e1, e2⟩
  rotate_left
  · rw [e1, Option.bind_some, e2, Option.bind_some]
    exact ⟨_, _, _, _, _, _, _, _, _, _, _, _, _, _, _, _, _, _, _, _, _, rfl, rfl, stay⟩
  obtain ⟨k1, k2, k3, k4⟩ := id hk
  obtain ⟨mem', e3, hv⟩ := g_split hk hc hf mem
  obtain ⟨R', e4, hr⟩ := m_orbits hk hc hf hm R
  obtain ⟨r, u, ui, uk⟩ := id hr
  obtain ⟨nx0, e5, h0⟩ := m_keepsNext al nn
  have cp : fX6_copyFrom (nI w) (nI w) (ds_q (ds_chx c)) o t = some (nI w, nI w, ds_q (ds_chx c), o, t) := by unfold fX6_copyFrom; rw [if_pos (q_01 _)]
  rw [e1, Option.bind_some, e2, Option.bind_some, if_neg (show ¬ (1 : Int32) = 0 by decide), if_neg (show ¬ (1 : Int32) = 0 by decide), e3, Option.bind_some, e4, Option.bind_some]
  dsimp only
  rw [g_flaws hk hc hf o t hv, Option.bind_some, m_flawed hk hc hf hm hr, Option.bind_some, cp, Option.bind_some, e5, Option.bind_some]
  dsimp only
  generalize nI (ds_sm (ds_Fl w c o t) 64) = FL
  generalize nI (ds_lc w w (ds_Ko w c) 64) = SZ
  have rl : ∀ i, i < 64 → r i < 64 := fun i hi => by have := (u i hi).1; omega
  -- the class paints orbit by orbit
  have cls : ∃ o2 t2, ds_sub w w o2 ∧ ds_sub w w t2 ∧ (∀ i, i < 64 → ds_co o2 t2 i = if ds_ins w w i = true then ds_bs (ds_okc w c o t (r i)) 3 else ds_co o t i) ∧ fX7_mend_59 (nI w) (nI w) (ds_q (ds_chx c)) o t SZ mem' (nI w) (nI w) (ds_q (ds_chx c)) nx sz T FL 0 o t = fX7_mend_102 (nI w) (nI w) (ds_q (ds_chx c)) o t SZ mem' (nI w) (nI w) (ds_q (ds_chx c)) o2 t2 nx sz T FL := by
    have step : ∀ k, k ≤ 64 → ∀ o' t', ds_sub w w o' → ds_sub w w t' → (∀ i, i < 64 → ds_co o' t' i = if ds_ins w w i = true ∧ r i < k then ds_bs (ds_okc w c o t (r i)) 3 else ds_co o t i) → ∃ o2 t2, ds_sub w w o2 ∧ ds_sub w w t2 ∧ (∀ i, i < 64 → ds_co o2 t2 i = if ds_ins w w i = true then ds_bs (ds_okc w c o t (r i)) 3 else ds_co o t i) ∧ ds_it (fun s : Int32 × Int64 × Int64 => fX7_mend_59_b (nI w) (nI w) (ds_q (ds_chx c)) o t SZ mem' (nI w) (nI w) (ds_q (ds_chx c)) nx sz T FL s.1 s.2.1 s.2.2) (1000 - k) (nI k, o', t') = fX7_mend_102 (nI w) (nI w) (ds_q (ds_chx c)) o t SZ mem' (nI w) (nI w) (ds_q (ds_chx c)) o2 t2 nx sz T FL := by
      intro k
      induction hd : 64 - k generalizing k with
      | zero =>
        intro hk6 o' t' so st hco
        have ek : k = 64 := by omega
        subst ek
        refine ⟨o', t', so, st, fun i hi => ?_, ?_⟩
        · rw [hco i hi]
          cases ii : ds_ins w w i
          · rw [if_neg (fun z => by cases z.1), if_neg (by decide)]
          · rw [if_pos ⟨rfl, rl i hi⟩, if_pos rfl]
        · rw [show 1000 - 64 = 935 + 1 from rfl]
          unfold ds_it
          have : fX7_mend_59_b (nI w) (nI w) (ds_q (ds_chx c)) o t SZ mem' (nI w) (nI w) (ds_q (ds_chx c)) nx sz T FL (nI 64) o' t' = Option.bind (fX7_mend_102 (nI w) (nI w) (ds_q (ds_chx c)) o t SZ mem' (nI w) (nI w) (ds_q (ds_chx c)) o' t' nx sz T FL) (fun z => some (.inr z)) := by
            unfold fX7_mend_59_b
            rw [if_pos (by decide)]
          try dsimp only
          rw [this]
          cases fX7_mend_102 (nI w) (nI w) (ds_q (ds_chx c)) o t SZ mem' (nI w) (nI w) (ds_q (ds_chx c)) o' t' nx sz T FL <;> rfl
      | succ d ih =>
        intro hk6 o' t' so st hco
        have hk6' : k < 64 := by omega
        obtain ⟨G, hG⟩ : ∃ G, fX6_mostlyOf (nI w) (nI w) o t (mem' k) = some (nI G) ∧ G < 4 ∧ (ds_ld w w (ds_Ko w c) k → G = ds_bs (ds_okc w c o t k) 3) := by
          by_cases l : ds_ld w w (ds_Ko w c) k
          · have := bs_le (ds_okc w c o t k) 3
            exact ⟨_, g_most hk o t (hv k hk6') l, by omega, fun _ => rfl⟩
          · refine ⟨_, g_mostly hk o t (mem' k), ?_, fun z => absurd z l⟩
            exact Nat.lt_succ_of_le (bs_le _ 3)
        obtain ⟨g1, g2, g3⟩ := hG
        obtain ⟨o'', t'', e, so', st', hco'⟩ := p_colourCells so st (OV_sub (hv k hk6')) g2
        have nxt := ih (k + 1) (by omega) (by omega) o'' t'' so' st' (fun i hi => by
          rw [hco' i hi, mem_b hk hc hf hv u ui uk hk6' hi, hco i hi]
          cases ii : ds_ins w w i
          · rw [Bool.false_and, if_neg (by decide), if_neg (fun z => by cases z.1), if_neg (fun z => by cases z.1)]
          · rw [Bool.true_and]
            by_cases e : r i = k
            · rw [decide_eq_true e, if_pos rfl, if_pos ⟨rfl, by omega⟩]
              have lk := (KR_lead u ui uk (show r i < 64 from rl i hi) (ui i hi ii)).mp (uf_rr u i hi)
              rw [e] at lk
              rw [g3 lk, e]
            · rw [decide_eq_false e, if_neg (by decide)]
              by_cases e2 : r i < k
              · rw [if_pos ⟨rfl, e2⟩, if_pos ⟨rfl, by omega⟩]
              · rw [if_neg (fun z => e2 z.2), if_neg (fun z => by have := z.2; omega)])
        obtain ⟨o2, t2, a1, a2, a3, a4⟩ := nxt
        refine ⟨o2, t2, a1, a2, a3, ?_⟩
        rw [← a4, show 1000 - k = (1000 - (k + 1)) + 1 by omega]
        conv => lhs; unfold ds_it
        have : fX7_mend_59_b (nI w) (nI w) (ds_q (ds_chx c)) o t SZ mem' (nI w) (nI w) (ds_q (ds_chx c)) nx sz T FL (nI k) o' t' = some (.inl (nI (k + 1), o'', t'')) := by
          unfold fX7_mend_59_b
          rw [show (64 : Int32) = nI 64 from rfl, if_neg (nI_ge hk6' (by omega)), g_start hk6', Option.bind_some, g1, Option.bind_some, e, Option.bind_some, nI_1]
        try dsimp only
        rw [this]
    exact step 0 (by omega) o t ho ht (fun i hi => by rw [if_neg (fun z => by have := z.2; omega)])
  obtain ⟨o2, t2, so2, st2, hco2, ecls⟩ := cls
  rw [ecls]
  unfold fX8_mend_31
  obtain ⟨nx', e6, h6⟩ := nx_fill (w := w) (h := w) (by omega) (by omega) (OB := fun s => fX8_mend_31_b 0 ud al R' un FL s.1 s.2) (IB := fun v s => fX8_mend_44_b al R' (nI v) s.1 s.2) (fun u v => 8 * v + u) (fun i => i % 8) (fun i => i / 8) (fun u v => nI (ds_bs (ds_okc w c o t (r (8 * v + u))) 3)) (ds_ins w w)
    (fun u v hu hv => by
      obtain ⟨j1, j2, j3, j4⟩ := ins_xy hk hu hv
      exact ⟨j4, j1, j2, j3⟩)
    (fun i hi ii => by
      have io := ins_of ii
      exact ⟨io.1, io.2, by omega⟩)
    (fun v nx hv => by
      try dsimp only
      unfold fX8_mend_31_b
      rw [l_1, m1, if_neg (nI_ge hv (by omega))]; rfl)
    (fun v u' nx hv' hu' => by
      try dsimp only
      obtain ⟨j1, j2, j3, j4⟩ := ins_xy hk hu' hv'
      unfold fX8_mend_44_b
      rw [l_0, m0, if_neg (nI_ge hu' (by omega)), sh_8, nI_add, uf_root u j4, Option.bind_some, m_mostOf hk hc hf hm u uk (rl _ j4) (ui _ j4 j1) (uf_rr u _ j4), Option.bind_some, if_pos (in_nI j4 (by omega)), nI_clamp (by omega), nI_1])
    (fun v nx hv => by
      try dsimp only
      unfold fX8_mend_44_b fX8_mend_88
      rw [l_0, m0, if_pos (nI_le (Nat.le_refl _) (by omega)), nI_1]; rfl)
    (E := fun nx => fX8_mend_94 0 ud al R' nx un FL)
    (fun nx => by
      try dsimp only
      unfold fX8_mend_31_b
      rw [l_1, m1, if_pos (nI_le (Nat.le_refl _) (by omega))]
      cases fX8_mend_94 0 ud al R' nx un FL <;> rfl) nx0
  rw [e6]
  have hn : ∀ i, i < 64 → nx' i = nI (ds_co o2 t2 i) := by
    intro i hi
    rw [h6 i hi, hco2 i hi]
    cases ii : ds_ins w w i
    · rw [if_neg (by decide), if_neg (by decide), h0 i hi, m3 i hi]
    · rw [if_pos rfl, if_pos rfl]
      try dsimp only
      rw [show 8 * (i / 8) + i % 8 = i by omega]
  obtain ⟨b, nx2, sz', T', ud', al', un', e7, e8, hh', hm', sm⟩ := q_take hk ho ht hm hn hh
  unfold fX7_mend_102 fX8_mend_94
  rw [e7, Option.bind_some, e8, Option.bind_some]
  exact ⟨_, _, _, _, _, _, _, _, _, _, _, _, _, _, _, _, _, _, _, _, _, rfl, rfl, w, w, ds_chx c, hk, rfl, rfl, rfl, so2, st2, hm', hh', sm⟩
