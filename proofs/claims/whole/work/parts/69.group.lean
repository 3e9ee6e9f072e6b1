/-! what the class keeps of the symmetries; first answers on both sides -/
def ds_GI (lk sf fx fy sx sy sw sh shx : Int32) (so st : Int64) (fd : Nat → Int64) : Prop := (lk = 0 ∨ lk = 1) ∧ (lk = 1 → ∃ (w h : Nat) (hex : Bool), ds_ok w h ∧ sw = nI w ∧ sh = nI h ∧ shx = ds_q hex ∧ (∀ tn, tn < 12 → ds_GV w h hex so st fd tn) ∧ ds_SF w h hex so st sf fx fy sx sy)
theorem q_inj {a b : Bool} (h : ds_q a = ds_q b) : a = b := by
  cases a <;> cases b <;> first | rfl | (exact absurd h (by decide))
theorem look {w h : Nat} (hk : ds_ok w h) {hex : Bool} {o t : Int64} (ho : ds_sub w h o) (ht : ds_sub w h t) {lk sf fx fy sx sy sw sh shx : Int32} {so st : Int64} {fd : Nat → Int64} (hg : ds_GI lk sf fx fy sx sy sw sh shx so st fd) (tw th tx : Int32) (to tt : Int64) :
    ∃ sf' fd' tw' th' tx' to' tt', fX0_lookAt lk sf sw sh shx so st (nI w) (nI h) (ds_q hex) o t fd tw th tx to tt = some (1, sf', nI w, nI h, ds_q hex, o, t, fd', tw', th', tx', to', tt') ∧ (∀ tn, tn < 12 → ds_GV w h hex o t fd' tn) ∧ ds_SF w h hex o t sf' fx fy sx sy := by
  obtain ⟨g1, g2⟩ := hg
  obtain ⟨lb, rfl⟩ : ∃ b : Bool, lk = ds_q b := by
    rcases g1 with e | e
    · exact ⟨false, e⟩
    · exact ⟨true, e⟩
  have eqs : lb = true → sw = nI w ∧ sh = nI h ∧ shx = ds_q hex ∧ so = o ∧ st = t → (∀ tn, tn < 12 → ds_GV w h hex o t fd tn) ∧ ds_SF w h hex o t sf fx fy sx sy := by
    rintro rfl ⟨rfl, rfl, rfl, rfl, rfl⟩
    obtain ⟨w', h', hex', k', e1, e2, e3, e4, e5⟩ := g2 rfl
    obtain ⟨k1, k2, k3, k4⟩ := id hk
    obtain ⟨k1', k2', k3', k4'⟩ := id k'
    have a1 := (n_inj (by omega) (by omega)).mp e1
    have a2 := (n_inj (by omega) (by omega)).mp e2
    have a3 := q_inj e3
    subst a1 a2 a3
    exact ⟨e4, e5⟩
  obtain ⟨sf', fd', tw', th', tx', to', tt', e, gv, s⟩ := g_look hk (hex := hex) ho ht lb sf sw sh shx so st fd tw th tx to tt (fun q1 q2 => (eqs q1 q2).1)
  refine ⟨sf', fd', tw', th', tx', to', tt', e, gv, ?_⟩
  rcases s with rfl | ⟨rfl, q1, q2⟩
  · exact Or.inl rfl
  · exact (eqs q1 q2).2
theorem GI_of {w h : Nat} (hk : ds_ok w h) {hex : Bool} {o t : Int64} {sf fx fy sx sy : Int32} {fd : Nat → Int64} (gv : ∀ tn, tn < 12 → ds_GV w h hex o t fd tn) (s : ds_SF w h hex o t sf fx fy sx sy) : ds_GI 1 sf fx fy sx sy (nI w) (nI h) (ds_q hex) o t fd := ⟨Or.inr rfl, fun _ => ⟨w, h, hex, hk, rfl, rfl, rfl, gv, s⟩⟩
theorem i_bd (x : Int32) : -2147483648 ≤ x.toInt ∧ x.toInt < 2147483648 := ⟨x.le_toInt, x.toInt_lt⟩
-- cell
theorem q_cell {w h : Nat} (hk : ds_ok w h) {hex : Bool} {o t : Int64} {al : Nat → Int32} (hm : ds_MT w h hex o t al) (x y : Int32) : ∃ v, fX7_cell (nI w) (nI h) o t x y = some v ∧ fX8_cell al x y = some (v, 0) := by
  have bx := i_bd x
  have bY := i_bd y
  refine ⟨nI (ds_co o t (ds_ix w h x.toInt y.toInt)), ?_, ?_⟩
  · unfold fX7_cell
    have := p_colourAt hk o t bx.1 bx.2 bY.1 bY.2
    rw [z_of, z_of] at this
    rw [this, Option.bind_some]
  · unfold fX8_cell
    have := m_colour hk hm bx.1 bx.2 bY.1 bY.2
    rw [z_of, z_of] at this
    rw [this, Option.bind_some]
-- kind
theorem q_kind {w h : Nat} (hk : ds_ok w h) {hex : Bool} {o t : Int64} (ho : ds_sub w h o) (ht : ds_sub w h t) {lk sf fx fy sx sy sw sh shx : Int32} {so st : Int64} {fd : Nat → Int64} (hg : ds_GI lk sf fx fy sx sy sw sh shx so st fd) (tw th tx : Int32) (to tt : Int64) {al sr : Nat → Int32} (hm : ds_MT w h hex o t al) (h01 : ds_01 sr) (R : Nat → Int32) (x y : Int32) :
    ∃ v sf' fd' tw' th' tx' to' tt' sr' R', fX7_kind lk sf sw sh shx so st (nI w) (nI h) (ds_q hex) o t fd tw th tx to tt x y = some (v, 1, sf', nI w, nI h, ds_q hex, o, t, fd', tw', th', tx', to', tt') ∧ ds_GI 1 sf' fx fy sx sy (nI w) (nI h) (ds_q hex) o t fd' ∧ fX8_kind al ds_tabF sr R x y = some (v, 0, sr', R') ∧ ds_01 sr' := by
  have bx := i_bd x
  have bY := i_bd y
  obtain ⟨sf', fd', tw', th', tx', to', tt', e, gv, s⟩ := look hk (hex := hex) ho ht hg tw th tx to tt
  obtain ⟨sr', e2, s01, sv⟩ := m_lays hk hm h01
  obtain ⟨R', e3, r, u, ui, uk⟩ := m_kinds hk hm s01 sv R
  have il := (ix_lt hk x.toInt y.toInt).2.2.1
  have ii := ins_ix hk x.toInt y.toInt
  have b := (u _ il).1
  refine ⟨nI (ds_lc w h (ds_Kd w h hex o t) (r (ds_ix w h x.toInt y.toInt))), sf', fd', tw', th', tx', to', tt', sr', R', ?_, GI_of hk gv s, ?_, s01⟩
  · unfold fX7_kind
    have pb := p_bop hk bx.1 bx.2 bY.1 bY.2
    rw [z_of, z_of] at pb
    rw [e, Option.bind_some, pb, Option.bind_some]
    dsimp only
    rw [g_kind hk gv u ui uk il ii, Option.bind_some]
  · unfold fX8_kind
    have pa := m_at hk hm.1 hm.2.1 bx.1 bx.2 bY.1 bY.2
    rw [z_of, z_of] at pa
    rw [e2, Option.bind_some, e3, Option.bind_some, pa, Option.bind_some, uf_root u il, Option.bind_some, m_leaders hk hm ⟨r, u, ui, uk⟩ (by omega), Option.bind_some]
