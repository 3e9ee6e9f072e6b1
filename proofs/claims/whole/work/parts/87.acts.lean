/-! acts: paint, shift, turn, dye, net -/
def ds_Ps (al : Nat → Int32) (W H X : Int32) (O T : Int64) (nx sz : Int32) (Tv : Nat → ds_TV) (ud : Int32) (al' un : Nat → Int32) : Prop := ∃ (w h : Nat) (hex : Bool), ds_ok w h ∧ W = nI w ∧ H = nI h ∧ X = ds_q hex ∧ ds_sub w h O ∧ ds_sub w h T ∧ ds_MT w h hex O T al' ∧ ds_HI nx sz Tv ud un ∧ ∀ j, 67 ≤ j → al' j = al j
theorem g_take {w h : Nat} (hk : ds_ok w h) {hex : Bool} {o t : Int64} (ho : ds_sub w h o) (ht : ds_sub w h t) {al : Nat → Int32} (hm : ds_MT w h hex o t al) {nx sz ud : Int32} {T : Nat → ds_TV} {un : Nat → Int32} (hh : ds_HI nx sz T ud un) {w2 h2 : Nat} (hk2 : ds_ok w2 h2) (hex2 : Bool) (o2 t2 : Int64) :
    ((w2 = w ∧ h2 = h ∧ hex2 = hex ∧ o2 = o ∧ t2 = t) ∧ fX7_takeDraft (nI w2) (nI h2) (ds_q hex2) o2 t2 (nI w) (nI h) (ds_q hex) o t nx sz T = some (0, nI w, nI h, ds_q hex, o, t, nx, sz, T)) ∨ (¬ (w2 = w ∧ h2 = h ∧ hex2 = hex ∧ o2 = o ∧ t2 = t) ∧ ∃ nx' sz' T' ud' un', fX7_takeDraft (nI w2) (nI h2) (ds_q hex2) o2 t2 (nI w) (nI h) (ds_q hex) o t nx sz T = some (1, nI w2, nI h2, ds_q hex2, o2, t2, nx', sz', T') ∧ fX8_keeps ud un al = some (ud', un') ∧ ds_HI nx' sz' T' ud' un') := by
  obtain ⟨k1, k2, k3, k4⟩ := id hk
  obtain ⟨l1, l2, l3, l4⟩ := id hk2
  obtain ⟨q, eq, hq⟩ := p_same (nI w2) (nI h2) (ds_q hex2) o2 t2 (nI w) (nI h) (ds_q hex) o t
  unfold fX7_takeDraft
  rw [eq, Option.bind_some]
  cases q
  · right
    refine ⟨?_, ?_⟩
    · rintro ⟨rfl, rfl, rfl, rfl, rfl⟩
      have := hq.mpr ⟨rfl, rfl, rfl, rfl, rfl⟩; cases this
    · obtain ⟨nx', sz', T', ud', un', e1, e2, hh'⟩ := q_keep hk ho ht hm hh
      have cp : fX6_copyFrom (nI w2) (nI h2) (ds_q hex2) o2 t2 = some (nI w2, nI h2, ds_q hex2, o2, t2) := by unfold fX6_copyFrom; rw [if_pos (q_01 hex2)]
      rw [if_pos (show ds_q false = 0 from rfl), e1, Option.bind_some, cp, Option.bind_some]
      exact ⟨_, _, _, _, _, rfl, e2, hh'⟩
  · left
    obtain ⟨e1, e2, e3, e4, e5⟩ := hq.mp rfl
    refine ⟨⟨(n_inj (by omega) (by omega)).mp e1, (n_inj (by omega) (by omega)).mp e2, q_inj e3, e4, e5⟩, ?_⟩
    rw [if_neg (show ¬ ds_q true = 0 by decide)]
theorem q_col (p : Int32) : (∃ c, c < 4 ∧ p = nI c ∧ fX7_isColour p = some 1 ∧ fX8_in p 0 3 = some 1) ∨ (fX7_isColour p = some 0 ∧ fX8_in p 0 3 = some 0) := by
  have pin : fX8_in p 0 3 = some (ds_q (decide (0 ≤ p.toInt ∧ p.toInt ≤ 3))) := p_in p (a := 0) (b := 3) (by omega) (by omega) (by omega) (by omega)
  have g4 : 4 ≤ p ↔ 4 ≤ p.toInt := i_ge p (k := 4) (by omega) (by omega)
  unfold fX7_isColour
  rw [pin]
  by_cases c : 0 ≤ p.toInt ∧ p.toInt ≤ 3
  · left
    refine ⟨p.toInt.toNat, by omega, by rw [z_nI, Int.toNat_of_nonneg (by omega), z_of], ?_, by rw [decide_eq_true c]; rfl⟩
    rw [if_neg (fun z => by have := (i_lt0 p).mp z; omega), if_neg (fun z => by have := g4.mp z; omega)]
  · right
    refine ⟨?_, by rw [decide_eq_false c]; rfl⟩
    by_cases c1 : p.toInt < 0
    · rw [if_pos ((i_lt0 p).mpr c1)]
    · rw [if_neg (fun z => c1 ((i_lt0 p).mp z)), if_pos (g4.mpr (by omega))]
theorem sub_bit {w h : Nat} {n : Nat} (hn : n < 64) (ii : ds_ins w h n = true) : ds_sub w h (ds_lshl 1 (nI n)) := by
  intro i hi z
  rw [b_bit n hn i hi] at z
  rw [of_decide_eq_true z]; exact ins_of ii
theorem q_paint {w h : Nat} (hk : ds_ok w h) {hex : Bool} {o t : Int64} (ho : ds_sub w h o) (ht : ds_sub w h t) {al : Nat → Int32} (hm : ds_MT w h hex o t al) {nx sz ud : Int32} {T : Nat → ds_TV} {un : Nat → Int32} (hh : ds_HI nx sz T ud un) (dw dh dx : Int32) (do_ dt : Int64) (p1 p2 p3 : Int32) :
    ∃ (b : Bool) (W H X : Int32) (O U : Int64) (dw' dh' dx' : Int32) (do' dt' : Int64) (nx' sz' : Int32) (T' : Nat → ds_TV) (ud' : Int32) (al' un' : Nat → Int32), fX7_paint (nI w) (nI h) (ds_q hex) o t dw dh dx do_ dt nx sz T p1 p2 p3 = some (ds_q b, W, H, X, O, U, dw', dh', dx', do', dt', nx', sz', T') ∧ fX8_paint ud al un p1 p2 p3 = some (ds_q b, 0, ud', al', un') ∧ ds_Ps al W H X O U nx' sz' T' ud' al' un' := by
  obtain ⟨m0, m1, m2, m3⟩ := id hm
  have stay : ds_Ps al (nI w) (nI h) (ds_q hex) o t nx sz T ud al un := ⟨w, h, hex, hk, rfl, rfl, rfl, ho, ht, hm, hh, fun _ _ => rfl⟩
  unfold fX7_paint fX8_paint
  rcases q_has hk hm p1 p2 with ⟨a, b, ha, hb, rfl, rfl, e1, e2⟩ | ⟨e1, e2⟩
  rotate_left
  · rw [e1, e2]
    exact ⟨false, _, _, _, _, _, _, _, _, _, _, _, _, _, _, _, _, rfl, rfl, stay⟩
  rw [e1, e2, Option.bind_some, Option.bind_some, if_neg (show ¬ (1 : Int32) = 0 by decide), if_neg (show ¬ (1 : Int32) = 0 by decide)]
  rcases q_col p3 with ⟨c, hc, rfl, e3, e4⟩ | ⟨e3, e4⟩
  rotate_left
  · rw [e3, e4]
    exact ⟨false, _, _, _, _, _, _, _, _, _, _, _, _, _, _, _, _, rfl, rfl, stay⟩
  obtain ⟨k1, k2, k3, k4⟩ := id hk
  obtain ⟨j1, j2, j3, j4⟩ := ins_xy hk ha hb
  have cp : fX6_copyFrom (nI w) (nI h) (ds_q hex) o t = some (nI w, nI h, ds_q hex, o, t) := by unfold fX6_copyFrom; rw [if_pos (q_01 hex)]
  obtain ⟨o2, t2, e5, so2, st2, hco⟩ := p_colourCells ho ht (sub_bit j4 j1) hc
  have mc := m_colour hk hm (x := (a : Int)) (y := (b : Int)) (by omega) (by omega) (by omega) (by omega)
  rw [← z_nI, ← z_nI, ix_in ha hb] at mc
  have cl := c_lt o t (8 * b + a)
  rw [e3, e4, Option.bind_some, Option.bind_some, if_neg (show ¬ (1 : Int32) = 0 by decide), if_neg (show ¬ (1 : Int32) = 0 by decide), cp, Option.bind_some, p_bit (by omega) (by omega), Option.bind_some, mc, Option.bind_some]
  try dsimp only
  rw [e5, Option.bind_some]
  try dsimp only
  have ix : (3 + 8 * nI b) + nI a = nI (3 + (8 * b + a)) := by
    rw [sh_8, show (3 : Int32) = nI 3 from rfl, nI_add, nI_add, Nat.add_assoc]
  rw [ix]
  rcases g_take hk ho ht hm hh hk hex o2 t2 with ⟨⟨_, _, _, e6, e7⟩, e8⟩ | ⟨nn, nx', sz', T', ud', un', e8, e9, hh'⟩
  · subst e6 e7
    have := hco _ j4
    rw [b_bit _ j4 _ j4, decide_eq_true rfl, if_pos rfl] at this
    rw [e8, Option.bind_some, if_pos (congrArg nI this)]
    exact ⟨false, _, _, _, _, _, _, _, _, _, _, _, _, _, _, _, _, rfl, rfl, stay⟩
  · have ne : ¬ ds_co o t (8 * b + a) = c := by
      intro z
      apply nn
      have := (co_all (o := o2) (t := t2) (o' := o) (t' := t)).mp (fun i hi => by
        rw [hco i hi, b_bit _ j4 i hi]
        by_cases e : i = 8 * b + a
        · rw [decide_eq_true e, if_pos rfl, e, z]
        · rw [decide_eq_false e, if_neg (by decide)])
      exact ⟨rfl, rfl, rfl, this⟩
    rw [e8, Option.bind_some, if_neg (fun z => ne ((n_inj (by omega) (by omega)).mp z)), e9, Option.bind_some, if_pos (in_nI (show 3 + (8 * b + a) < 350 by omega) (by omega)), nI_clamp (by omega)]
    refine ⟨true, _, _, _, _, _, _, _, _, _, _, _, _, _, _, _, _, rfl, rfl, w, h, hex, hk, rfl, rfl, rfl, so2, st2, ?_, hh', fun j hj => upd_ne _ _ (by omega)⟩
    refine ⟨by rw [upd_ne _ _ (by omega), m0], by rw [upd_ne _ _ (by omega), m1], by rw [upd_ne _ _ (by omega), m2], fun i hi => ?_⟩
    rw [hco i hi, b_bit _ j4 i hi]
    by_cases e : i = 8 * b + a
    · rw [decide_eq_true e, if_pos rfl, e, upd_at]
    · rw [decide_eq_false e, if_neg (by decide), upd_ne _ _ (by omega), m3 i hi]
theorem q_net {w h : Nat} (hk : ds_ok w h) {hex : Bool} {o t : Int64} (ho : ds_sub w h o) (ht : ds_sub w h t) {al : Nat → Int32} (hm : ds_MT w h hex o t al) {nx sz ud : Int32} {T : Nat → ds_TV} {un : Nat → Int32} (hh : ds_HI nx sz T ud un) (hex2 : Bool) :
    ∃ (b : Bool) (W H X : Int32) (O U : Int64) (dw' dh' dx' : Int32) (do' dt' : Int64) (nx' sz' : Int32) (T' : Nat → ds_TV) (ud' : Int32) (al' un' : Nat → Int32), fX7_net (nI w) (nI h) (ds_q hex) o t nx sz T (ds_q hex2) = some (ds_q b, W, H, X, O, U, dw', dh', dx', do', dt', nx', sz', T') ∧ fX8_net ud al un (ds_q hex2) = some (ds_q b, 0, ud', al', un') ∧ ds_Ps al W H X O U nx' sz' T' ud' al' un' := by
  obtain ⟨m0, m1, m2, m3⟩ := id hm
  have cp : fX6_copyFrom (nI w) (nI h) (ds_q hex) o t = some (nI w, nI h, ds_q hex, o, t) := by unfold fX6_copyFrom; rw [if_pos (q_01 hex)]
  have ref : fX8_net ud al un (ds_q hex2) = fX8_net_14 0 ud al un (ds_q hex2) := by unfold fX8_net; cases hex2 <;> rfl
  rw [ref]
  unfold fX7_net fX8_net_14
  rw [cp, Option.bind_some, if_pos (q_01 hex2), show (2 : Int32).toNatClampNeg = 2 from rfl, m2]
  try dsimp only
  rcases g_take hk ho ht hm hh hk hex2 o t with ⟨⟨_, _, e6, _, _⟩, e8⟩ | ⟨nn, nx', sz', T', ud', un', e8, e9, hh'⟩
  · subst e6
    rw [e8, Option.bind_some, if_pos rfl]
    exact ⟨false, _, _, _, _, _, _, _, _, _, _, _, _, _, _, _, _, rfl, rfl, w, h, hex2, hk, rfl, rfl, rfl, ho, ht, hm, hh, fun _ _ => rfl⟩
  · have ne : ¬ ds_q hex = ds_q hex2 := fun z => nn ⟨rfl, rfl, (q_inj z).symm, rfl, rfl⟩
    rw [e8, Option.bind_some, if_neg ne, e9, Option.bind_some]
    refine ⟨true, _, _, _, _, _, _, _, _, _, _, _, _, _, _, _, _, rfl, rfl, w, h, hex2, hk, rfl, rfl, rfl, ho, ht, ?_, hh', fun j hj => upd_ne _ _ (by omega)⟩
    exact ⟨by rw [upd_ne _ _ (by omega), m0], by rw [upd_ne _ _ (by omega), m1], upd_at _ _ _, fun i hi => by rw [upd_ne _ _ (by omega), m3 i hi]⟩
-- a tile whose cells come from cells
theorem co_from {w h : Nat} {o t o2 t2 : Int64} (ho : ds_sub w h o) (ht : ds_sub w h t) (so : ds_sub w h o2) (st : ds_sub w h t2) {i : Nat} (hi : i < 64) (ii : ds_ins w h i = false) : ds_co o2 t2 i = ds_co o t i := by
  have z : ∀ m : Int64, ds_sub w h m → ds_b m i = false := by
    intro m hm
    cases c : ds_b m i
    · rfl
    · have := ins_mk (hm i hi c)
      rw [ii] at this; cases this
  rw [c_eq, z o2 so, z o ho, z t2 st, z t ht]
  exact ⟨rfl, rfl⟩
theorem q_shift {w h : Nat} (hk : ds_ok w h) {hex : Bool} {o t : Int64} (ho : ds_sub w h o) (ht : ds_sub w h t) {al : Nat → Int32} (hm : ds_MT w h hex o t al) {nx sz ud : Int32} {T : Nat → ds_TV} {un : Nat → Int32} (hh : ds_HI nx sz T ud un) (dw dh dx : Int32) (do_ dt : Int64) (nn : Nat → Int32) (p1 p2 : Int32) :
    ∃ (b : Bool) (W H X : Int32) (O U : Int64) (dw' dh' dx' : Int32) (do' dt' : Int64) (nx' sz' : Int32) (T' : Nat → ds_TV) (ud' : Int32) (al' nn' un' : Nat → Int32), fX7_shift (nI w) (nI h) (ds_q hex) o t dw dh dx do_ dt nx sz T p1 p2 = some (ds_q b, W, H, X, O, U, dw', dh', dx', do', dt', nx', sz', T') ∧ fX8_shift ud al nn un p1 p2 = some (ds_q b, 0, ud', al', nn', un') ∧ ds_Ps al W H X O U nx' sz' T' ud' al' un' := by
  obtain ⟨m0, m1, m2, m3⟩ := id hm
  obtain ⟨k1, k2, k3, k4⟩ := id hk
  have stay : ds_Ps al (nI w) (nI h) (ds_q hex) o t nx sz T ud al un := ⟨w, h, hex, hk, rfl, rfl, rfl, ho, ht, hm, hh, fun _ _ => rfl⟩
  have pin : ∀ p : Int32, fX8_in p (-100) 100 = some (ds_q (decide (-100 ≤ p.toInt ∧ p.toInt ≤ 100))) := fun p => by
    rw [show (-100 : Int32) = ds_z (-100) by decide, show (100 : Int32) = ds_z 100 by decide]
    exact p_in p (by omega) (by omega) (by omega) (by omega)
  have gin : ∀ p : Int32, fX7_isShiftPart p = some (ds_q (decide (-100 ≤ p.toInt ∧ p.toInt ≤ 100))) := fun p => pin p
  unfold fX7_shift fX8_shift
  rw [pin, pin, gin, gin, Option.bind_some, Option.bind_some, Option.bind_some, Option.bind_some]
  by_cases c1 : -100 ≤ p1.toInt ∧ p1.toInt ≤ 100
  rotate_left
  · rw [decide_eq_false c1]
    exact ⟨false, _, _, _, _, _, _, _, _, _, _, _, _, _, _, _, _, _, rfl, rfl, stay⟩
  rw [decide_eq_true c1, if_neg (show ¬ ds_q true = 0 by decide), if_neg (show ¬ ds_q true = 0 by decide)]
  by_cases c2 : -100 ≤ p2.toInt ∧ p2.toInt ≤ 100
  rotate_left
  · rw [decide_eq_false c2]
    exact ⟨false, _, _, _, _, _, _, _, _, _, _, _, _, _, _, _, _, _, rfl, rfl, stay⟩
  rw [decide_eq_true c2, if_neg (show ¬ ds_q true = 0 by decide), if_neg (show ¬ ds_q true = 0 by decide)]
  have cp : fX6_copyFrom (nI w) (nI h) (ds_q hex) o t = some (nI w, nI h, ds_q hex, o, t) := by unfold fX6_copyFrom; rw [if_pos (q_01 hex)]
  obtain ⟨x, hx⟩ : ∃ x : Int, x = p1.toInt := ⟨_, rfl⟩
  obtain ⟨y, hy⟩ : ∃ y : Int, y = p2.toInt := ⟨_, rfl⟩
  have ex : p1 = ds_z x := by rw [hx, z_of]
  have ey : p2 = ds_z y := by rw [hy, z_of]
  rw [← hx] at c1
  rw [← hy] at c2
  rw [ex, ey]
  obtain ⟨o2, e1, so2, hp1⟩ := p_rolled hk ho (a := x) (b := y) (by omega) (by omega) (by omega) (by omega)
  obtain ⟨t2, e2, st2, hp2⟩ := p_rolled hk ht (a := x) (b := y) (by omega) (by omega) (by omega) (by omega)
  obtain ⟨nx0, e3, h0⟩ := m_keepsNext al nn
  rw [cp, Option.bind_some, e1, Option.bind_some, e2, Option.bind_some, e3, Option.bind_some]
  try dsimp only
  have co2 : ∀ i, i < 64 → ds_ins w h i = true → ds_co o2 t2 i = ds_co o t (ds_ix w h (((i % 8 : Nat) : Int) - x) (((i / 8 : Nat) : Int) - y)) := by
    intro i hi ii
    rw [c_eq, b_pt ii, b_pt ii, hp1, hp2]
    exact ⟨rfl, rfl⟩
  unfold fX8_shift_35
  obtain ⟨nx', e4, h4⟩ := nx_fill (w := w) (h := h) (by omega) (by omega) (OB := fun s => fX8_shift_35_b 0 ud al un (ds_z x) (ds_z y) s.1 s.2) (IB := fun v s => fX8_shift_48_b al (ds_z x) (ds_z y) (nI v) s.1 s.2) (fun u v => ds_ix w h (u + x) (v + y)) (fun i => (((i % 8 : Nat) - x) % w).toNat) (fun i => (((i / 8 : Nat) - y) % h).toNat) (fun u v => nI (ds_co o t (8 * v + u))) (ds_ins w h)
    (fun u v hu hv => by
      obtain ⟨i1, i2, i3, i4, i5⟩ := ix_lt hk ((u : Int) + x) ((v : Int) + y)
      refine ⟨i3, ins_ix hk _ _, ?_, ?_⟩
      · try dsimp only
        rw [i4, Int.toNat_of_nonneg (Int.emod_nonneg _ (by omega)), Int.emod_sub_emod, show (u : Int) + x - x = u by omega, Int.emod_eq_of_lt (by omega) (by omega)]; rfl
      · try dsimp only
        rw [i5, Int.toNat_of_nonneg (Int.emod_nonneg _ (by omega)), Int.emod_sub_emod, show (v : Int) + y - y = v by omega, Int.emod_eq_of_lt (by omega) (by omega)]; rfl)
    (fun i hi ii => by
      obtain ⟨i1, i2, i3, i4, i5⟩ := ix_lt hk (((i % 8 : Nat) : Int) - x) (((i / 8 : Nat) : Int) - y)
      refine ⟨i1, i2, ?_⟩
      try dsimp only
      have io := ins_of ii
      unfold ds_ix
      rw [Int.toNat_of_nonneg (Int.emod_nonneg _ (by omega)), Int.toNat_of_nonneg (Int.emod_nonneg _ (by omega)), Int.emod_add_emod, Int.emod_add_emod, Int.sub_add_cancel, Int.sub_add_cancel, Int.emod_eq_of_lt (by omega) (by omega), Int.emod_eq_of_lt (by omega) (by omega)]
      omega)
    (fun v nx hv => by
      try dsimp only
      unfold fX8_shift_35_b
      rw [l_1, m1, if_neg (nI_ge hv (by omega))]; rfl)
    (fun v u nx hv hu => by
      try dsimp only
      have mc := m_colour hk hm (x := (u : Int)) (y := (v : Int)) (by omega) (by omega) (by omega) (by omega)
      rw [← z_nI, ← z_nI, ix_in hu hv] at mc
      have ma := m_at hk m0 m1 (x := (u : Int) + x) (y := (v : Int) + y) (by omega) (by omega) (by omega) (by omega)
      rw [← z_add, ← z_add, ← z_nI, ← z_nI] at ma
      have il := (ix_lt hk ((u : Int) + x) ((v : Int) + y)).2.2.1
      unfold fX8_shift_48_b
      rw [l_0, m0, if_neg (nI_ge hu (by omega)), ma, Option.bind_some, mc, Option.bind_some, if_pos (in_nI il (by omega)), nI_clamp (by omega), nI_1])
    (fun v nx hv => by
      try dsimp only
      unfold fX8_shift_48_b fX8_shift_88
      rw [l_0, m0, if_pos (nI_le (Nat.le_refl _) (by omega)), nI_1]; rfl)
    (E := fun nx => fX8_shift_94 0 ud al nx un)
    (fun nx => by
      try dsimp only
      unfold fX8_shift_35_b
      rw [l_1, m1, if_pos (nI_le (Nat.le_refl _) (by omega))]
      cases fX8_shift_94 0 ud al nx un <;> rfl) nx0
  rw [e4]
  have hn : ∀ i, i < 64 → nx' i = nI (ds_co o2 t2 i) := by
    intro i hi
    rw [h4 i hi]
    cases ii : ds_ins w h i
    · rw [if_neg (by decide), h0 i hi, m3 i hi, co_from ho ht so2 st2 hi ii]
    · rw [if_pos rfl, co2 i hi ii]; rfl
  obtain ⟨b, nx2, sz', T', ud', al', un', e5, e6, hh', hm', sm⟩ := q_take hk ho ht hm hn hh
  unfold fX8_shift_94
  rw [e5, Option.bind_some, e6, Option.bind_some, if_pos (q_01 b), if_pos (q_01 b)]
  exact ⟨b, _, _, _, _, _, _, _, _, _, _, _, _, _, _, _, _, _, rfl, rfl, w, h, hex, hk, rfl, rfl, rfl, so2, st2, hm', hh', sm⟩
