/-! acts: turn, dye, reduce -/
theorem tx_mod (hex : Bool) (tn : Nat) (n : Nat) (x y : Int) : ds_tx hex tn (x % n) (y % n) % n = ds_tx hex tn x y % n ∧ ds_ty2 hex tn (x % n) (y % n) % n = ds_ty2 hex tn x y % n := by
  have ex := Int.emod_add_mul_ediv x n
  have ey := Int.emod_add_mul_ediv y n
  constructor
  · have : ds_tx hex tn x y = ds_tx hex tn (x % n) (y % n) + n * ds_tx hex tn (x / n) (y / n) := by
      unfold ds_tx
      have e1 : ds_m hex tn 0 * x = ds_m hex tn 0 * (x % n + n * (x / n)) := by rw [ex]
      have e2 : ds_m hex tn 1 * y = ds_m hex tn 1 * (y % n + n * (y / n)) := by rw [ey]
      rw [e1, e2]; grind
    rw [this, Int.add_mul_emod_self_left]
  · have : ds_ty2 hex tn x y = ds_ty2 hex tn (x % n) (y % n) + n * ds_ty2 hex tn (x / n) (y / n) := by
      unfold ds_ty2
      have e1 : ds_m hex tn 2 * x = ds_m hex tn 2 * (x % n + n * (x / n)) := by rw [ex]
      have e2 : ds_m hex tn 3 * y = ds_m hex tn 3 * (y % n + n * (y / n)) := by rw [ey]
      rw [e1, e2]; grind
    rw [this, Int.add_mul_emod_self_left]
theorem Mt_sq {n : Nat} {hex : Bool} {o t : Int64} (tn : Nat) : ds_Mt n n hex o t tn := by
  unfold ds_Mt ds_tx ds_ty2
  constructor
  · have := St_lin (St_w (w := n) (h := n) (o := o) (t := t)) (St_h (w := n) (h := n) (o := o) (t := t)) (ds_m hex tn 0) (ds_m hex tn 2)
    rw [show ds_m hex tn 0 * (n : Int) + ds_m hex tn 2 * 0 = ds_m hex tn 0 * n + ds_m hex tn 1 * 0 by omega, show ds_m hex tn 0 * 0 + ds_m hex tn 2 * (n : Int) = ds_m hex tn 2 * n + ds_m hex tn 3 * 0 by omega] at this
    exact this
  · have := St_lin (St_w (w := n) (h := n) (o := o) (t := t)) (St_h (w := n) (h := n) (o := o) (t := t)) (ds_m hex tn 1) (ds_m hex tn 3)
    rw [show ds_m hex tn 1 * (n : Int) + ds_m hex tn 3 * 0 = ds_m hex tn 0 * 0 + ds_m hex tn 1 * n by omega, show ds_m hex tn 1 * 0 + ds_m hex tn 3 * (n : Int) = ds_m hex tn 2 * 0 + ds_m hex tn 3 * n by omega] at this
    exact this
theorem q_turn {w h : Nat} (hk : ds_ok w h) {hex : Bool} {o t : Int64} (ho : ds_sub w h o) (ht : ds_sub w h t) {al : Nat → Int32} (hm : ds_MT w h hex o t al) {nx sz ud : Int32} {T : Nat → ds_TV} {un : Nat → Int32} (hh : ds_HI nx sz T ud un) (dw dh dx : Int32) (do_ dt : Int64) (nn : Nat → Int32) (p1 : Int32) :
    ∃ (b : Bool) (W H X : Int32) (O U : Int64) (dw' dh' dx' : Int32) (do' dt' : Int64) (nx' sz' : Int32) (T' : Nat → ds_TV) (ud' : Int32) (al' nn' un' : Nat → Int32), fX7_turn (nI w) (nI h) (ds_q hex) o t dw dh dx do_ dt nx sz T p1 = some (ds_q b, W, H, X, O, U, dw', dh', dx', do', dt', nx', sz', T') ∧ fX8_turn ud al nn ds_tabF un p1 = some (ds_q b, 0, ud', al', nn', un') ∧ ds_Ps al W H X O U nx' sz' T' ud' al' un' := by
  obtain ⟨m0, m1, m2, m3⟩ := id hm
  obtain ⟨k1, k2, k3, k4⟩ := id hk
  obtain ⟨n1, n2, n3, n4⟩ := nt_le hex
  have stay : ds_Ps al (nI w) (nI h) (ds_q hex) o t nx sz T ud al un := ⟨w, h, hex, hk, rfl, rfl, rfl, ho, ht, hm, hh, fun _ _ => rfl⟩
  have nm : nI (ds_nt hex) - 1 = ds_z ((ds_nt hex : Int) - 1) := by rw [z_nI, show (1 : Int32) = ds_z 1 from rfl, z_sub]
  unfold fX7_turn fX8_turn
  rw [m_turnings m2, Option.bind_some, nm, show fX8_in p1 0 (ds_z ((ds_nt hex : Int) - 1)) = _ from p_in p1 (a := 0) (by omega) (by omega) (by omega) (by omega), Option.bind_some, p_isT32, Option.bind_some, l_0, l_1, m0, m1]
  by_cases c : 0 ≤ p1.toInt ∧ p1.toInt ≤ (ds_nt hex : Int) - 1
  rotate_left
  · rw [decide_eq_false c, if_pos (show ds_q false = 0 from rfl), if_pos (show ds_q false = 0 from rfl)]
    exact ⟨false, _, _, _, _, _, _, _, _, _, _, _, _, _, _, _, _, _, rfl, rfl, stay⟩
  obtain ⟨tn, htn, rfl⟩ : ∃ tn, tn < ds_nt hex ∧ p1 = nI tn := ⟨p1.toInt.toNat, by omega, by rw [z_nI, Int.toNat_of_nonneg (by omega), z_of]⟩
  rw [decide_eq_true c, if_neg (show ¬ ds_q true = 0 by decide), if_neg (show ¬ ds_q true = 0 by decide)]
  by_cases c2 : w = h
  rotate_left
  · have c2' : ¬ nI w = nI h := fun z => c2 ((n_inj (by omega) (by omega)).mp z)
    rw [if_neg c2', if_neg c2']
    exact ⟨false, _, _, _, _, _, _, _, _, _, _, _, _, _, _, _, _, _, rfl, rfl, stay⟩
  subst c2
  rw [if_pos rfl, if_pos rfl]
  obtain ⟨q, o2, t2, e1, so2, st2, hq, hP⟩ := p_turn hk ho ht hex hex htn
  have qt : q = true := hq.mpr (Mt_sq (n := w) (hex := hex) (o := o) (t := t) (ds_iv hex tn))
  subst qt
  have hP := hP rfl
  have ivn := (iv_m hex tn htn).2.2
  obtain ⟨nx0, e3, h0⟩ := m_keepsNext al nn
  rw [e1, Option.bind_some, e3, Option.bind_some]
  dsimp only
  rw [if_neg (show ¬ ds_q true = 0 by decide)]
  have co2 : ∀ i, i < 64 → ds_ins w w i = true → ds_co o2 t2 i = ds_co o t (ds_ix w w (ds_tx hex (ds_iv hex tn) (i % 8 : Nat) (i / 8 : Nat)) (ds_ty2 hex (ds_iv hex tn) (i % 8 : Nat) (i / 8 : Nat))) := by
    intro i hi ii
    have := hP ((i % 8 : Nat) : Int) ((i / 8 : Nat) : Int)
    unfold ds_P at this
    rw [Prod.mk.injEq] at this
    rw [c_eq, b_pt ii, b_pt ii, this.1, this.2]
    exact ⟨rfl, rfl⟩
  unfold fX8_turn_42
  obtain ⟨nx', e4, h4⟩ := nx_fill (w := w) (h := w) (by omega) (by omega) (OB := fun s => fX8_turn_42_b 0 ud al ds_tabF un (nI tn) s.1 s.2) (IB := fun v s => fX8_turn_54_b al ds_tabF (nI tn) (nI v) s.1 s.2) (fun u v => ds_ix w w (ds_tx hex tn u v) (ds_ty2 hex tn u v)) (fun i => (ds_tx hex (ds_iv hex tn) (i % 8 : Nat) (i / 8 : Nat) % w).toNat) (fun i => (ds_ty2 hex (ds_iv hex tn) (i % 8 : Nat) (i / 8 : Nat) % w).toNat) (fun u v => nI (ds_co o t (8 * v + u))) (ds_ins w w)
    (fun u v hu hv => by
      obtain ⟨i1, i2, i3, i4, i5⟩ := ix_lt hk (ds_tx hex tn u v) (ds_ty2 hex tn u v)
      have tm := tx_mod hex (ds_iv hex tn) w (ds_tx hex tn u v) (ds_ty2 hex tn u v)
      rw [(iv_tx htn u v).1, (iv_tx htn u v).2] at tm
      refine ⟨i3, ins_ix hk _ _, ?_, ?_⟩
      · try dsimp only
        rw [i4, i5, Int.toNat_of_nonneg (Int.emod_nonneg _ (by omega)), Int.toNat_of_nonneg (Int.emod_nonneg _ (by omega)), tm.1, Int.emod_eq_of_lt (by omega) (by omega)]; rfl
      · try dsimp only
        rw [i4, i5, Int.toNat_of_nonneg (Int.emod_nonneg _ (by omega)), Int.toNat_of_nonneg (Int.emod_nonneg _ (by omega)), tm.2, Int.emod_eq_of_lt (by omega) (by omega)]; rfl)
    (fun i hi ii => by
      obtain ⟨i1, i2, i3, i4, i5⟩ := ix_lt hk (ds_tx hex (ds_iv hex tn) (i % 8 : Nat) (i / 8 : Nat)) (ds_ty2 hex (ds_iv hex tn) (i % 8 : Nat) (i / 8 : Nat))
      refine ⟨i1, i2, ?_⟩
      try dsimp only
      have io := ins_of ii
      have tm := tx_mod hex tn w (ds_tx hex (ds_iv hex tn) (i % 8 : Nat) (i / 8 : Nat)) (ds_ty2 hex (ds_iv hex tn) (i % 8 : Nat) (i / 8 : Nat))
      rw [(tx_iv htn _ _).1, (tx_iv htn _ _).2] at tm
      unfold ds_ix
      rw [Int.toNat_of_nonneg (Int.emod_nonneg _ (by omega)), Int.toNat_of_nonneg (Int.emod_nonneg _ (by omega)), tm.1, tm.2, Int.emod_eq_of_lt (by omega) (by omega), Int.emod_eq_of_lt (by omega) (by omega)]
      omega)
    (fun v nx hv => by
      try dsimp only
      unfold fX8_turn_42_b
      rw [l_1, m1, if_neg (nI_ge hv (by omega))]; rfl)
    (fun v u nx hv hu => by
      try dsimp only
      have ts := t_small htn (x := (u : Int)) (y := (v : Int)) (n := 8) (by omega) (by omega) (by omega) (by omega)
      have mc := m_colour hk hm (x := (u : Int)) (y := (v : Int)) (by omega) (by omega) (by omega) (by omega)
      have mx := m_tx m2 htn (u : Int) (v : Int)
      have my := m_ty m2 htn (u : Int) (v : Int)
      rw [← z_nI, ← z_nI, ix_in hu hv] at mc
      rw [← z_nI, ← z_nI] at mx my
      have ma := m_at hk m0 m1 (x := ds_tx hex tn u v) (y := ds_ty2 hex tn u v) (by omega) (by omega) (by omega) (by omega)
      have il := (ix_lt hk (ds_tx hex tn u v) (ds_ty2 hex tn u v)).2.2.1
      unfold fX8_turn_54_b
      rw [l_0, m0, if_neg (nI_ge hu (by omega)), mx, Option.bind_some, my, Option.bind_some, ma, Option.bind_some, mc, Option.bind_some, if_pos (in_nI il (by omega)), nI_clamp (by omega), nI_1])
    (fun v nx hv => by
      try dsimp only
      unfold fX8_turn_54_b fX8_turn_99
      rw [l_0, m0, if_pos (nI_le (Nat.le_refl _) (by omega)), nI_1]; rfl)
    (E := fun nx => fX8_turn_105 0 ud al nx un)
    (fun nx => by
      try dsimp only
      unfold fX8_turn_42_b
      rw [l_1, m1, if_pos (nI_le (Nat.le_refl _) (by omega))]
      cases fX8_turn_105 0 ud al nx un <;> rfl) nx0
  rw [e4]
  have hn : ∀ i, i < 64 → nx' i = nI (ds_co o2 t2 i) := by
    intro i hi
    rw [h4 i hi]
    cases ii : ds_ins w w i
    · rw [if_neg (by decide), h0 i hi, m3 i hi, co_from ho ht so2 st2 hi ii]
    · rw [if_pos rfl, co2 i hi ii]; rfl
  obtain ⟨b, nx2, sz', T', ud', al', un', e5, e6, hh', hm', sm⟩ := q_take hk ho ht hm hn hh
  unfold fX8_turn_105
  rw [e5, Option.bind_some, e6, Option.bind_some, if_pos (q_01 b)]
  have ps : ds_Ps al (nI w) (nI w) (ds_q hex) o2 t2 nx2 sz' T' ud' al' un' := ⟨w, w, hex, hk, rfl, rfl, rfl, so2, st2, hm', hh', sm⟩
  cases b
  · exact ⟨false, _, _, _, _, _, _, _, _, _, _, _, _, _, _, _, _, _, rfl, rfl, ps⟩
  · exact ⟨true, _, _, _, _, _, _, _, _, _, _, _, _, _, _, _, _, _, rfl, rfl, ps⟩
theorem q_dye {w h : Nat} (hk : ds_ok w h) {hex : Bool} {o t : Int64} (ho : ds_sub w h o) (ht : ds_sub w h t) {al : Nat → Int32} (hm : ds_MT w h hex o t al) {nx sz ud : Int32} {T : Nat → ds_TV} {un : Nat → Int32} (hh : ds_HI nx sz T ud un) (dw dh dx : Int32) (do_ dt : Int64) (nn : Nat → Int32) (p1 p2 : Int32) :
    ∃ (b : Bool) (W H X : Int32) (O U : Int64) (dw' dh' dx' : Int32) (do' dt' : Int64) (nx' sz' : Int32) (T' : Nat → ds_TV) (ud' : Int32) (al' nn' un' : Nat → Int32), fX7_dye (nI w) (nI h) (ds_q hex) o t dw dh dx do_ dt nx sz T p1 p2 = some (ds_q b, W, H, X, O, U, dw', dh', dx', do', dt', nx', sz', T') ∧ fX8_dye ud al nn un p1 p2 = some (ds_q b, 0, ud', al', nn', un') ∧ ds_Ps al W H X O U nx' sz' T' ud' al' un' := by
  obtain ⟨m0, m1, m2, m3⟩ := id hm
  obtain ⟨k1, k2, k3, k4⟩ := id hk
  have stay : ds_Ps al (nI w) (nI h) (ds_q hex) o t nx sz T ud al un := ⟨w, h, hex, hk, rfl, rfl, rfl, ho, ht, hm, hh, fun _ _ => rfl⟩
  unfold fX7_dye fX8_dye
  rcases q_col p1 with ⟨c, hc, rfl, e1, e2⟩ | ⟨e1, e2⟩
  rotate_left
  · rw [e1, e2]
    exact ⟨false, _, _, _, _, _, _, _, _, _, _, _, _, _, _, _, _, _, rfl, rfl, stay⟩
  rw [e1, e2, Option.bind_some, Option.bind_some, if_neg (show ¬ (1 : Int32) = 0 by decide), if_neg (show ¬ (1 : Int32) = 0 by decide)]
  rcases q_col p2 with ⟨d, hd, rfl, e3, e4⟩ | ⟨e3, e4⟩
  rotate_left
  · rw [e3, e4]
    exact ⟨false, _, _, _, _, _, _, _, _, _, _, _, _, _, _, _, _, _, rfl, rfl, stay⟩
  have cp : fX6_copyFrom (nI w) (nI h) (ds_q hex) o t = some (nI w, nI h, ds_q hex, o, t) := by unfold fX6_copyFrom; rw [if_pos (q_01 hex)]
  obtain ⟨mc, f1, smc, hmc⟩ := p_ofColour hk o t hc
  obtain ⟨md, f2, smd, hmd⟩ := p_ofColour hk o t hd
  obtain ⟨o1, t1, f3, so1, st1, hco1⟩ := p_colourCells ho ht smc hd
  obtain ⟨o2, t2, f4, so2, st2, hco2⟩ := p_colourCells so1 st1 smd hc
  obtain ⟨nx0, f5, h0⟩ := m_keepsNext al nn
  rw [e3, e4, Option.bind_some, Option.bind_some, if_neg (show ¬ (1 : Int32) = 0 by decide), if_neg (show ¬ (1 : Int32) = 0 by decide), cp, Option.bind_some, f1, Option.bind_some, f5, Option.bind_some]
  dsimp only
  rw [f3, Option.bind_some, f2, Option.bind_some]
  dsimp only
  rw [f4, Option.bind_some]
  dsimp only
  obtain ⟨g, hg⟩ : ∃ g : Nat → Nat, ∀ k, g k = if k = c then d else if k = d then c else k := ⟨_, fun _ => rfl⟩
  have co2 : ∀ i, i < 64 → ds_ins w h i = true → ds_co o2 t2 i = g (ds_co o t i) := by
    intro i hi ii
    rw [hco2 i hi, hmd i hi, hco1 i hi, hmc i hi, ii, Bool.true_and, Bool.true_and, hg]
    by_cases x1 : ds_co o t i = d
    · rw [decide_eq_true x1, if_pos rfl]
      by_cases x2 : ds_co o t i = c
      · rw [if_pos x2, ← x1, x2]
      · rw [if_neg x2, if_pos x1]
    · rw [decide_eq_false x1, if_neg (by decide), if_neg (show ¬ ds_co o t i = d from x1)]
      by_cases x2 : ds_co o t i = c
      · rw [if_pos x2, decide_eq_true x2, if_pos rfl]
      · rw [if_neg x2, decide_eq_false x2, if_neg (by decide)]
  unfold fX8_dye_31
  obtain ⟨nx', e5, h5⟩ := nx_fill (w := w) (h := h) (by omega) (by omega) (OB := fun s => fX8_dye_31_b 0 ud al un (nI c) (nI d) s.1 s.2) (IB := fun v s => fX8_dye_44_b al (nI c) (nI d) (nI v) s.1 s.2) (fun u v => 8 * v + u) (fun i => i % 8) (fun i => i / 8) (fun u v => nI (g (ds_co o t (8 * v + u)))) (ds_ins w h)
    (fun u v hu hv => by
      obtain ⟨j1, j2, j3, j4⟩ := ins_xy hk hu hv
      exact ⟨j4, j1, j2, j3⟩)
    (fun i hi ii => by
      have io := ins_of ii
      exact ⟨io.1, io.2, by omega⟩)
    (fun v nx hv => by
      try dsimp only
      unfold fX8_dye_31_b
      rw [l_1, m1, if_neg (nI_ge hv (by omega))]; rfl)
    (fun v u nx hv hu => by
      try dsimp only
      have mcc := m_colour hk hm (x := (u : Int)) (y := (v : Int)) (by omega) (by omega) (by omega) (by omega)
      rw [← z_nI, ← z_nI, ix_in hu hv] at mcc
      have cl := c_lt o t (8 * v + u)
      unfold fX8_dye_44_b fX8_dye_97
      rw [l_0, m0, if_neg (nI_ge hu (by omega)), mcc, Option.bind_some, sh_8, nI_add, if_pos (in_nI (show 8 * v + u < 64 by omega) (by omega)), nI_clamp (by omega), nI_1, hg]
      by_cases x1 : ds_co o t (8 * v + u) = c
      · rw [if_pos (congrArg nI x1), if_pos x1]
      · rw [if_neg (fun z => x1 ((n_inj (by omega) (by omega)).mp z)), if_neg x1]
        by_cases x2 : ds_co o t (8 * v + u) = d
        · rw [if_pos (congrArg nI x2), if_pos x2, if_pos (in_nI (show 8 * v + u < 64 by omega) (by omega))]
        · rw [if_neg (fun z => x2 ((n_inj (by omega) (by omega)).mp z)), if_neg x2, if_pos (in_nI (show 8 * v + u < 64 by omega) (by omega))])
    (fun v nx hv => by
      try dsimp only
      unfold fX8_dye_44_b fX8_dye_104
      rw [l_0, m0, if_pos (nI_le (Nat.le_refl _) (by omega)), nI_1]; rfl)
    (E := fun nx => fX8_dye_110 0 ud al nx un)
    (fun nx => by
      try dsimp only
      unfold fX8_dye_31_b
      rw [l_1, m1, if_pos (nI_le (Nat.le_refl _) (by omega))]
      cases fX8_dye_110 0 ud al nx un <;> rfl) nx0
  rw [e5]
  have hn : ∀ i, i < 64 → nx' i = nI (ds_co o2 t2 i) := by
    intro i hi
    rw [h5 i hi]
    cases ii : ds_ins w h i
    · rw [if_neg (by decide), h0 i hi, m3 i hi, co_from ho ht so2 st2 hi ii]
    · rw [if_pos rfl, co2 i hi ii]
      try dsimp only
      rw [show 8 * (i / 8) + i % 8 = i by omega]
  obtain ⟨b, nx2, sz', T', ud', al', un', e6, e7, hh', hm', sm⟩ := q_take hk ho ht hm hn hh
  unfold fX8_dye_110
  rw [e6, Option.bind_some, e7, Option.bind_some, if_pos (q_01 b), if_pos (q_01 b)]
  exact ⟨b, _, _, _, _, _, _, _, _, _, _, _, _, _, _, _, _, _, rfl, rfl, w, h, hex, hk, rfl, rfl, rfl, so2, st2, hm', hh', sm⟩
-- reduce
def ds_Ls (p : Nat → Prop) (w a : Nat) : Prop := 1 ≤ a ∧ a ≤ w ∧ p a ∧ ∀ c, 1 ≤ c → c < a → ¬ p c
theorem Ls_one {p : Nat → Prop} {w a b : Nat} (h1 : ds_Ls p w a) (h2 : ds_Ls p w b) : a = b := by
  obtain ⟨a1, a2, a3, a4⟩ := h1
  obtain ⟨b1, b2, b3, b4⟩ := h2
  rcases Nat.lt_trichotomy a b with c | c | c
  · exact absurd a3 (b4 a a1 c)
  · exact c
  · exact absurd b3 (a4 b b1 c)
theorem g_least {w h : Nat} (hk : ds_ok w h) {o t : Int64} (ho : ds_sub w h o) (ht : ds_sub w h t) : (∃ a, fX6_leastStepAlongX (nI w) (nI h) o t = some (nI a) ∧ ds_Ls (fun a => ds_St w h o t a 0) w a) ∧ ∃ b, fX6_leastStepAlongY (nI w) (nI h) o t = some (nI b) ∧ ds_Ls (fun b => ds_St w h o t 0 b) h b := by
  obtain ⟨k1, k2, k3, k4⟩ := id hk
  constructor
  · unfold fX6_leastStepAlongX fX6_leastStepAlongX_2
    have fin := ds_it_inv (fun s : Int32 => fX6_leastStepAlongX_2_b (nI w) (nI h) o t s) (fun k s => s = nI (k + 1) ∧ ∀ c : Nat, 1 ≤ c → c ≤ k → ¬ ds_St w h o t c 0) (fun r => ∃ a, r = nI a ∧ ds_Ls (fun a => ds_St w h o t a 0) w a) (w - 1) 1000 0 1 (Nat.zero_le _) ⟨rfl, fun c h1 h2 => by omega⟩ (by omega) ?_ ?_
    · obtain ⟨r, e, a, rfl, q⟩ := fin
      exact ⟨a, e, q⟩
    · rintro k s hk' ⟨rfl, hn⟩
      try dsimp only
      unfold fX6_leastStepAlongX_2_b
      obtain ⟨q, e, hq⟩ := p_comes hk ho ht (a := ((k + 1 : Nat) : Int)) (b := 0) (by omega) (by omega) (by omega) (by omega)
      rw [← z_nI, show ds_z 0 = (0 : Int32) from rfl] at e
      rw [if_neg (nI_ge (by omega) (by omega)), e, Option.bind_some, nI_1]
      cases q
      · left
        rw [if_pos (show ds_q false = 0 from rfl)]
        refine ⟨_, rfl, rfl, fun c h1 h2 => ?_⟩
        by_cases ee : c = k + 1
        · subst ee; intro z; have := hq.mpr z; cases this
        · exact hn c h1 (by omega)
      · right
        rw [if_neg (show ¬ ds_q true = 0 by decide)]
        exact ⟨_, rfl, k + 1, rfl, by omega, by omega, hq.mp rfl, fun c h1 h2 => hn c h1 (by omega)⟩
    · rintro s ⟨rfl, hn⟩
      try dsimp only
      unfold fX6_leastStepAlongX_2_b
      rw [if_pos (nI_le (by omega) (by omega))]
      exact ⟨_, rfl, w, by rw [show w - 1 + 1 = w by omega], by omega, by omega, St_w, fun c h1 h2 => hn c h1 (by omega)⟩
  · unfold fX6_leastStepAlongY fX6_leastStepAlongY_2
    have fin := ds_it_inv (fun s : Int32 => fX6_leastStepAlongY_2_b (nI w) (nI h) o t s) (fun k s => s = nI (k + 1) ∧ ∀ c : Nat, 1 ≤ c → c ≤ k → ¬ ds_St w h o t 0 c) (fun r => ∃ a, r = nI a ∧ ds_Ls (fun a => ds_St w h o t 0 a) h a) (h - 1) 1000 0 1 (Nat.zero_le _) ⟨rfl, fun c h1 h2 => by omega⟩ (by omega) ?_ ?_
    · obtain ⟨r, e, a, rfl, q⟩ := fin
      exact ⟨a, e, q⟩
    · rintro k s hk' ⟨rfl, hn⟩
      try dsimp only
      unfold fX6_leastStepAlongY_2_b
      obtain ⟨q, e, hq⟩ := p_comes hk ho ht (a := 0) (b := ((k + 1 : Nat) : Int)) (by omega) (by omega) (by omega) (by omega)
      rw [← z_nI, show ds_z 0 = (0 : Int32) from rfl] at e
      rw [if_neg (nI_ge (by omega) (by omega)), e, Option.bind_some, nI_1]
      cases q
      · left
        rw [if_pos (show ds_q false = 0 from rfl)]
        refine ⟨_, rfl, rfl, fun c h1 h2 => ?_⟩
        by_cases ee : c = k + 1
        · subst ee; intro z; have := hq.mpr z; cases this
        · exact hn c h1 (by omega)
      · right
        rw [if_neg (show ¬ ds_q true = 0 by decide)]
        exact ⟨_, rfl, k + 1, rfl, by omega, by omega, hq.mp rfl, fun c h1 h2 => hn c h1 (by omega)⟩
    · rintro s ⟨rfl, hn⟩
      try dsimp only
      unfold fX6_leastStepAlongY_2_b
      rw [if_pos (nI_le (by omega) (by omega))]
      exact ⟨_, rfl, h, by rw [show h - 1 + 1 = h by omega], by omega, by omega, St_h, fun c h1 h2 => hn c h1 (by omega)⟩
theorem m_least {w h : Nat} (hk : ds_ok w h) {hex : Bool} {o t : Int64} {al sh : Nat → Int32} (hm : ds_MT w h hex o t al) (h01 : ds_01 sh) (hv : ds_SV w h hex o t sh 0) : (∃ a, fX8_leastStep al sh 0 = some (nI a) ∧ ds_Ls (fun a => ds_St w h o t a 0) w a) ∧ ∃ b, fX8_leastStep al sh 1 = some (nI b) ∧ ds_Ls (fun b => ds_St w h o t 0 b) h b := by
  obtain ⟨k1, k2, k3, k4⟩ := id hk
  constructor
  · unfold fX8_leastStep fX8_leastStep_2
    have fin := ds_it_inv (fun s : Int32 => fX8_leastStep_2_b al sh 0 s) (fun k s => s = nI (k + 1) ∧ ∀ c : Nat, 1 ≤ c → c ≤ k → ¬ ds_St w h o t c 0) (fun r => ∃ a, r = nI a ∧ ds_Ls (fun a => ds_St w h o t a 0) w a) (w - 1) 1000 0 1 (Nat.zero_le _) ⟨rfl, fun c h1 h2 => by omega⟩ (by omega) ?_ ?_
    · obtain ⟨r, e, a, rfl, q⟩ := fin
      exact ⟨a, e, q⟩
    · rintro k s hk' ⟨rfl, hn⟩
      try dsimp only
      unfold fX8_leastStep_2_b fX8_leastStep_12 fX8_leastStep_21
      obtain ⟨q, e, hq⟩ := m_step hk hm h01 hv (x := ((k + 1 : Nat) : Int)) (y := 0) (by omega) (by omega) (by omega) (by omega)
      rw [← z_nI, show ds_z 0 = (0 : Int32) from rfl] at e
      rw [if_pos rfl, if_pos rfl, e, Option.bind_some, nI_1]
      cases q
      · left
        rw [if_pos (show ds_q false = 0 from rfl)]
        refine ⟨_, rfl, rfl, fun c h1 h2 => ?_⟩
        by_cases ee : c = k + 1
        · subst ee; intro z; have := hq.mpr z; cases this
        · exact hn c h1 (by omega)
      · right
        rw [if_neg (show ¬ ds_q true = 0 by decide)]
        exact ⟨_, rfl, k + 1, rfl, by omega, by omega, hq.mp rfl, fun c h1 h2 => hn c h1 (by omega)⟩
    · rintro s ⟨rfl, hn⟩
      try dsimp only
      unfold fX8_leastStep_2_b fX8_leastStep_12 fX8_leastStep_21
      obtain ⟨q, e, hq⟩ := m_step hk hm h01 hv (x := ((w - 1 + 1 : Nat) : Int)) (y := 0) (by omega) (by omega) (by omega) (by omega)
      rw [← z_nI, show ds_z 0 = (0 : Int32) from rfl] at e
      have qt := hq.mpr (by rw [show w - 1 + 1 = w by omega]; exact St_w)
      rw [if_pos rfl, if_pos rfl, e, Option.bind_some, qt, if_neg (show ¬ ds_q true = 0 by decide)]
      exact ⟨_, rfl, w, by rw [show w - 1 + 1 = w by omega], by omega, by omega, St_w, fun c h1 h2 => hn c h1 (by omega)⟩
  · unfold fX8_leastStep fX8_leastStep_2
    have fin := ds_it_inv (fun s : Int32 => fX8_leastStep_2_b al sh 1 s) (fun k s => s = nI (k + 1) ∧ ∀ c : Nat, 1 ≤ c → c ≤ k → ¬ ds_St w h o t 0 c) (fun r => ∃ a, r = nI a ∧ ds_Ls (fun a => ds_St w h o t 0 a) h a) (h - 1) 1000 0 1 (Nat.zero_le _) ⟨rfl, fun c h1 h2 => by omega⟩ (by omega) ?_ ?_
    · obtain ⟨r, e, a, rfl, q⟩ := fin
      exact ⟨a, e, q⟩
    · rintro k s hk' ⟨rfl, hn⟩
      try dsimp only
      unfold fX8_leastStep_2_b fX8_leastStep_12 fX8_leastStep_21
      obtain ⟨q, e, hq⟩ := m_step hk hm h01 hv (x := 0) (y := ((k + 1 : Nat) : Int)) (by omega) (by omega) (by omega) (by omega)
      rw [← z_nI, show ds_z 0 = (0 : Int32) from rfl] at e
      rw [if_neg (show ¬ (1 : Int32) = 0 by decide), if_neg (show ¬ (1 : Int32) = 0 by decide), e, Option.bind_some, nI_1]
      cases q
      · left
        rw [if_pos (show ds_q false = 0 from rfl)]
        refine ⟨_, rfl, rfl, fun c h1 h2 => ?_⟩
        by_cases ee : c = k + 1
        · subst ee; intro z; have := hq.mpr z; cases this
        · exact hn c h1 (by omega)
      · right
        rw [if_neg (show ¬ ds_q true = 0 by decide)]
        exact ⟨_, rfl, k + 1, rfl, by omega, by omega, hq.mp rfl, fun c h1 h2 => hn c h1 (by omega)⟩
    · rintro s ⟨rfl, hn⟩
      try dsimp only
      unfold fX8_leastStep_2_b fX8_leastStep_12 fX8_leastStep_21
      obtain ⟨q, e, hq⟩ := m_step hk hm h01 hv (x := 0) (y := ((h - 1 + 1 : Nat) : Int)) (by omega) (by omega) (by omega) (by omega)
      rw [← z_nI, show ds_z 0 = (0 : Int32) from rfl] at e
      have qt := hq.mpr (by rw [show h - 1 + 1 = h by omega]; exact St_h)
      rw [if_neg (show ¬ (1 : Int32) = 0 by decide), if_neg (show ¬ (1 : Int32) = 0 by decide), e, Option.bind_some, qt, if_neg (show ¬ ds_q true = 0 by decide)]
      exact ⟨_, rfl, h, by rw [show h - 1 + 1 = h by omega], by omega, by omega, St_h, fun c h1 h2 => hn c h1 (by omega)⟩
theorem q_reduce {w h : Nat} (hk : ds_ok w h) {hex : Bool} {o t : Int64} (ho : ds_sub w h o) (ht : ds_sub w h t) {al sr : Nat → Int32} (hm : ds_MT w h hex o t al) (h01 : ds_01 sr) {nx sz ud : Int32} {T : Nat → ds_TV} {un : Nat → Int32} (hh : ds_HI nx sz T ud un) :
    ∃ (v : Int32) (W H X : Int32) (O U : Int64) (dw' dh' dx' : Int32) (do' dt' : Int64) (nx' sz' : Int32) (T' : Nat → ds_TV) (ud' : Int32) (al' sr' un' : Nat → Int32), fX7_reduce (nI w) (nI h) (ds_q hex) o t nx sz T = some (v, W, H, X, O, U, dw', dh', dx', do', dt', nx', sz', T') ∧ fX8_reduce ud al ds_tabF sr un = some (v, 0, ud', al', sr', un') ∧ ds_01 sr' ∧ ds_Ps al W H X O U nx' sz' T' ud' al' un' := by
  obtain ⟨m0, m1, m2, m3⟩ := id hm
  obtain ⟨k1, k2, k3, k4⟩ := id hk
  obtain ⟨sr', e1, s01, sv⟩ := m_lays hk hm h01
  obtain ⟨n1, n2, n3, n4⟩ := nt_le hex
  obtain ⟨⟨a, f1, la⟩, b, f2, lb⟩ := g_least hk ho ht
  obtain ⟨⟨a', f3, la'⟩, b', f4, lb'⟩ := m_least hk hm s01 (sv 0 (by omega))
  have ea := Ls_one la' la
  have eb := Ls_one lb' lb
  subst ea eb
  obtain ⟨a1, a2, a3, a4⟩ := la
  obtain ⟨b1, b2, b3, b4⟩ := lb
  have kab : ds_ok a' b' := ⟨a1, by omega, b1, by omega⟩
  have sa : ∀ m : Int64, ds_sub a' b' (m &&& ds_all a' b') := by
    intro m i hi z
    rw [b_and, b_all kab hi] at z
    exact ins_of (by cases q : ds_b m i <;> rw [q] at z <;> first | exact z | cases z)
  have cl : fX6_clear (nI a') (nI b') (ds_q hex) = some (nI a', nI b', ds_q hex, 0, 0) := by unfold fX6_clear; rw [if_pos (q_01 hex)]
  unfold fX7_reduce fX8_reduce
  rw [f1, Option.bind_some, f2, Option.bind_some, cl, Option.bind_some, e1, Option.bind_some, f3, Option.bind_some, f4, Option.bind_some]
  dsimp only
  rw [p_all, Option.bind_some, Option.bind_some, l_0, l_1, m0, m1]
  have coa : ∀ i, i < 64 → ds_co (o &&& ds_all a' b') (t &&& ds_all a' b') i = if ds_ins a' b' i = true then ds_co o t i else 0 := by
    intro i hi
    unfold ds_co
    rw [b_and, b_and, b_all kab hi]
    cases ds_ins a' b' i
    · rw [Bool.and_false, Bool.and_false]; rfl
    · rw [Bool.and_true, Bool.and_true]; rfl
  rcases g_take hk ho ht hm hh kab hex (o &&& ds_all a' b') (t &&& ds_all a' b') with ⟨⟨w1, w2, _, w3, w4⟩, e8⟩ | ⟨nn, nx', sz', T', ud', un', e8, e9, hh'⟩
  · rw [e8, Option.bind_some]
    dsimp only
    rw [if_pos rfl, if_pos (by rw [w1]), if_pos (by rw [w2])]
    exact ⟨_, _, _, _, _, _, _, _, _, _, _, _, _, _, _, _, _, _, rfl, rfl, s01, w, h, hex, hk, rfl, rfl, rfl, ho, ht, hm, hh, fun _ _ => rfl⟩
  · have go : (if nI a' = nI w then if nI b' = nI h then some (-1, 0, ud, al, sr', un) else fX8_reduce_43 0 ud al sr' un (nI a') (nI b') else fX8_reduce_43 0 ud al sr' un (nI a') (nI b')) = fX8_reduce_43 0 ud al sr' un (nI a') (nI b') := by
      by_cases c1 : a' = w
      · rw [if_pos (by rw [c1]), if_neg]
        intro z
        have c2 := (n_inj (by omega) (by omega)).mp z
        apply nn
        have sall : ∀ m : Int64, ds_sub w h m → m &&& ds_all a' b' = m := by
          intro m hm
          apply b_ext
          intro i hi
          rw [b_and, b_all kab hi, c1, c2]
          cases q : ds_b m i
          · rfl
          · rw [ins_mk (hm i hi q)]; rfl
        exact ⟨c1, c2, rfl, sall o ho, sall t ht⟩
      · rw [if_neg (fun z => c1 ((n_inj (by omega) (by omega)).mp z))]
    rw [go, e8, Option.bind_some]
    dsimp only
    rw [if_neg (show ¬ (1 : Int32) = 0 by decide)]
    unfold fX6_cells fX8_reduce_43
    rw [e9, Option.bind_some, Option.bind_some]
    dsimp only
    have wr : ∃ al', fX8_reduce_49 0 ud' sr' un' (nI a') (nI b') 0 al = some (nI a' * nI b', 0, ud', upd (upd al' 0 (nI a')) 1 (nI b'), sr', un') ∧ (∀ i, i < 64 → al' (3 + i) = if ds_ins a' b' i = true then al (3 + i) else 0) ∧ ∀ j, (j < 3 ∨ 67 ≤ j) → al' j = al j := by
      unfold fX8_reduce_49
      have fin := ds_it_inv (fun q : Int32 × (Nat → Int32) => fX8_reduce_49_b 0 ud' sr' un' (nI a') (nI b') q.1 q.2) (fun k q => ∃ al', q = (nI k, al') ∧ (∀ i, i < k → al' (3 + i) = if ds_ins a' b' i = true then al (3 + i) else 0) ∧ ∀ j, (j < 3 + k → j < 3) ∨ 67 ≤ j → al' j = al j) (fun r => ∃ al', r = (nI a' * nI b', 0, ud', upd (upd al' 0 (nI a')) 1 (nI b'), sr', un') ∧ (∀ i, i < 64 → al' (3 + i) = if ds_ins a' b' i = true then al (3 + i) else 0) ∧ ∀ j, (j < 3 ∨ 67 ≤ j) → al' j = al j) 64 1000 0 (0, al) (Nat.zero_le _) ⟨al, rfl, fun j hj => by omega, fun _ _ => rfl⟩ (by omega) ?_ ?_
      · obtain ⟨r, e, al', q1, q2⟩ := fin
        exact ⟨al', e.trans (congrArg some q1), q2⟩
      · rintro k q hk6 ⟨al', rfl, h1, h2⟩
        left
        try dsimp only
        obtain ⟨r1, r2, _⟩ := n_r8 k hk6
        have nxt : ∀ v : Int32, v = (if ds_ins a' b' k = true then al (3 + k) else 0) → ∃ s', (some (Sum.inl (nI k + 1, upd al' (3 + k) v)) : Option ((Int32 × (Nat → Int32)) ⊕ (Int32 × Int32 × Int32 × (Nat → Int32) × (Nat → Int32) × (Nat → Int32)))) = some (Sum.inl s') ∧ ∃ al', s' = (nI (k + 1), al') ∧ (∀ i, i < k + 1 → al' (3 + i) = if ds_ins a' b' i = true then al (3 + i) else 0) ∧ ∀ j, (j < 3 + (k + 1) → j < 3) ∨ 67 ≤ j → al' j = al j := by
          rintro v rfl
          refine ⟨_, rfl, _, by rw [nI_1], fun j hj => ?_, fun j hj => ?_⟩
          · by_cases e : j = k
            · rw [e, upd_at]
            · rw [upd_ne _ _ (by omega)]; exact h1 j (by omega)
          · rw [upd_ne _ _ (by omega)]; exact h2 j (by omega)
        unfold fX8_reduce_49_b fX8_reduce_89 fX8_reduce_90
        rw [show (64 : Int32) = nI 64 from rfl, if_neg (nI_ge hk6 (by omega)), r1, r2, show (3 : Int32) = nI 3 from rfl, nI_add, if_pos (in_nI (show 3 + k < 350 by omega) (by omega)), if_pos (in_nI (show 3 + k < 350 by omega) (by omega)), if_pos (in_nI (show 3 + k < 350 by omega) (by omega)), nI_clamp (by omega)]
        by_cases c1 : k % 8 < a'
        · rw [if_neg (nI_ge c1 (by omega))]
          by_cases c2 : k / 8 < b'
          · rw [if_neg (nI_ge c2 (by omega))]
            exact nxt _ (by rw [ins_mk ⟨c1, c2⟩, if_pos rfl, h2 _ (Or.inl (by omega))])
          · rw [if_pos (nI_le (by omega) (by omega))]
            exact nxt _ (by unfold ds_ins; rw [decide_eq_false c2, Bool.and_false]; rfl)
        · rw [if_pos (nI_le (by omega) (by omega))]
          exact nxt _ (by unfold ds_ins; rw [decide_eq_false c1]; rfl)
      · rintro q ⟨al', rfl, h1, h2⟩
        try dsimp only
        unfold fX8_reduce_49_b fX8_reduce_97
        rw [if_pos (by decide)]
        exact ⟨_, rfl, al', rfl, h1, fun j hj => h2 j (by omega)⟩
    obtain ⟨al', e10, g1, g2⟩ := wr
    rw [e10]
    refine ⟨_, _, _, _, _, _, _, _, _, _, _, _, _, _, _, _, _, _, rfl, rfl, s01, a', b', hex, kab, rfl, rfl, rfl, sa o, sa t, ?_, hh', fun j hj => by rw [upd_ne _ _ (by omega), upd_ne _ _ (by omega)]; exact g2 j (Or.inr hj)⟩
    refine ⟨by rw [upd_ne _ _ (by omega), upd_at], upd_at _ _ _, by rw [upd_ne _ _ (by omega), upd_ne _ _ (by omega), g2 2 (by omega), m2], fun i hi => ?_⟩
    rw [upd_ne _ _ (by omega), upd_ne _ _ (by omega), g1 i hi, coa i hi]
    cases ds_ins a' b' i
    · rfl
    · rw [if_pos rfl, if_pos rfl, m3 i hi]
