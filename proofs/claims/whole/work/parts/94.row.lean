/-! texts: a row told, on both sides -/
def ds_DR (fault : Int32) (R : Nat) (W H X : Int32) (O U : Int64) (told : Nat → Int32) : Prop := told 1 = nI (min R 8) ∧ (fault = 0 → R ≤ 8 ∧ ∃ hex : Bool, X = ds_q hex ∧ told 2 = ds_q hex ∧ (R = 0 → O = 0 ∧ U = 0 ∧ told 0 = 0 ∧ ∀ i, i < 64 → told (3 + i) = 0) ∧ (1 ≤ R → ∃ w, ds_ok w R ∧ W = nI w ∧ H = nI R ∧ told 0 = nI w ∧ ds_sub w R O ∧ ds_sub w R U ∧ ∀ i, i < 64 → told (3 + i) = nI (ds_co O U i))) ∧ (¬ fault = 0 → 1 ≤ R)
theorem t_paint {L : Nat} {B : Nat → Nat} {by_ tx : Nat → Int32} (ht : ds_Tx L B by_ tx) {p q : Nat} (hp : p ≤ q) (hq : q ≤ L) (h8 : q ≤ p + 8) (hl : ∀ i, p ≤ i → i < q → 97 ≤ B i ∧ B i ≤ 100) {R : Nat} (hR : R < 8) {O U : Int64} (so : ds_sub (q - p) (R + 1) O) (su : ds_sub (q - p) (R + 1) U) (fa pl W H : Int32) :
    ∃ O' U', fX5_takeRow_86 (nI L) fa pl (nI (R + 1)) W H by_ (nI p) (nI q) (nI p) O U = some (fa, pl, W, H, O', U') ∧ ds_sub (q - p) (R + 1) O' ∧ ds_sub (q - p) (R + 1) U' ∧ ∀ i, i < 64 → ds_co O' U' i = if i / 8 = R ∧ i % 8 < q - p then B (p + i % 8) - 97 else ds_co O U i := by
  have l := ht.1
  unfold fX5_takeRow_86
  have fin := ds_it_inv (fun s : Int32 × Int64 × Int64 => fX5_takeRow_86_b (nI L) fa pl (nI (R + 1)) W H by_ (nI p) (nI q) s.1 s.2.1 s.2.2) (fun k s => ∃ O' U', s = (nI (p + k), O', U') ∧ ds_sub (q - p) (R + 1) O' ∧ ds_sub (q - p) (R + 1) U' ∧ ∀ i, i < 64 → ds_co O' U' i = if i / 8 = R ∧ i % 8 < k then B (p + i % 8) - 97 else ds_co O U i) (fun r => ∃ O' U', r = (fa, pl, W, H, O', U') ∧ ds_sub (q - p) (R + 1) O' ∧ ds_sub (q - p) (R + 1) U' ∧ ∀ i, i < 64 → ds_co O' U' i = if i / 8 = R ∧ i % 8 < q - p then B (p + i % 8) - 97 else ds_co O U i) (q - p) 1000 0 (nI p, O, U) (Nat.zero_le _) ⟨O, U, rfl, so, su, fun i hi => by rw [if_neg (by omega)]⟩ (by omega) ?_ ?_
  · obtain ⟨r, e, O', U', rfl, a⟩ := fin
    exact ⟨O', U', e, a⟩
  · rintro k s hk ⟨O', U', rfl, so', su', hco⟩
    left
    try dsimp only
    have lk := hl (p + k) (by omega) (by omega)
    have ins : ds_ins (q - p) (R + 1) (8 * R + k) = true := ins_mk (by omega)
    have c97 : nI (B (p + k)) - 97 = nI (B (p + k) - 97) := n_sub (a := 97) (by omega)
    obtain ⟨O2, U2, e, so2, su2, hco2⟩ := p_colourCells so' su' (sub_bit (show 8 * R + k < 64 by omega) ins) (c := B (p + k) - 97) (by omega)
    unfold fX5_takeRow_86_b
    rw [if_neg (nI_ge (show p + k < q by omega) (by omega)), n_sub (show p ≤ p + k by omega), show p + k - p = k by omega, n_pred (by omega), show R + 1 - 1 = R by omega, p_bit (by omega) (by omega), Option.bind_some, t_byteAt ht (show p + k < L by omega), Option.bind_some, c97, e, Option.bind_some, nI_1]
    refine ⟨_, rfl, O2, U2, rfl, so2, su2, fun i hi => ?_⟩
    rw [hco2 i hi, b_bit _ (show 8 * R + k < 64 by omega) i hi, hco i hi]
    by_cases ee : i = 8 * R + k
    · rw [decide_eq_true ee, if_pos rfl, if_pos (by omega), show i % 8 = k by omega]
    · rw [decide_eq_false ee, if_neg (by decide)]
      by_cases cc : i / 8 = R ∧ i % 8 < k
      · rw [if_pos cc, if_pos (by omega)]
      · rw [if_neg cc, if_neg (by omega)]
  · rintro s ⟨O', U', rfl, so', su', hco⟩
    try dsimp only
    unfold fX5_takeRow_86_b
    rw [if_pos (nI_le (by omega) (by omega))]
    exact ⟨_, rfl, O', U', rfl, so', su', hco⟩
theorem m_put {L : Nat} {B : Nat → Nat} {by_ tx : Nat → Int32} (ht : ds_Tx L B by_ tx) {p q : Nat} (hp : p ≤ q) (hq : q ≤ L) (h8 : q ≤ p + 8) (hl : ∀ i, p ≤ i → i < q → 97 ≤ B i ∧ B i ≤ 100) {t : Nat} (h7 : t < 8) {told : Nat → Int32} (h1 : told 1 = nI t) {r : Int32 × Int32 × Int32 × Int32 × Int64} (hr : fX8_token (nI q) (nI L) tx = some r) (wr ba bd : Int32) :
    ∃ told', fX8_line_126 (nI q) (nI L) (nI p) (nI (q - p)) wr ba bd told tx = some (1, r.1, r.2.1, r.2.2.1, r.2.2.2.1, r.2.2.2.2, wr, ba, bd, told') ∧ told' 1 = nI (t + 1) ∧ told' 0 = told 0 ∧ told' 2 = told 2 ∧ ∀ i, i < 64 → told' (3 + i) = if i / 8 = t ∧ i % 8 < q - p then nI (B (p + i % 8) - 97) else told (3 + i) := by
  have l := ht.1
  obtain ⟨G, hG⟩ : ∃ G : Nat → Nat → Int32, ∀ k j, G k j = if 3 + 8 * t ≤ j ∧ j < 3 + 8 * t + k then nI (B (p + (j - 3 - 8 * t)) - 97) else told j := ⟨_, fun _ _ => rfl⟩
  have G0 : G 0 = told := by funext j; rw [hG, if_neg (by omega)]
  unfold fX8_line_126 fX8_line_128
  have fin := ds_it_up (fun s : Int32 × (Nat → Int32) => fX8_line_128_b (nI q) (nI L) (nI p) (nI (q - p)) wr ba bd tx s.1 s.2) (fun k => (nI k, G k)) (q - p) 1000 (some (1, r.1, r.2.1, r.2.2.1, r.2.2.2.1, r.2.2.2.2, wr, ba, bd, upd (G (q - p)) 1 (nI (t + 1)))) (fun k hk => by
    try dsimp only
    have lk := hl (p + k) (by omega) (by omega)
    have tb := (ht.2 (p + k) (by omega)).2.2.2 (by omega)
    have c97 : nI (B (p + k)) - 97 = nI (B (p + k) - 97) := n_sub (a := 97) (by omega)
    have g1 : G k 1 = nI t := by rw [hG, if_neg (by omega), h1]
    have ix : (3 + 8 * nI t) + nI k = nI (3 + (8 * t + k)) := ix3 k t
    unfold fX8_line_128_b
    rw [if_neg (nI_ge hk (by omega)), l_1, g1, ix, nI_add, if_pos (in_nI (show p + k < 1000 by omega) (by omega)), if_pos (in_nI (show 3 + (8 * t + k) < 67 by omega) (by omega)), nI_clamp (by omega), nI_clamp (by omega), tb, c97, nI_1]
    have : upd (G k) (3 + (8 * t + k)) (nI (B (p + k) - 97)) = G (k + 1) := by
      funext j
      by_cases e : j = 3 + (8 * t + k)
      · rw [e, upd_at, hG, if_pos (by omega), show 3 + (8 * t + k) - 3 - 8 * t = k by omega]
      · rw [upd_ne _ _ e, hG, hG]
        by_cases d : 3 + 8 * t ≤ j ∧ j < 3 + 8 * t + k
        · rw [if_pos d, if_pos (by omega)]
        · rw [if_neg d, if_neg (by omega)]
    rw [this]) (by
    try dsimp only
    have g1 : G (q - p) 1 = nI t := by rw [hG, if_neg (by omega), h1]
    unfold fX8_line_128_b fX8_line_174 fX8_line_184
    rw [if_pos (nI_le (Nat.le_refl _) (by omega)), hr, Option.bind_some, l_1, g1, nI_1]
    rfl) (by omega)
  rw [← G0]
  refine ⟨_, fin, upd_at _ _ _, by rw [upd_ne _ _ (by omega), hG, if_neg (by omega), hG, if_neg (by omega)], by rw [upd_ne _ _ (by omega), hG, if_neg (by omega), hG, if_neg (by omega)], fun i hi => ?_⟩
  rw [upd_ne _ _ (by omega), hG]
  by_cases d : i / 8 = t ∧ i % 8 < q - p
  · rw [if_pos d, if_pos (by omega), show 3 + i - 3 - 8 * t = i % 8 by omega]
  · rw [if_neg d, if_neg (by omega), hG, if_neg (by omega)]
theorem row_step {L : Nat} {B : Nat → Nat} {by_ tx : Nat → Int32} (ht : ds_Tx L B by_ tx) {p q : Nat} (hw : ds_WE L B p q) (pq : p < q) (h8 : q ≤ p + 8) (hle : ∀ i, p ≤ i → i < q → B i ≤ 100) {fa pl W H X : Int32} {O U : Int64} {R : Nat} (hR : R < 500) {told : Nat → Int32} (hD : ds_DR fa R W H X O U told) {r : Int32 × Int32 × Int32 × Int32 × Int64} (hr : fX8_token (nI q) (nI L) tx = some r) (wr : Int32) (wd : Int64) :
    ∃ fa' pl' W' H' O' U' told', fX5_takeRow (nI L) fa pl (nI (R + 1)) W H O U by_ (nI p) (nI q) = some (fa', pl', W', H', O', U') ∧ fX8_line_58 (nI q) (nI L) (nI p) (nI (q - p)) 2 wd wr pl fa told tx = some (1, r.1, r.2.1, r.2.2.1, r.2.2.2.1, r.2.2.2.2, wr, pl', fa', told') ∧ ds_DR fa' (R + 1) W' H' X O' U' told' := by
  obtain ⟨w1, w2, w3, w4⟩ := id hw
  obtain ⟨d1, d2, d3⟩ := hD
  have l := ht.1
  have hl : ∀ i, p ≤ i → i < q → 97 ≤ B i ∧ B i ≤ 100 := by
    intro i h1 h2
    have := w3 i h1 h2
    unfold ds_lt at this
    simp at this
    exact ⟨this.1, hle i h1 h2⟩
  obtain ⟨b, eb, hb⟩ := m_isRow ht hw
  have bt : b = true := hb.mpr ⟨h8, hle⟩
  subst bt
  unfold fX5_takeRow fX8_line_58
  rw [eb, Option.bind_some, if_neg (show ¬ ds_q true = 0 by decide), l_1, l_0, d1, n_sub w1]
  have r1 : nI (R + 1) = 1 ↔ R = 0 := ⟨fun z => by have := (n_inj (b := 1) (by omega) (by omega)).mp z; omega, fun z => by rw [z]; rfl⟩
  have t8 : nI (min R 8) = 8 ↔ 8 ≤ R := ⟨fun z => by have := (n_inj (b := 8) (by omega) (by omega)).mp z; omega, fun z => by rw [show min R 8 = 8 by omega]; rfl⟩
  have t0 : nI (min R 8) = 0 ↔ R = 0 := ⟨fun z => by have := (n_eq0 (by omega)).mp z; omega, fun z => by rw [show min R 8 = 0 by omega]; rfl⟩
  by_cases f0 : fa = 0
  rotate_left
  · -- there is a fault already
    have R1 := d3 f0
    have cls : fX5_takeRow_15 (nI L) fa pl (nI (R + 1)) W H O U by_ (nI p) (nI q) = some (fa, pl, W, H, O, U) := by
      unfold fX5_takeRow_15 fX5_takeRow_41 fX5_takeRow_68
      rw [if_neg f0, if_neg f0, if_neg f0]
    rw [if_neg (fun z => by have := r1.mp z; omega), cls]
    have ib : ∀ k : Int32, fX8_isBad (nI p) pl fa k = some (pl, fa) := by
      intro k; unfold fX8_isBad; rw [if_neg f0]
    by_cases c8 : 8 ≤ R
    · rw [if_pos (t8.mpr c8), ib, Option.bind_some]
      unfold fX8_line_184
      rw [hr, Option.bind_some]
      exact ⟨_, _, _, _, _, _, _, rfl, rfl, by rw [d1, show min (R + 1) 8 = min R 8 by omega], fun z => absurd z f0, fun _ => by omega⟩
    · rw [if_neg (fun z => c8 (t8.mp z)), if_neg (fun z => by have := t0.mp z; omega)]
      obtain ⟨told', e, g1, g2, g3, g4⟩ := m_put ht w1 w2 h8 hl (t := R) (by omega) (told := told) (by rw [d1, show min R 8 = R by omega]) hr wr pl fa
      have : fX8_line_108 (nI q) (nI L) (nI p) (nI (q - p)) wr pl fa told tx = fX8_line_126 (nI q) (nI L) (nI p) (nI (q - p)) wr pl fa told tx := by
        unfold fX8_line_108
        rw [ib, Option.bind_some]
        split <;> rfl
      rw [this, e]
      exact ⟨_, _, _, _, _, _, _, rfl, rfl, by rw [g1, show min (R + 1) 8 = R + 1 by omega], fun z => absurd z f0, fun _ => by omega⟩
  · subst f0
    obtain ⟨R8, hex, x1, x2, z0, z1⟩ := d2 rfl
    have ib : ∀ k : Int32, fX8_isBad (nI p) pl 0 k = some (nI p, k) := by
      intro k; unfold fX8_isBad; rw [if_pos rfl]
    by_cases c8 : R = 8
    · -- a ninth row
      subst c8
      obtain ⟨w, hk, e1, e2, e3, so, su, hc⟩ := z1 (by omega)
      rw [if_neg (fun z => by have := r1.mp z; omega), if_pos (t8.mpr (by omega)), ib, Option.bind_some]
      unfold fX5_takeRow_15 fX5_takeRow_41 fX5_takeRow_68 fX8_line_184
      rw [if_pos rfl, if_neg (show ¬ nI (8 + 1) ≤ 8 by decide), if_neg (show ¬ (3 : Int32) = 0 by decide), if_neg (show ¬ (3 : Int32) = 0 by decide), hr, Option.bind_some]
      exact ⟨_, _, _, _, _, _, _, rfl, rfl, by rw [d1]; rfl, fun z => absurd z (by decide), fun _ => by omega⟩
    · have le8 : nI (R + 1) ≤ 8 := (n_le (b := 8) (by omega) (by omega)).mpr (by omega)
      by_cases c0 : R = 0
      · -- the first row
        subst c0
        obtain ⟨y1, y2, y3, y4⟩ := z0 rfl
        subst y1 y2
        rw [if_pos (r1.mpr rfl), if_neg (fun z => by have := t8.mp z; omega), if_pos (t0.mpr rfl)]
        obtain ⟨O', U', ep, so', su', hco⟩ := t_paint ht w1 w2 h8 hl (R := 0) (by omega) (O := 0) (U := 0) sub_0 sub_0 0 pl (nI (q - p)) (nI (0 + 1))
        obtain ⟨told', e, g1, g2, g3, g4⟩ := m_put ht w1 w2 h8 hl (t := 0) (by omega) (told := upd told 0 (nI (q - p))) (by rw [upd_ne _ _ (by omega), d1]; rfl) hr wr pl 0
        unfold fX5_takeRow_15 fX5_takeRow_41 fX5_takeRow_68 fX8_line_108
        rw [if_pos rfl, if_pos le8, if_pos rfl, n_sub w1, if_pos rfl, if_pos rfl, ep, l_0, upd_at, if_pos rfl, e]
        refine ⟨_, _, _, _, _, _, _, rfl, rfl, g1, fun _ => ⟨by omega, hex, x1, by rw [g3, upd_ne _ _ (by omega), x2], fun z => by omega, fun _ => ⟨q - p, ⟨by omega, by omega, by omega, by omega⟩, rfl, rfl, by rw [g2, upd_at], so', su', fun i hi => ?_⟩⟩, fun z => absurd rfl z⟩
        have zz : ds_co 0 0 i = 0 := by unfold ds_co; rw [b_zero]; rfl
        rw [g4 i hi, hco i hi]
        by_cases cc : i / 8 = 0 ∧ i % 8 < q - p
        · rw [if_pos cc, if_pos cc]
        · rw [if_neg cc, if_neg cc, upd_ne _ _ (by omega), y4 i hi, zz]; rfl
      · -- a further row
        obtain ⟨w, hk, e1, e2, e3, so, su, hc⟩ := z1 (by omega)
        subst e1 e2
        obtain ⟨k1, k2, k3, k4⟩ := id hk
        rw [if_neg (fun z => c0 (r1.mp z)), if_neg (fun z => by have := t8.mp z; omega), if_neg (fun z => c0 (t0.mp z))]
        have tR : told 1 = nI R := by rw [d1, show min R 8 = R by omega]
        unfold fX5_takeRow_15 fX5_takeRow_41 fX8_line_108
        rw [if_pos rfl, if_pos le8, if_pos rfl, n_sub w1, l_0, e3]
        by_cases cw : q - p = w
        · have cw' : nI (q - p) = nI w := congrArg nI cw
          have so2 : ds_sub (q - p) (R + 1) O := by
            rw [cw]; intro i hi z; have := so i hi z; omega
          have su2 : ds_sub (q - p) (R + 1) U := by
            rw [cw]; intro i hi z; have := su i hi z; omega
          obtain ⟨O', U', ep, so', su', hco⟩ := t_paint ht w1 w2 h8 hl (R := R) (by omega) so2 su2 0 pl (nI w) (nI (R + 1))
          obtain ⟨told', e, g1, g2, g3, g4⟩ := m_put ht w1 w2 h8 hl (t := R) (by omega) (told := told) tR hr wr pl 0
          rw [if_pos cw', if_pos cw']
          unfold fX5_takeRow_68
          rw [if_pos rfl, ep, e]
          refine ⟨_, _, _, _, _, _, _, rfl, rfl, by rw [g1, show min (R + 1) 8 = R + 1 by omega], fun _ => ⟨by omega, hex, x1, by rw [g3, x2], fun z => by omega, fun _ => ⟨w, ⟨k1, k2, by omega, by omega⟩, rfl, rfl, by rw [g2, e3], by rw [← cw]; exact so', by rw [← cw]; exact su', fun i hi => ?_⟩⟩, fun z => absurd rfl z⟩
          rw [g4 i hi, hco i hi]
          by_cases cc : i / 8 = R ∧ i % 8 < q - p
          · rw [if_pos cc, if_pos cc]
          · rw [if_neg cc, if_neg cc, hc i hi]
        · have cw' : ¬ nI (q - p) = nI w := fun z => cw ((n_inj (by omega) (by omega)).mp z)
          obtain ⟨told', e, g1, g2, g3, g4⟩ := m_put ht w1 w2 h8 hl (t := R) (by omega) (told := told) tR hr wr (nI p) 2
          rw [if_neg cw', if_neg cw', ib, Option.bind_some]
          unfold fX5_takeRow_68
          rw [if_neg (show ¬ (2 : Int32) = 0 by decide), e]
          exact ⟨_, _, _, _, _, _, _, rfl, rfl, by rw [g1, show min (R + 1) 8 = R + 1 by omega], fun z => absurd z (by decide), fun _ => by omega⟩
