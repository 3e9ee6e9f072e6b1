/-! texts: reading, on both sides -/
theorem word_step {L : Nat} {B : Nat → Nat} {by_ tx : Nat → Int32} (ht : ds_Tx L B by_ tx) {p q : Nat} (hw : ds_WE L B p q) (pq : p < q) {fa pl W H X : Int32} {O U : Int64} {R : Nat} (hR : R < 500) {told : Nat → Int32} (hD : ds_DR fa R W H X O U told) {r : Int32 × Int32 × Int32 × Int32 × Int64} (hr : fX8_token (nI q) (nI L) tx = some r) (wr : Int32) :
    (∃ fa' pl' R' W' H' X' O' U' told', R' ≤ R + 1 ∧ fX5_takesWord (nI L) fa pl (nI R) by_ W H X O U (nI p) (nI q) = some (1, fa', pl', nI R', W', H', X', O', U') ∧ fX8_line (nI q) (nI L) (nI p) (nI (q - p)) 2 (if q - p ≤ 8 then ds_wv B p (q - p) else 0) wr pl fa told tx = some (1, r.1, r.2.1, r.2.2.1, r.2.2.2.1, r.2.2.2.2, wr, pl', fa', told') ∧ ds_DR fa' R' W' H' X' O' U' told') ∨ (fX5_takesWord (nI L) fa pl (nI R) by_ W H X O U (nI p) (nI q) = some (0, fa, pl, nI R, W, H, X, O, U) ∧ fX8_line (nI q) (nI L) (nI p) (nI (q - p)) 2 (if q - p ≤ 8 then ds_wv B p (q - p) else 0) wr pl fa told tx = some (0, nI q, nI p, nI (q - p), 2, (if q - p ≤ 8 then ds_wv B p (q - p) else 0), nI p, pl, fa, told)) := by
  obtain ⟨w1, w2, w3, w4⟩ := id hw
  obtain ⟨wh, ws⟩ := m_words ht hw pq
  obtain ⟨bh, eh, hh⟩ := t_isHex ht w1 w2
  obtain ⟨bs, es, hs⟩ := t_isSq ht w1 w2
  obtain ⟨br, er, hbr⟩ := t_isRow ht w1 w2
  obtain ⟨br2, er2, hbr2⟩ := m_isRow ht hw
  have wh' := wh.trans hh.symm
  have ws' := ws.trans hs.symm
  generalize (if q - p ≤ 8 then ds_wv B p (q - p) else 0) = wd at wh' ws' ⊢
  have setHex : ∀ b : Bool, ds_DR fa R W H (ds_q b) O U (upd told 2 (ds_q b)) := by
    intro b
    obtain ⟨d1, d2, d3⟩ := hD
    refine ⟨by rw [upd_ne _ _ (by omega), d1], fun f0 => ?_, d3⟩
    obtain ⟨R8, hex, x1, x2, z0, z1⟩ := d2 f0
    refine ⟨R8, b, rfl, upd_at _ _ _, fun z => ?_, fun z => ?_⟩
    · obtain ⟨y1, y2, y3, y4⟩ := z0 z
      exact ⟨y1, y2, by rw [upd_ne _ _ (by omega), y3], fun i hi => by rw [upd_ne _ _ (by omega), y4 i hi]⟩
    · obtain ⟨w, hk, e1, e2, e3, so, su, hc⟩ := z1 z
      exact ⟨w, hk, e1, e2, by rw [upd_ne _ _ (by omega), e3], so, su, fun i hi => by rw [upd_ne _ _ (by omega), hc i hi]⟩
  have l51 : ∀ b : Bool, fX8_line_51 (nI q) (nI L) wr pl fa told tx (ds_q b) 2 = some (1, r.1, r.2.1, r.2.2.1, r.2.2.2.1, r.2.2.2.2, wr, pl, fa, upd told 2 (ds_q b)) := by
    intro b
    unfold fX8_line_51
    rw [if_pos (by decide), hr, Option.bind_some]; rfl
  unfold fX5_takesWord fX8_line
  rw [eh, Option.bind_some, if_pos rfl]
  cases bh
  · rw [if_pos (show ds_q false = 0 from rfl), es, Option.bind_some]
    have nh : ¬ wd = 6841720 := fun z => by have := wh'.mp z; cases this
    cases bs
    · have ns : ¬ wd = 126931137819237 := fun z => by have := ws'.mp z; cases this
      rw [if_pos (show ds_q false = 0 from rfl), er, Option.bind_some, if_neg (fun z => ns ((b_cmp _ _).mp z)), if_neg (fun z => nh ((b_cmp _ _).mp z))]
      cases br
      · right
        refine ⟨rfl, ?_⟩
        have : br2 = false := by
          cases br2
          · rfl
          · have := hbr.mpr (hbr2.mp rfl); cases this
        subst this
        unfold fX8_line_58 fX8_fails
        rw [er2, Option.bind_some, if_pos (show ds_q false = 0 from rfl), Option.bind_some, if_pos (Or.inl rfl)]
      · left
        obtain ⟨h8, hle⟩ := hbr.mp rfl
        obtain ⟨fa', pl', W', H', O', U', told', e1, e2, hD'⟩ := row_step ht hw pq h8 hle hR (pl := pl) hD hr wr wd
        rw [if_neg (show ¬ ds_q true = 0 by decide), nI_1, e1, Option.bind_some, e2]
        exact ⟨_, _, R + 1, _, _, _, _, _, _, by omega, rfl, rfl, hD'⟩
    · left
      have se : wd = 126931137819237 := ws'.mpr rfl
      unfold fX5_takesWord_26 fX8_line_30
      rw [if_neg (show ¬ ds_q true = 0 by decide), if_pos (q_01 false), if_pos ((b_cmp _ _).mpr se), if_neg (fun z => nh ((b_cmp _ _).mp z))]
      have := l51 false
      rw [show ds_q false = (0 : Int32) from rfl] at this
      rw [this]
      exact ⟨_, _, R, _, _, _, _, _, _, by omega, rfl, rfl, setHex false⟩
  · left
    have he : wd = 6841720 := wh'.mpr rfl
    have ns : ¬ wd = 126931137819237 := by rw [he]; decide
    unfold fX5_takesWord_26 fX8_line_30
    rw [if_neg (show ¬ ds_q true = 0 by decide), if_pos (q_01 true), if_neg (fun z => ns ((b_cmp _ _).mp z)), if_pos ((b_cmp _ _).mpr he), if_pos ((b_cmp _ _).mpr he)]
    have := l51 true
    rw [show ds_q true = (1 : Int32) from rfl] at this
    rw [this]
    exact ⟨_, _, R, _, _, _, _, _, _, by omega, rfl, rfl, setHex true⟩
abbrev ds_cT : Type := Int32 × Int32 × Int32 × Int32 × Int32 × Int32 × Int32 × Int32 × Int32 × Int64 × Int64
abbrev ds_cR : Type := Int32 × Int32 × Int32 × Int32 × Int32 × Int32 × Int32 × Int64 × Int64
abbrev ds_rT : Type := Int32 × Int32 × Int32 × Int32 × Int32 × Int64 × Int32 × Int32 × Int32 × (Nat → Int32)
abbrev ds_rR : Type := Int32 × Int32 × Int32 × Int32 × Int32 × Int32 × Int32 × Int32 × Int64 × Int32 × Int32 × Int32 × (Nat → Int32) × (Nat → Int32)
def ds_CB (L : Nat) (by_ : Nat → Int32) : ds_cT → Option (ds_cT ⊕ ds_cR) := fun s => fX5_firstMisfit_7_b (nI L) by_ s.1 s.2.1 s.2.2.1 s.2.2.2.1 s.2.2.2.2.1 s.2.2.2.2.2.1 s.2.2.2.2.2.2.1 s.2.2.2.2.2.2.2.1 s.2.2.2.2.2.2.2.2.1 s.2.2.2.2.2.2.2.2.2.1 s.2.2.2.2.2.2.2.2.2.2
def ds_RB (ra ud : Int32) (L : Nat) (al tx : Nat → Int32) : ds_rT → Option (ds_rT ⊕ ds_rR) := fun s => fX8_read_66_b ra ud (nI L) al tx s.1 s.2.1 s.2.2.1 s.2.2.2.1 s.2.2.2.2.1 s.2.2.2.2.2.1 s.2.2.2.2.2.2.1 s.2.2.2.2.2.2.2.1 s.2.2.2.2.2.2.2.2.1 s.2.2.2.2.2.2.2.2.2
def ds_FN (ra ud : Int32) (al : Nat → Int32) (cr : ds_cR) (rr : ds_rR) : Prop := ∃ (m fa pl : Int32) (R : Nat) (W H X : Int32) (O U : Int64) (a1 a2 a3 a4 a5 : Int32) (a6 : Int64) (a7 a8 a9 : Int32) (told : Nat → Int32), cr = (m, fa, pl, nI R, W, H, X, O, U) ∧
  ((∃ x, x ≤ 200 ∧ m = nI x ∧ rr = (-1, ra, ud, a1, a2, a3, a4, a5, a6, a7, a8, a9, upd (upd al 68 1) 69 (nI x), told)) ∨
   (m = -1 ∧ ¬ fa = 0 ∧ rr = (-1, ra, ud, a1, a2, a3, a4, a5, a6, a7, a8, a9, upd (upd al 68 fa) 69 pl, told)) ∨
   (m = -1 ∧ fa = 0 ∧ ds_DR 0 R W H X O U told ∧ 1 ≤ R ∧ ∃ al', rr = (al' 0 * al' 1, ra, 0, a1, a2, a3, a4, a5, a6, a7, a8, a9, al', told) ∧ (∀ j, j < 67 → al' j = told j) ∧ ∀ j, 67 ≤ j → al' j = upd (upd al 68 0) 69 pl j))
theorem x_exit0 (ra ud a1 a2 a3 a4 a5 : Int32) (a6 : Int64) (a7 a8 a9 : Int32) (al told : Nat → Int32) : fX8_read_110 ra ud a1 a2 a3 a4 a5 a6 a7 a8 a9 al told 0 = some (-1, ra, ud, a1, a2, a3, a4, a5, a6, a7, a8, a9, upd (upd al 68 1) 69 a7, told) := by
  unfold fX8_read_110 fX8_read_128 fX8_read_146 fX8_read_168
  rw [if_pos rfl, if_pos rfl, if_pos (by decide), if_pos rfl, if_pos (by decide), if_neg]
  · rfl
  · show ¬ upd (upd al 68 1) 69 a7 68 = 0
    rw [upd_ne _ _ (by omega), upd_at]; decide
theorem x_exit1 (ra ud a1 a2 a3 a4 a5 : Int32) (a6 : Int64) (a7 a8 a9 : Int32) (al : Nat → Int32) {told : Nat → Int32} (h : told 1 = 0) : fX8_read_110 ra ud a1 a2 a3 a4 a5 a6 a7 a8 a9 al told 1 = some (-1, ra, ud, a1, a2, a3, a4, a5, a6, a3, a8, a9, upd (upd al 68 1) 69 a3, told) := by
  have e := x_exit0 ra ud a1 a2 a3 a4 a5 a6 a3 a8 a9 al told
  unfold fX8_read_110 at e ⊢
  rw [if_pos rfl] at e
  unfold fX8_fails
  rw [if_neg (show ¬ (1 : Int32) = 0 by decide), l_1, h, if_pos rfl, Option.bind_some]
  exact e
theorem x_exit2 (ra ud a1 a2 a3 a4 a5 : Int32) (a6 : Int64) (a7 a8 a9 : Int32) (al : Nat → Int32) {told : Nat → Int32} (h : ¬ told 1 = 0) (h9 : ¬ a9 = 0) : fX8_read_110 ra ud a1 a2 a3 a4 a5 a6 a7 a8 a9 al told 1 = some (-1, ra, ud, a1, a2, a3, a4, a5, a6, a7, a8, a9, upd (upd al 68 a9) 69 a8, told) := by
  unfold fX8_read_110 fX8_read_128 fX8_read_146 fX8_read_168
  rw [if_neg (show ¬ (1 : Int32) = 0 by decide), l_1, if_neg h, if_neg (show ¬ (1 : Int32) = 0 by decide), if_pos (by decide), if_neg (show ¬ (1 : Int32) = 0 by decide), if_pos (by decide), if_neg]
  · rfl
  · show ¬ upd (upd al 68 a9) 69 a8 68 = 0
    rw [upd_ne _ _ (by omega), upd_at]; exact h9
theorem x_exit3 (ra ud a1 a2 a3 a4 a5 : Int32) (a6 : Int64) (a7 a8 : Int32) (al : Nat → Int32) {told : Nat → Int32} (h : ¬ told 1 = 0) : ∃ al', fX8_read_110 ra ud a1 a2 a3 a4 a5 a6 a7 a8 0 al told 1 = some (al' 0 * al' 1, ra, 0, a1, a2, a3, a4, a5, a6, a7, a8, 0, al', told) ∧ (∀ j, j < 67 → al' j = told j) ∧ ∀ j, 67 ≤ j → al' j = upd (upd al 68 0) 69 a8 j := by
  have go : fX8_read_110 ra ud a1 a2 a3 a4 a5 a6 a7 a8 0 al told 1 = fX8_read_183 ra a1 a2 a3 a4 a5 a6 a7 a8 0 told 0 (upd (upd al 68 0) 69 a8) := by
    unfold fX8_read_110 fX8_read_128 fX8_read_146 fX8_read_168
    rw [if_neg (show ¬ (1 : Int32) = 0 by decide), l_1, if_neg h, if_neg (show ¬ (1 : Int32) = 0 by decide), if_pos (by decide), if_neg (show ¬ (1 : Int32) = 0 by decide), if_pos (by decide), if_pos]
    · rfl
    · show upd (upd al 68 0) 69 a8 68 = 0
      rw [upd_ne _ _ (by omega), upd_at]
  rw [go]
  generalize upd (upd al 68 0) 69 a8 = al0
  unfold fX8_read_183
  have fin := ds_it_inv (fun q : Int32 × (Nat → Int32) => fX8_read_183_b ra a1 a2 a3 a4 a5 a6 a7 a8 0 told q.1 q.2) (fun k q => ∃ al', q = (nI k, al') ∧ (∀ j, j < k → al' j = told j) ∧ ∀ j, k ≤ j → al' j = al0 j) (fun r => ∃ al', r = (al' 0 * al' 1, ra, 0, a1, a2, a3, a4, a5, a6, a7, a8, 0, al', told) ∧ (∀ j, j < 67 → al' j = told j) ∧ ∀ j, 67 ≤ j → al' j = al0 j) 67 1000 0 (0, al0) (Nat.zero_le _) ⟨al0, rfl, fun j hj => by omega, fun _ _ => rfl⟩ (by omega) ?_ ?_
  · obtain ⟨r, e, al', rfl, q⟩ := fin
    exact ⟨al', e, q⟩
  · rintro k q hk ⟨al', rfl, h1, h2⟩
    left
    try dsimp only
    unfold fX8_read_183_b
    rw [show (67 : Int32) = nI 67 from rfl, if_neg (nI_ge hk (by omega)), if_pos (in_nI hk (by omega)), if_pos (in_nI (show k < 350 by omega) (by omega)), nI_clamp (by omega), nI_1]
    refine ⟨_, rfl, _, rfl, fun j hj => ?_, fun j hj => ?_⟩
    · by_cases e : j = k
      · rw [e, upd_at]
      · rw [upd_ne _ _ e]; exact h1 j (by omega)
    · rw [upd_ne _ _ (by omega)]; exact h2 j (by omega)
  · rintro q ⟨al', rfl, h1, h2⟩
    try dsimp only
    unfold fX8_read_183_b fX8_read_207
    rw [if_pos (by decide)]
    exact ⟨_, rfl, al', rfl, h1, h2⟩
theorem c_skip {L : Nat} {B : Nat → Nat} {by_ tx : Nat → Int32} (ht : ds_Tx L B by_ tx) {due : Int32} {e : Nat} {fa pl rw_ W H X : Int32} {O U : Int64} {cr : ds_cR} {k p : Nat} (hp : p ≤ L) (hr : ds_RN (ds_CB L by_) k (due, nI e, nI p, fa, pl, rw_, W, H, X, O, U) cr) : ∀ d a, a + d = p → e ≤ a → (∀ i, a ≤ i → i < p → ds_ws B i = true) → ds_RN (ds_CB L by_) (k + d) (due, nI e, nI a, fa, pl, rw_, W, H, X, O, U) cr := by
  intro d
  have l := ht.1
  induction d with
  | zero => intro a h _ _; rw [show a = p by omega]; exact hr
  | succ d ih =>
    intro a h he hw
    have ws := hw a (by omega) (by omega)
    have ba := (ht.2 a (by omega)).1
    have nl : ds_lt B a = false := by
      cases c : ds_lt B a
      · rfl
      · rw [lt_ws c] at ws; cases ws
    refine RN_step (s' := (due, nI e, nI (a + 1), fa, pl, rw_, W, H, X, O, U)) ?_ (ih (a + 1) (by omega) (by omega) (fun i h1 h2 => hw i (by omega) h2)) (by omega)
    show fX5_firstMisfit_7_b (nI L) by_ due (nI e) (nI a) fa pl rw_ W H X O U = _
    have mx : ds_max (nI a + 1) (nI e) = nI (a + 1) := by
      unfold ds_max
      rw [nI_1, if_neg (fun z => by have := (n_ltI (by omega) (by omega)).mp z; omega)]
    unfold ds_ws at ws
    unfold fX5_firstMisfit_7_b fX5_firstMisfit_78 fX5_firstMisfit_95
    have n59 : ¬ nI (B a) = 59 := fun z => by
      have := (n_inj (b := 59) (by omega) (by omega)).mp z
      rw [this] at ws; exact absurd ws (by decide)
    rw [if_neg (nI_ge (show a < L by omega) (by omega)), t_byteAt ht (show a < L by omega), Option.bind_some, t_isLetter ba, Option.bind_some, nl, if_pos (show ds_q false = 0 from rfl), if_neg n59, mx]
    by_cases c : B a = 32
    · rw [if_pos (show nI (B a) = 32 by rw [c]; rfl)]
    · have c2 : B a = 10 := by
        rw [decide_eq_false c, Bool.or_false] at ws
        exact of_decide_eq_true ws
      rw [if_neg (show ¬ nI (B a) = 32 from fun z => c ((n_inj (b := 32) (by omega) (by omega)).mp z)), if_pos (show nI (B a) = 10 by rw [c2]; rfl)]
-- one step of the class at a sign that is no letter and no blank
theorem c_other {L : Nat} {B : Nat → Nat} {by_ tx : Nat → Int32} (ht : ds_Tx L B by_ tx) {p : Nat} (hp : p < L) (nl : ds_lt B p = false) (nw : ds_ws B p = false) {due : Int32} (hd : due = 0 ∨ ¬ B p = 59) {ee fa pl rw_ W H X : Int32} {O U : Int64} : ds_CB L by_ (due, ee, nI p, fa, pl, rw_, W, H, X, O, U) = some (.inr (nI p, fa, pl, rw_, W, H, X, O, U)) := by
  have l := ht.1
  have bp := (ht.2 p hp).1
  unfold ds_ws at nw
  simp at nw
  have n78 : fX5_firstMisfit_78 fa pl rw_ W H X O U due ee (nI p) (nI (B p)) = some (.inr (nI p, fa, pl, rw_, W, H, X, O, U)) := by
    unfold fX5_firstMisfit_78
    rw [if_neg (show ¬ nI (B p) = 32 from fun z => nw.2 ((n_inj (b := 32) (by omega) (by omega)).mp z)), if_neg (show ¬ nI (B p) = 10 from fun z => nw.1 ((n_inj (b := 10) (by omega) (by omega)).mp z))]
  show fX5_firstMisfit_7_b (nI L) by_ due ee (nI p) fa pl rw_ W H X O U = _
  unfold fX5_firstMisfit_7_b
  rw [if_neg (nI_ge hp (by omega)), t_byteAt ht hp, Option.bind_some, t_isLetter bp, Option.bind_some, nl, if_pos (show ds_q false = 0 from rfl), n78]
  by_cases c : nI (B p) = 59
  · rw [if_pos c]
    rcases hd with h | h
    · rw [if_pos h]
    · exact absurd ((n_inj (b := 59) (by omega) (by omega)).mp c) h
  · rw [if_neg c]
