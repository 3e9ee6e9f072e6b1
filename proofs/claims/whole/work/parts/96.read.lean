/-! texts: reading, both sides to the end -/
theorem r_fail {L : Nat} {al tx : Nat → Int32} {ra ud a1 a3 a4 a5 : Int32} {a6 : Int64} {x : Nat} {a8 a9 : Int32} {told : Nat → Int32} : ds_RN (ds_RB ra ud L al tx) 1 (0, a1, a3, a4, a5, a6, nI x, a8, a9, told) (-1, ra, ud, a1, nI L, a3, a4, a5, a6, nI x, a8, a9, upd (upd al 68 1) 69 (nI x), told) := by
  refine RN_end ?_ (by omega)
  show fX8_read_66_b ra ud (nI L) al tx 0 a1 a3 a4 a5 a6 (nI x) a8 a9 told = _
  unfold fX8_read_66_b
  rw [if_pos rfl, x_exit0]; rfl
theorem sim {L : Nat} {B : Nat → Nat} {by_ tx : Nat → Int32} (ht : ds_Tx L B by_ tx) (ra ud : Int32) (al : Nat → Int32) : ∀ d a, L - a ≤ d → ∀ p e R fa pl W H X O U told wr r, a ≤ L → ds_SK L B a p → e ≤ a → R ≤ a → ds_DR fa R W H X O U told → ds_tk L B p r →
    ∃ cr rr, ds_RN (ds_CB L by_) (L - a + 1) (0, nI e, nI a, fa, pl, nI R, W, H, X, O, U) cr ∧ ds_RN (ds_RB ra ud L al tx) (L - p + 2) (1, r.1, r.2.1, r.2.2.1, r.2.2.2.1, r.2.2.2.2, wr, pl, fa, told) rr ∧ ds_FN ra ud al cr rr := by
  have l := ht.1
  intro d
  induction d with
  | zero =>
    intro a hd p e R fa pl W H X O U told wr r haL hs he hRa hD hk
    obtain ⟨s1, s2, s3, s4⟩ := hs
    have aL : a = L := by omega
    have pL : p = L := by omega
    subst aL pL
    rcases hk with ⟨_, rfl⟩ | ⟨hp, _⟩ | ⟨hp, _⟩
    rotate_left
    · omega
    · omega
    have fin : ds_CB p by_ (0, nI e, nI p, fa, pl, nI R, W, H, X, O, U) = some (.inr (if R = 0 then nI p else -1, fa, pl, nI R, W, H, X, O, U)) := by
      show fX5_firstMisfit_7_b (nI p) by_ 0 (nI e) (nI p) fa pl (nI R) W H X O U = _
      unfold fX5_firstMisfit_7_b fX5_firstMisfit_108 fX5_firstMisfit_119
      rw [if_pos (nI_le (Nat.le_refl _) (by omega)), if_pos rfl]
      by_cases c : R = 0
      · rw [if_pos ((n_eq0 (by omega)).mpr c), if_pos c]; rfl
      · rw [if_neg (fun z => c ((n_eq0 (by omega)).mp z)), if_neg c]; rfl
    have rx : ∀ {rr}, fX8_read_110 ra ud (nI p) (nI p) (nI p) 0 0 0 wr pl fa al told 1 = some rr → ds_RB ra ud p al tx (1, nI p, nI p, 0, 0, 0, wr, pl, fa, told) = some (.inr rr) := by
      intro rr h
      show fX8_read_66_b ra ud (nI p) al tx 1 (nI p) (nI p) 0 0 0 wr pl fa told = _
      unfold fX8_read_66_b
      rw [if_neg (show ¬ (1 : Int32) = 0 by decide), if_pos rfl, h]; rfl
    by_cases c : R = 0
    · rw [if_pos c] at fin
      have t1 : told 1 = 0 := by rw [hD.1, c]; rfl
      exact ⟨_, _, RN_end fin (by omega), RN_end (rx (x_exit1 ra ud (nI p) (nI p) (nI p) 0 0 0 wr pl fa al t1)) (by omega), _, _, _, R, _, _, _, _, _, _, _, _, _, _, _, _, _, _, _, rfl, Or.inl ⟨p, l, rfl, rfl⟩⟩
    · rw [if_neg c] at fin
      have t1 : ¬ told 1 = 0 := by
        rw [hD.1]
        intro z
        have := (n_eq0 (by omega)).mp z
        omega
      by_cases f0 : fa = 0
      · subst f0
        obtain ⟨al', e1, e2, e3⟩ := x_exit3 ra ud (nI p) (nI p) (nI p) 0 0 0 wr pl al t1
        exact ⟨_, _, RN_end fin (by omega), RN_end (rx e1) (by omega), _, _, _, R, _, _, _, _, _, _, _, _, _, _, _, _, _, _, _, rfl, Or.inr (Or.inr ⟨rfl, rfl, hD, by omega, al', rfl, e2, e3⟩)⟩
      · exact ⟨_, _, RN_end fin (by omega), RN_end (rx (x_exit2 ra ud (nI p) (nI p) (nI p) 0 0 0 wr pl fa al t1 f0)) (by omega), _, _, _, R, _, _, _, _, _, _, _, _, _, _, _, _, _, _, _, rfl, Or.inr (Or.inl ⟨rfl, f0, rfl⟩)⟩
  | succ d ih =>
    intro a hd p e R fa pl W H X O U told wr r haL hs he hRa hD hk
    obtain ⟨s1, s2, s3, s4⟩ := id hs
    -- past the blanks
    suffices hq : ∃ cr rr, ds_RN (ds_CB L by_) (L - p + 1) (0, nI e, nI p, fa, pl, nI R, W, H, X, O, U) cr ∧ ds_RN (ds_RB ra ud L al tx) (L - p + 2) (1, r.1, r.2.1, r.2.2.1, r.2.2.2.1, r.2.2.2.2, wr, pl, fa, told) rr ∧ ds_FN ra ud al cr rr by
      obtain ⟨cr, rr, q1, q2, q3⟩ := hq
      exact ⟨cr, rr, RN_mono (c_skip ht s2 q1 (p - a) a (by omega) he s3) (by omega), q2, q3⟩
    by_cases pa : a < p
    · obtain ⟨cr, rr, q1, q2, q3⟩ := ih p (by omega) p e R fa pl W H X O U told wr r s2 ⟨Nat.le_refl _, s2, fun i h1 h2 => by omega, s4⟩ (by omega) (by omega) hD hk
      exact ⟨cr, rr, q1, q2, q3⟩
    have epa : p = a := by omega
    subst epa
    rcases hk with ⟨pL, rfl⟩ | ⟨pL, lt, q, hw, pq, rfl⟩ | ⟨pL, nl, rfl⟩
    · exact ih p (by omega) p e R fa pl W H X O U told wr (nI L, nI L, 0, 0, 0) s2 hs he hRa hD (Or.inl ⟨pL, rfl⟩)
    · -- a word
      obtain ⟨w1, w2, w3, w4⟩ := id hw
      have bp := (ht.2 p pL).1
      obtain ⟨s, hss⟩ := SK_ex B w2
      obtain ⟨z1, z2, z3, z4⟩ := id hss
      obtain ⟨r2, er2, hk2⟩ := m_token ht hss
      have cw : ∀ due : Int32, fX5_firstMisfit_7_b (nI L) by_ due (nI e) (nI p) fa pl (nI R) W H X O U = if due = 0 then Option.bind (fX5_takesWord (nI L) fa pl (nI R) by_ W H X O U (nI p) (nI q)) (fun q48 => if q48.1 = 0 then some (.inr (nI p, q48.2.1, q48.2.2.1, q48.2.2.2.1, q48.2.2.2.2.1, q48.2.2.2.2.2.1, q48.2.2.2.2.2.2.1, q48.2.2.2.2.2.2.2.1, q48.2.2.2.2.2.2.2.2)) else fX5_firstMisfit_95 q48.2.1 q48.2.2.1 q48.2.2.2.1 q48.2.2.2.2.1 q48.2.2.2.2.2.1 q48.2.2.2.2.2.2.1 q48.2.2.2.2.2.2.2.1 q48.2.2.2.2.2.2.2.2 1 (nI q) (nI p)) else some (.inr (nI p, fa, pl, nI R, W, H, X, O, U)) := by
        intro due
        unfold fX5_firstMisfit_7_b
        rw [if_neg (nI_ge pL (by omega)), t_byteAt ht pL, Option.bind_some, t_isLetter bp, Option.bind_some, lt, if_neg (show ¬ ds_q true = 0 by decide), t_wordEnd ht hw, Option.bind_some]
      rcases word_step ht hw pq (show R < 500 by omega) (pl := pl) hD er2 wr with ⟨fa', pl', R', W', H', X', O', U', told', hR', ec, er, hD'⟩ | ⟨ec, er⟩
      · -- the class goes on behind the word, a sign being due
        have mx : ds_max (nI p + 1) (nI q) = nI q := by
          unfold ds_max
          rw [nI_1]
          by_cases c : p + 1 < q
          · rw [if_pos ((n_ltI (by omega) (by omega)).mpr c)]
          · rw [if_neg (fun z => c ((n_ltI (by omega) (by omega)).mp z)), show p + 1 = q by omega]
        have c1 : ds_CB L by_ (0, nI e, nI p, fa, pl, nI R, W, H, X, O, U) = some (.inl (1, nI q, nI q, fa', pl', nI R', W', H', X', O', U')) := by
          show fX5_firstMisfit_7_b (nI L) by_ 0 (nI e) (nI p) fa pl (nI R) W H X O U = _
          rw [cw 0, if_pos rfl, ec, Option.bind_some]
          dsimp only
          unfold fX5_firstMisfit_95
          rw [if_neg (show ¬ (1 : Int32) = 0 by decide), mx]
        have lift : ∀ {cr k}, ds_RN (ds_CB L by_) k (1, nI q, nI s, fa', pl', nI R', W', H', X', O', U') cr → k ≤ L - s + 1 → ds_RN (ds_CB L by_) (L - p + 1) (0, nI e, nI p, fa, pl, nI R, W, H, X, O, U) cr := by
          intro cr k h hk
          exact RN_step c1 (c_skip ht z2 h (s - q) q (by omega) (Nat.le_refl _) z3) (by omega)
        -- the reference behind the word, if no sign comes
        have nosign : ¬ r2.2.2.2.1 = 3 → r2.2.1 = nI s → ∃ rr, ds_RN (ds_RB ra ud L al tx) (L - p + 2) (1, nI q, nI p, nI (q - p), 2, (if q - p ≤ 8 then ds_wv B p (q - p) else 0), wr, pl, fa, told) rr ∧ ∃ a1 a2 a3 a4 a5 a6 a7 a8 a9 tl, rr = (-1, ra, ud, a1, a2, a3, a4, a5, a6, a7, a8, a9, upd (upd al 68 1) 69 (nI s), tl) := by
          intro n3 eb
          refine ⟨_, RN_step (s' := (0, r2.1, r2.2.1, r2.2.2.1, r2.2.2.2.1, r2.2.2.2.2, nI s, pl', fa', told')) ?_ r_fail (by omega), _, _, _, _, _, _, _, _, _, _, rfl⟩
          show fX8_read_66_b ra ud (nI L) al tx 1 (nI q) (nI p) (nI (q - p)) 2 (if q - p ≤ 8 then ds_wv B p (q - p) else 0) wr pl fa told = _
          unfold fX8_read_66_b
          rw [if_neg (show ¬ (1 : Int32) = 0 by decide), if_neg (show ¬ (2 : Int32) = 0 by decide), er, Option.bind_some]
          dsimp only
          unfold fX8_fails fX8_read_99
          rw [if_neg (show ¬ (1 : Int32) = 0 by decide), if_neg n3, Option.bind_some]
          dsimp only
          rw [if_pos rfl, eb]
        rcases hk2 with ⟨sL, rfl⟩ | ⟨sL, lt2, q2, hw2, pq2, rfl⟩ | ⟨sL, nl2, rfl⟩
        · -- the end, a sign being due
          obtain ⟨rr, q1, a1, a2, a3, a4, a5, a6, a7, a8, a9, tl, rfl⟩ := nosign (by show ¬ (0 : Int32) = 3; decide) (by show nI L = nI s; rw [sL])
          have c2 : ds_CB L by_ (1, nI q, nI s, fa', pl', nI R', W', H', X', O', U') = some (.inr (nI s, fa', pl', nI R', W', H', X', O', U')) := by
            show fX5_firstMisfit_7_b (nI L) by_ 1 (nI q) (nI s) fa' pl' (nI R') W' H' X' O' U' = _
            unfold fX5_firstMisfit_7_b fX5_firstMisfit_108 fX5_firstMisfit_119
            rw [if_pos (nI_le (by omega) (by omega)), if_neg (show ¬ (1 : Int32) = 0 by decide), sL]; rfl
          exact ⟨_, _, lift (RN_end c2 (Nat.le_refl 1)) (by omega), q1, _, _, _, R', _, _, _, _, _, _, _, _, _, _, _, _, _, _, _, rfl, Or.inl ⟨s, by omega, rfl, rfl⟩⟩
        · -- another word
          obtain ⟨rr, q1, a1, a2, a3, a4, a5, a6, a7, a8, a9, tl, rfl⟩ := nosign (by show ¬ (2 : Int32) = 3; decide) rfl
          have bs := (ht.2 s sL).1
          have c2 : ds_CB L by_ (1, nI q, nI s, fa', pl', nI R', W', H', X', O', U') = some (.inr (nI s, fa', pl', nI R', W', H', X', O', U')) := by
            show fX5_firstMisfit_7_b (nI L) by_ 1 (nI q) (nI s) fa' pl' (nI R') W' H' X' O' U' = _
            unfold fX5_firstMisfit_7_b
            rw [if_neg (nI_ge sL (by omega)), t_byteAt ht sL, Option.bind_some, t_isLetter bs, Option.bind_some, lt2, if_neg (show ¬ ds_q true = 0 by decide), t_wordEnd ht hw2, Option.bind_some, if_neg (show ¬ (1 : Int32) = 0 by decide)]
          exact ⟨_, _, lift (RN_end c2 (Nat.le_refl 1)) (by omega), q1, _, _, _, R', _, _, _, _, _, _, _, _, _, _, _, _, _, _, _, rfl, Or.inl ⟨s, by omega, rfl, rfl⟩⟩
        · have nw : ds_ws B s = false := by
            rcases z4 with h | h
            · omega
            · exact h
          by_cases c59 : B s = 59
          · -- the sign: on to the next line
            obtain ⟨p3, h3⟩ := SK_ex B (show s + 1 ≤ L by omega)
            obtain ⟨y1, y2, y3, y4⟩ := id h3
            obtain ⟨r3, er3, hk3⟩ := m_token ht h3
            obtain ⟨cr, rr, g1, g2, g3⟩ := ih (s + 1) (by omega) p3 q R' fa' pl' W' H' X' O' U' told' wr r3 (by omega) h3 (by omega) (by omega) hD' hk3
            have bs := (ht.2 s sL).1
            have mx2 : ds_max (nI s + 1) (nI q) = nI (s + 1) := by
              unfold ds_max
              rw [nI_1, if_neg (fun z => by have := (n_ltI (by omega) (by omega)).mp z; omega)]
            have c2 : ds_CB L by_ (1, nI q, nI s, fa', pl', nI R', W', H', X', O', U') = some (.inl (0, nI q, nI (s + 1), fa', pl', nI R', W', H', X', O', U')) := by
              show fX5_firstMisfit_7_b (nI L) by_ 1 (nI q) (nI s) fa' pl' (nI R') W' H' X' O' U' = _
              unfold fX5_firstMisfit_7_b fX5_firstMisfit_95
              rw [if_neg (nI_ge sL (by omega)), t_byteAt ht sL, Option.bind_some, t_isLetter bs, Option.bind_some, nl2, if_pos (show ds_q false = 0 from rfl), if_pos (show nI (B s) = 59 by rw [c59]; rfl), if_neg (show ¬ (1 : Int32) = 0 by decide), mx2]
            refine ⟨cr, rr, lift (RN_step c2 g1 (Nat.le_refl _)) (by omega), RN_step (s' := (1, r3.1, r3.2.1, r3.2.2.1, r3.2.2.2.1, r3.2.2.2.2, wr, pl', fa', told')) ?_ g2 (by omega), g3⟩
            show fX8_read_66_b ra ud (nI L) al tx 1 (nI q) (nI p) (nI (q - p)) 2 (if q - p ≤ 8 then ds_wv B p (q - p) else 0) wr pl fa told = _
            unfold fX8_read_66_b
            rw [if_neg (show ¬ (1 : Int32) = 0 by decide), if_neg (show ¬ (2 : Int32) = 0 by decide), er, Option.bind_some]
            dsimp only
            unfold fX8_read_99
            rw [if_neg (show ¬ (1 : Int32) = 0 by decide), if_pos (by rw [if_pos c59]), if_neg (show ¬ (1 : Int32) = 0 by decide), er3, Option.bind_some]
          · obtain ⟨rr, q1, a1, a2, a3, a4, a5, a6, a7, a8, a9, tl, rfl⟩ := nosign (by show ¬ (if B s = 59 then (3 : Int32) else 1) = 3; rw [if_neg c59]; decide) rfl
            exact ⟨_, _, lift (RN_end (c_other ht sL nl2 nw (Or.inr c59)) (Nat.le_refl 1)) (by omega), q1, _, _, _, R', _, _, _, _, _, _, _, _, _, _, _, _, _, _, _, rfl, Or.inl ⟨s, by omega, rfl, rfl⟩⟩
      · -- no such word
        have c1 : ds_CB L by_ (0, nI e, nI p, fa, pl, nI R, W, H, X, O, U) = some (.inr (nI p, fa, pl, nI R, W, H, X, O, U)) := by
          show fX5_firstMisfit_7_b (nI L) by_ 0 (nI e) (nI p) fa pl (nI R) W H X O U = _
          rw [cw 0, if_pos rfl, ec, Option.bind_some]
          dsimp only
          rw [if_pos rfl]
        refine ⟨_, _, RN_end c1 (by omega), RN_step (s' := (0, nI q, nI p, nI (q - p), 2, (if q - p ≤ 8 then ds_wv B p (q - p) else 0), nI p, pl, fa, told)) ?_ r_fail (by omega), _, _, _, R, _, _, _, _, _, _, _, _, _, _, _, _, _, _, _, rfl, Or.inl ⟨p, by omega, rfl, rfl⟩⟩
        show fX8_read_66_b ra ud (nI L) al tx 1 (nI q) (nI p) (nI (q - p)) 2 (if q - p ≤ 8 then ds_wv B p (q - p) else 0) wr pl fa told = _
        unfold fX8_read_66_b
        rw [if_neg (show ¬ (1 : Int32) = 0 by decide), if_neg (show ¬ (2 : Int32) = 0 by decide), er, Option.bind_some]
        dsimp only
        unfold fX8_read_99
        rw [if_pos rfl, if_pos rfl]
    · -- a sign that is no letter
      have nw : ds_ws B p = false := by
        rcases s4 with h | h
        · omega
        · exact h
      refine ⟨_, _, RN_end (c_other ht pL nl nw (Or.inl rfl)) (by omega), RN_step (s' := (0, nI (p + 1), nI p, 0, (if B p = 59 then 3 else 1), 0, nI p, pl, fa, told)) ?_ r_fail (by omega), _, _, _, R, _, _, _, _, _, _, _, _, _, _, _, _, _, _, _, rfl, Or.inl ⟨p, by omega, rfl, rfl⟩⟩
      show fX8_read_66_b ra ud (nI L) al tx 1 (nI (p + 1)) (nI p) 0 (if B p = 59 then 3 else 1) 0 wr pl fa told = _
      have n0 : ¬ (if B p = 59 then (3 : Int32) else 1) = 0 := by split <;> decide
      have n2 : ¬ (if B p = 59 then (3 : Int32) else 1) = 2 := by split <;> decide
      generalize (if B p = 59 then (3 : Int32) else 1) = so at n0 n2 ⊢
      unfold fX8_read_66_b fX8_line fX8_line_58 fX8_isRow fX8_fails
      rw [if_neg (show ¬ (1 : Int32) = 0 by decide), if_neg n0, if_neg n2, if_neg n2, Option.bind_some, if_pos rfl, Option.bind_some, if_pos (Or.inl rfl), Option.bind_some]
      dsimp only
      unfold fX8_read_99
      rw [if_pos rfl, if_pos rfl]
