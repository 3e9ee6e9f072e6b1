/-! what the law keeps between its calls, and that each call keeps it -/
def dl_R (iv : Nat → Int32) (jv : Nat → Int64) (ia : Nat → Nat → Int32) (ja : Nat → Nat → Int64) (tv : Nat → ds_TV) : Prop :=
  ds_TM (iv 1, iv 2, iv 3, jv 0, jv 1) (ia 7) ∧
  (ds_PT (iv 4) (ia 0) (ia 7 67) (ia 8) ∧ ia 7 68 = iv 5 ∧ ia 7 69 = iv 6) ∧
  (ds_KP (iv 8) (iv 9, iv 10, iv 11, jv 2, jv 3) (iv 12) (iv 13) (iv 14) (ia 1) (ia 9 0) (fun j => ia 7 (70 + j)) (fun j => ia 8 (200 + j)) ∧
   ds_KP (iv 16) (iv 17, iv 18, iv 19, jv 4, jv 5) (iv 20) (iv 21) (iv 22) (ia 2) (ia 9 1) (fun j => ia 7 (140 + j)) (fun j => ia 8 (400 + j)) ∧
   ds_KP (iv 24) (iv 25, iv 26, iv 27, jv 6, jv 7) (iv 28) (iv 29) (iv 30) (ia 3) (ia 9 2) (fun j => ia 7 (210 + j)) (fun j => ia 8 (600 + j))) ∧
  ds_HI (iv 32) (iv 33) tv (iv 63) (ia 10) ∧
  ds_GI (iv 35) (iv 36) (iv 37) (iv 38) (iv 39) (iv 40) (iv 41) (iv 42) (iv 43) (jv 8) (jv 9) (ja 1) ∧
  ds_GI (iv 47) (iv 48) (iv 49) (iv 50) (iv 51) (iv 52) (iv 53) (iv 54) (iv 55) (jv 12) (jv 13) (ja 2) ∧
  ds_01 (ia 12) ∧
  (ia 4 = ds_tabF ∧ ia 5 = ds_mrF ∧ ia 6 = ds_hvF)
theorem dl_mk {iv : Nat → Int32} {jv : Nat → Int64} {ia : Nat → Nat → Int32} {ja : Nat → Nat → Int64} {tv : Nat → ds_TV}
  (h1 : ds_TM (iv 1, iv 2, iv 3, jv 0, jv 1) (ia 7))
  (h2 : ds_PT (iv 4) (ia 0) (ia 7 67) (ia 8) ∧ ia 7 68 = iv 5 ∧ ia 7 69 = iv 6)
  (h3 : ds_KP (iv 8) (iv 9, iv 10, iv 11, jv 2, jv 3) (iv 12) (iv 13) (iv 14) (ia 1) (ia 9 0) (fun j => ia 7 (70 + j)) (fun j => ia 8 (200 + j)) ∧
   ds_KP (iv 16) (iv 17, iv 18, iv 19, jv 4, jv 5) (iv 20) (iv 21) (iv 22) (ia 2) (ia 9 1) (fun j => ia 7 (140 + j)) (fun j => ia 8 (400 + j)) ∧
   ds_KP (iv 24) (iv 25, iv 26, iv 27, jv 6, jv 7) (iv 28) (iv 29) (iv 30) (ia 3) (ia 9 2) (fun j => ia 7 (210 + j)) (fun j => ia 8 (600 + j)))
  (h4 : ds_HI (iv 32) (iv 33) tv (iv 63) (ia 10))
  (h5 : ds_GI (iv 35) (iv 36) (iv 37) (iv 38) (iv 39) (iv 40) (iv 41) (iv 42) (iv 43) (jv 8) (jv 9) (ja 1))
  (h6 : ds_GI (iv 47) (iv 48) (iv 49) (iv 50) (iv 51) (iv 52) (iv 53) (iv 54) (iv 55) (jv 12) (jv 13) (ja 2))
  (h7 : ds_01 (ia 12)) (h8 : ia 4 = ds_tabF ∧ ia 5 = ds_mrF ∧ ia 6 = ds_hvF) : dl_R iv jv ia ja tv := ⟨h1, h2, h3, h4, h5, h6, h7, h8⟩
theorem dl_V {a b c a' b' c' : Int32} {d e d' e' : Int64} (h : ((a, b, c, d, e) : ds_TV) = (a', b', c', d', e')) : a = a' ∧ b = b' ∧ c = c' ∧ d = d' ∧ e = e' := by
  cases h
  exact ⟨rfl, rfl, rfl, rfl, rfl⟩
theorem dl_both {α β γ : Type} {x : Option (Int32 × α)} {y : Option (Int32 × β)} {v : Int32} {u : α} {z : β} {k : Int32 × α → Int32 × β → γ} (h1 : x = some (v, u)) (h2 : y = some (v, z)) : (Option.bind x fun q => Option.bind y fun q' => if q.1 = q'.1 then some (k q q') else none) = some (k (v, u) (v, z)) := by
  rw [h1, h2]
  exact if_pos rfl
theorem dl_one {β γ : Type} {x : Option Int32} {y : Option (Int32 × β)} {v : Int32} {z : β} {k : Int32 → Int32 × β → γ} (h1 : x = some v) (h2 : y = some (v, z)) : (Option.bind x fun q => Option.bind y fun q' => if q = q'.1 then some (k q q') else none) = some (k v (v, z)) := by
  rw [h1, h2]
  exact if_pos rfl
theorem dl_Tx {L : Nat} {B : Nat → Nat} {by_ tx tx' : Nat → Int32} (h : ds_Tx L B by_ tx) (ht : ∀ i, i < 200 → tx' i = tx i) : ds_Tx L B by_ tx' := by
  obtain ⟨l, h⟩ := h
  refine ⟨l, fun i hi => ?_⟩
  rw [ht i (by omega)]
  exact h i hi
theorem dl_PTt {len : Int32} {by_ tx tx' : Nat → Int32} {z z' : Int32} (h : ds_PT len by_ z tx) (hz : z' = z) (ht : ∀ i, i < 200 → tx' i = tx i) : ds_PT len by_ z' tx' := by
  obtain ⟨L, B, a, b, c⟩ := h
  exact ⟨L, B, a, hz.trans b, dl_Tx c ht⟩
theorem dl_PTk {len fa pl : Int32} {by_ al al' tx : Nat → Int32} (h : ds_PT len by_ (al 67) tx ∧ al 68 = fa ∧ al 69 = pl) (hj : ∀ j, 67 ≤ j → al' j = al j) : ds_PT len by_ (al' 67) tx ∧ al' 68 = fa ∧ al' 69 = pl := by
  rw [hj 67 (by omega), hj 68 (by omega), hj 69 (by omega)]
  exact h
theorem dl_KPk {fl len fa pl sv sv' : Int32} {V : ds_TV} {by_ al al' tx tx' : Nat → Int32} {n k : Nat} (h : ds_KP fl V len fa pl by_ sv (fun j => al (n + j)) (fun j => tx (k + j))) (hs : sv' = sv) (hj : ∀ j, al' (n + j) = al (n + j) ∨ 70 ≤ j) (ht : ∀ j, tx' (k + j) = tx (k + j) ∨ 200 ≤ j) : ds_KP fl V len fa pl by_ sv' (fun j => al' (n + j)) (fun j => tx' (k + j)) := by
  obtain ⟨b, e1, e2, h⟩ := h
  refine ⟨b, e1, hs.trans e2, fun z => ?_⟩
  obtain ⟨h1, h2, h3, h4⟩ := h z
  have g : ∀ j, j < 70 → al' (n + j) = al (n + j) := fun j hj2 => (hj j).elim id (fun z => absurd z (by omega))
  refine ⟨TM_cong h1 (fun j hj2 => g j (by omega)), dl_PTt h2 (g 67 (by omega)) (fun i hi => (ht i).elim id (fun z => absurd z (by omega))), (g 68 (by omega)).trans h3, (g 69 (by omega)).trans h4⟩
theorem dl_KPa {fl len fa pl sv : Int32} {V : ds_TV} {by_ al al' tx : Nat → Int32} {n k : Nat} (h : ds_KP fl V len fa pl by_ sv (fun j => al (n + j)) (fun j => tx (k + j))) (hn : 70 ≤ n) (hj : ∀ j, 70 ≤ j → al' j = al j) : ds_KP fl V len fa pl by_ sv (fun j => al' (n + j)) (fun j => tx (k + j)) :=
  dl_KPk h rfl (fun j => Or.inl (hj _ (by omega))) (fun j => Or.inl rfl)
theorem dl_HI0 {nx sz ud : Int32} {T : Nat → ds_TV} {un : Nat → Int32} (h : ds_HI nx sz T ud un) : ds_HI nx 0 T 0 un := by
  obtain ⟨n, s, a, b, c, d, e, f⟩ := h
  exact ⟨n, 0, a, by omega, c, rfl, rfl, fun i hi => absurd hi (Nat.not_lt_zero i)⟩
theorem dl_len {len z : Int32} {by_ tx : Nat → Int32} (h : ds_PT len by_ z tx) : len = z := by
  obtain ⟨L, B, a, b, c⟩ := h
  exact a.trans b.symm
theorem dl_siz {nx sz ud : Int32} {T : Nat → ds_TV} {un : Nat → Int32} (h : ds_HI nx sz T ud un) : sz = ud := by
  obtain ⟨n, s, a, b, c, d, e, f⟩ := h
  exact d.trans e.symm
theorem dl_ix (p : Int32) : p = nI 0 ∨ p = nI 1 ∨ p = nI 2 ∨ p.toInt < 0 ∨ 3 ≤ p.toInt := by
  by_cases h0 : p = 0
  · exact Or.inl h0
  by_cases h1 : p = 1
  · exact Or.inr (Or.inl h1)
  by_cases h2 : p = 2
  · exact Or.inr (Or.inr (Or.inl h2))
  refine Or.inr (Or.inr (Or.inr ?_))
  have k0 : ¬ p.toInt = 0 := ds_toInt_ne h0
  have k1 : ¬ p.toInt = 1 := ds_toInt_ne h1
  have k2 : ¬ p.toInt = 2 := ds_toInt_ne h2
  omega
theorem dl_cc (p : Int32) : p = 0 ∨ p = 1 ∨ p = 2 ∨ p = 3 ∨ p = 4 ∨ p = 5 ∨ p = 6 ∨ p = 7 ∨ p = 8 ∨ p = 9 ∨ p = 10 ∨ p = 11 ∨ p = 12 ∨ p = 13 ∨ p = 14 ∨ p = 20 ∨ p = 21 ∨ p = 22 ∨ p = 23 ∨ (p.toInt < 0 ∨ (14 < p.toInt ∧ p.toInt < 20) ∨ 24 ≤ p.toInt) := by
  by_cases h0 : p = 0
  · exact Or.inl h0
  by_cases h1 : p = 1
  · exact Or.inr (Or.inl h1)
  by_cases h2 : p = 2
  · exact Or.inr (Or.inr (Or.inl h2))
  by_cases h3 : p = 3
  · exact Or.inr (Or.inr (Or.inr (Or.inl h3)))
  by_cases h4 : p = 4
  · exact Or.inr (Or.inr (Or.inr (Or.inr (Or.inl h4))))
  by_cases h5 : p = 5
  · exact Or.inr (Or.inr (Or.inr (Or.inr (Or.inr (Or.inl h5)))))
  by_cases h6 : p = 6
  · exact Or.inr (Or.inr (Or.inr (Or.inr (Or.inr (Or.inr (Or.inl h6))))))
  by_cases h7 : p = 7
  · exact Or.inr (Or.inr (Or.inr (Or.inr (Or.inr (Or.inr (Or.inr (Or.inl h7)))))))
  by_cases h8 : p = 8
  · exact Or.inr (Or.inr (Or.inr (Or.inr (Or.inr (Or.inr (Or.inr (Or.inr (Or.inl h8))))))))
  by_cases h9 : p = 9
  · exact Or.inr (Or.inr (Or.inr (Or.inr (Or.inr (Or.inr (Or.inr (Or.inr (Or.inr (Or.inl h9)))))))))
  by_cases h10 : p = 10
  · exact Or.inr (Or.inr (Or.inr (Or.inr (Or.inr (Or.inr (Or.inr (Or.inr (Or.inr (Or.inr (Or.inl h10))))))))))
  by_cases h11 : p = 11
  · exact Or.inr (Or.inr (Or.inr (Or.inr (Or.inr (Or.inr (Or.inr (Or.inr (Or.inr (Or.inr (Or.inr (Or.inl h11)))))))))))
  by_cases h12 : p = 12
  · exact Or.inr (Or.inr (Or.inr (Or.inr (Or.inr (Or.inr (Or.inr (Or.inr (Or.inr (Or.inr (Or.inr (Or.inr (Or.inl h12))))))))))))
  by_cases h13 : p = 13
  · exact Or.inr (Or.inr (Or.inr (Or.inr (Or.inr (Or.inr (Or.inr (Or.inr (Or.inr (Or.inr (Or.inr (Or.inr (Or.inr (Or.inl h13)))))))))))))
  by_cases h14 : p = 14
  · exact Or.inr (Or.inr (Or.inr (Or.inr (Or.inr (Or.inr (Or.inr (Or.inr (Or.inr (Or.inr (Or.inr (Or.inr (Or.inr (Or.inr (Or.inl h14))))))))))))))
  by_cases h20 : p = 20
  · exact Or.inr (Or.inr (Or.inr (Or.inr (Or.inr (Or.inr (Or.inr (Or.inr (Or.inr (Or.inr (Or.inr (Or.inr (Or.inr (Or.inr (Or.inr (Or.inl h20)))))))))))))))
  by_cases h21 : p = 21
  · exact Or.inr (Or.inr (Or.inr (Or.inr (Or.inr (Or.inr (Or.inr (Or.inr (Or.inr (Or.inr (Or.inr (Or.inr (Or.inr (Or.inr (Or.inr (Or.inr (Or.inl h21))))))))))))))))
  by_cases h22 : p = 22
  · exact Or.inr (Or.inr (Or.inr (Or.inr (Or.inr (Or.inr (Or.inr (Or.inr (Or.inr (Or.inr (Or.inr (Or.inr (Or.inr (Or.inr (Or.inr (Or.inr (Or.inr (Or.inl h22)))))))))))))))))
  by_cases h23 : p = 23
  · exact Or.inr (Or.inr (Or.inr (Or.inr (Or.inr (Or.inr (Or.inr (Or.inr (Or.inr (Or.inr (Or.inr (Or.inr (Or.inr (Or.inr (Or.inr (Or.inr (Or.inr (Or.inr (Or.inl h23))))))))))))))))))
  refine (Or.inr (Or.inr (Or.inr (Or.inr (Or.inr (Or.inr (Or.inr (Or.inr (Or.inr (Or.inr (Or.inr (Or.inr (Or.inr (Or.inr (Or.inr (Or.inr (Or.inr (Or.inr (Or.inr ?_)))))))))))))))))))
  have k0 : ¬ p.toInt = 0 := ds_toInt_ne h0
  have k1 : ¬ p.toInt = 1 := ds_toInt_ne h1
  have k2 : ¬ p.toInt = 2 := ds_toInt_ne h2
  have k3 : ¬ p.toInt = 3 := ds_toInt_ne h3
  have k4 : ¬ p.toInt = 4 := ds_toInt_ne h4
  have k5 : ¬ p.toInt = 5 := ds_toInt_ne h5
  have k6 : ¬ p.toInt = 6 := ds_toInt_ne h6
  have k7 : ¬ p.toInt = 7 := ds_toInt_ne h7
  have k8 : ¬ p.toInt = 8 := ds_toInt_ne h8
  have k9 : ¬ p.toInt = 9 := ds_toInt_ne h9
  have k10 : ¬ p.toInt = 10 := ds_toInt_ne h10
  have k11 : ¬ p.toInt = 11 := ds_toInt_ne h11
  have k12 : ¬ p.toInt = 12 := ds_toInt_ne h12
  have k13 : ¬ p.toInt = 13 := ds_toInt_ne h13
  have k14 : ¬ p.toInt = 14 := ds_toInt_ne h14
  have k20 : ¬ p.toInt = 20 := ds_toInt_ne h20
  have k21 : ¬ p.toInt = 21 := ds_toInt_ne h21
  have k22 : ¬ p.toInt = 22 := ds_toInt_ne h22
  have k23 : ¬ p.toInt = 23 := ds_toInt_ne h23
  omega
theorem dl_cnt {w h : Nat} (hk : ds_ok w h) {hex : Bool} {o t : Int64} (ho : ds_sub w h o) (ht : ds_sub w h t) {lk sf fx fy sx sy sw sh shx : Int32} {so st : Int64} {fd : Nat → Int64} (hg : ds_GI lk sf fx fy sx sy sw sh shx so st fd) (tw th tx : Int32) (to tt : Int64) {al sr : Nat → Int32} (hm : ds_MT w h hex o t al) (h01 : ds_01 sr) (R : Nat → Int32) (pz f1 f2 f3 f4 p : Int32) : ∃ v lk' sf' fx' fy' sx' sy' sw' sh' shx' so' st' fd' tw' th' tx' to' tt' a b c d sr' R', fX7_count (nI w) (nI h) (ds_q hex) o t lk sf fx fy sx sy sw sh shx so st fd tw th tx to tt (al 67) pz p = some (v, lk', sf', fx', fy', sx', sy', sw', sh', shx', so', st', fd', tw', th', tx', to', tt') ∧ fX8_count pz f1 f2 f3 f4 al ds_tabF sr R p = some (v, 0, a, b, c, d, sr', R') ∧ ds_GI lk' sf' fx' fy' sx' sy' sw' sh' shx' so' st' fd' ∧ ds_01 sr' := by
  rcases dl_cc p with rfl | rfl | rfl | rfl | rfl | rfl | rfl | rfl | rfl | rfl | rfl | rfl | rfl | rfl | rfl | rfl | rfl | rfl | rfl | hp
  · obtain ⟨v, q1, a, b, c, d, sr', R', q2, h01'⟩ := q_cnt0 hk lk sf fx fy sx sy sw sh shx so st fd tw th tx to tt hm h01 R pz f1 f2 f3 f4
    exact ⟨_, _, _, _, _, _, _, _, _, _, _, _, _, _, _, _, _, _, _, _, _, _, _, _, q1, q2, hg, h01'⟩
  · obtain ⟨v, q1, a, b, c, d, sr', R', q2, h01'⟩ := q_cnt1 hk lk sf fx fy sx sy sw sh shx so st fd tw th tx to tt hm h01 R pz f1 f2 f3 f4
    exact ⟨_, _, _, _, _, _, _, _, _, _, _, _, _, _, _, _, _, _, _, _, _, _, _, _, q1, q2, hg, h01'⟩
  · obtain ⟨v, q1, a, b, c, d, sr', R', q2, h01'⟩ := q_cnt2 hk lk sf fx fy sx sy sw sh shx so st fd tw th tx to tt hm h01 R pz f1 f2 f3 f4
    exact ⟨_, _, _, _, _, _, _, _, _, _, _, _, _, _, _, _, _, _, _, _, _, _, _, _, q1, q2, hg, h01'⟩
  · obtain ⟨v, sf', fx', fy', sx', sy', fd', tw', th', tx', to', tt', q1, hg', a, b, c, d, sr', R', q2, h01'⟩ := q_cnt3 hk ho ht hg tw th tx to tt hm h01 R (al 67) pz pz f1 f2 f3 f4
    exact ⟨_, _, _, _, _, _, _, _, _, _, _, _, _, _, _, _, _, _, _, _, _, _, _, _, q1, q2, hg', h01'⟩
  · obtain ⟨v, sf', fx', fy', sx', sy', fd', tw', th', tx', to', tt', q1, hg', a, b, c, d, sr', R', q2, h01'⟩ := q_cnt4 hk ho ht hg tw th tx to tt hm h01 R (al 67) pz pz f1 f2 f3 f4
    exact ⟨_, _, _, _, _, _, _, _, _, _, _, _, _, _, _, _, _, _, _, _, _, _, _, _, q1, q2, hg', h01'⟩
  · obtain ⟨v, sf', fx', fy', sx', sy', fd', tw', th', tx', to', tt', q1, hg', a, b, c, d, sr', R', q2, h01'⟩ := q_cnt5 hk ho ht hg tw th tx to tt hm h01 R (al 67) pz pz f1 f2 f3 f4
    exact ⟨_, _, _, _, _, _, _, _, _, _, _, _, _, _, _, _, _, _, _, _, _, _, _, _, q1, q2, hg', h01'⟩
  · obtain ⟨v, sf', fx', fy', sx', sy', fd', tw', th', tx', to', tt', q1, hg', a, b, c, d, sr', R', q2, h01'⟩ := q_cnt6 hk ho ht hg tw th tx to tt hm h01 R (al 67) pz pz f1 f2 f3 f4
    exact ⟨_, _, _, _, _, _, _, _, _, _, _, _, _, _, _, _, _, _, _, _, _, _, _, _, q1, q2, hg', h01'⟩
  · obtain ⟨v, sf', fx', fy', sx', sy', fd', tw', th', tx', to', tt', q1, hg', a, b, c, d, sr', R', q2, h01'⟩ := q_cnt7 hk ho ht hg tw th tx to tt hm h01 R (al 67) pz pz f1 f2 f3 f4
    exact ⟨_, _, _, _, _, _, _, _, _, _, _, _, _, _, _, _, _, _, _, _, _, _, _, _, q1, q2, hg', h01'⟩
  · obtain ⟨v, sf', fx', fy', sx', sy', fd', tw', th', tx', to', tt', q1, hg', a, b, c, d, sr', R', q2, h01'⟩ := q_cnt8 hk ho ht hg tw th tx to tt hm h01 R (al 67) pz pz f1 f2 f3 f4
    exact ⟨_, _, _, _, _, _, _, _, _, _, _, _, _, _, _, _, _, _, _, _, _, _, _, _, q1, q2, hg', h01'⟩
  · obtain ⟨v, sf', fx', fy', sx', sy', fd', tw', th', tx', to', tt', q1, hg', a, b, c, d, sr', R', q2, h01'⟩ := q_cnt9 hk ho ht hg tw th tx to tt hm h01 R (al 67) pz pz f1 f2 f3 f4
    exact ⟨_, _, _, _, _, _, _, _, _, _, _, _, _, _, _, _, _, _, _, _, _, _, _, _, q1, q2, hg', h01'⟩
  · obtain ⟨v, sf', fx', fy', sx', sy', fd', tw', th', tx', to', tt', q1, hg', a, b, c, d, sr', R', q2, h01'⟩ := q_cnt10 hk ho ht hg tw th tx to tt hm h01 R (al 67) pz pz f1 f2 f3 f4
    exact ⟨_, _, _, _, _, _, _, _, _, _, _, _, _, _, _, _, _, _, _, _, _, _, _, _, q1, q2, hg', h01'⟩
  · obtain ⟨v, q1, a, b, c, d, sr', R', q2, h01'⟩ := q_cnt11 hk lk sf fx fy sx sy sw sh shx so st fd tw th tx to tt hm h01 R pz f1 f2 f3 f4
    exact ⟨_, _, _, _, _, _, _, _, _, _, _, _, _, _, _, _, _, _, _, _, _, _, _, _, q1, q2, hg, h01'⟩
  · obtain ⟨v, q1, a, b, c, d, sr', R', q2, h01'⟩ := q_cnt12 hk lk sf fx fy sx sy sw sh shx so st fd tw th tx to tt hm h01 R pz f1 f2 f3 f4
    exact ⟨_, _, _, _, _, _, _, _, _, _, _, _, _, _, _, _, _, _, _, _, _, _, _, _, q1, q2, hg, h01'⟩
  · obtain ⟨v, q1, a, b, c, d, sr', R', q2, h01'⟩ := q_cnt13 hk lk sf fx fy sx sy sw sh shx so st fd tw th tx to tt hm h01 R pz f1 f2 f3 f4
    exact ⟨_, _, _, _, _, _, _, _, _, _, _, _, _, _, _, _, _, _, _, _, _, _, _, _, q1, q2, hg, h01'⟩
  · obtain ⟨v, sf', fx', fy', sx', sy', fd', tw', th', tx', to', tt', q1, hg', a, b, c, d, sr', R', q2, h01'⟩ := q_cnt14 hk ho ht hg tw th tx to tt hm h01 R (al 67) pz pz f1 f2 f3 f4
    exact ⟨_, _, _, _, _, _, _, _, _, _, _, _, _, _, _, _, _, _, _, _, _, _, _, _, q1, q2, hg', h01'⟩
  · obtain ⟨v, q1, a, b, c, d, sr', R', q2, h01'⟩ := q_cnt20 hk lk sf fx fy sx sy sw sh shx so st fd tw th tx to tt hm h01 R pz f1 f2 f3 f4
    exact ⟨_, _, _, _, _, _, _, _, _, _, _, _, _, _, _, _, _, _, _, _, _, _, _, _, q1, q2, hg, h01'⟩
  · obtain ⟨v, q1, a, b, c, d, sr', R', q2, h01'⟩ := q_cnt21 hk lk sf fx fy sx sy sw sh shx so st fd tw th tx to tt hm h01 R pz f1 f2 f3 f4
    exact ⟨_, _, _, _, _, _, _, _, _, _, _, _, _, _, _, _, _, _, _, _, _, _, _, _, q1, q2, hg, h01'⟩
  · obtain ⟨v, q1, a, b, c, d, sr', R', q2, h01'⟩ := q_cnt22 hk lk sf fx fy sx sy sw sh shx so st fd tw th tx to tt hm h01 R pz f1 f2 f3 f4
    exact ⟨_, _, _, _, _, _, _, _, _, _, _, _, _, _, _, _, _, _, _, _, _, _, _, _, q1, q2, hg, h01'⟩
  · obtain ⟨v, q1, a, b, c, d, sr', R', q2, h01'⟩ := q_cnt23 hk lk sf fx fy sx sy sw sh shx so st fd tw th tx to tt hm h01 R pz f1 f2 f3 f4
    exact ⟨_, _, _, _, _, _, _, _, _, _, _, _, _, _, _, _, _, _, _, _, _, _, _, _, q1, q2, hg, h01'⟩
  · obtain ⟨q1, a, b, c, d, sr', R', q2, h01'⟩ := q_cntE hk lk sf fx fy sx sy sw sh shx so st fd tw th tx to tt hm h01 R (al 67) pz pz f1 f2 f3 f4 p hp
    exact ⟨_, _, _, _, _, _, _, _, _, _, _, _, _, _, _, _, _, _, _, _, _, _, _, _, q1, q2, hg, h01'⟩
theorem dl_stp {α β γ δ : Type} {x : Option α} {y : Option β} {u : α} {z : β} {f : α → δ} {th : β → Option Int32} {r : δ → Int32} {cmp : δ → β → Int32} {k k2 : δ → β → γ} (h1 : x = some u) (h2 : y = some z) (h3 : th z = some 0) (h4 : r (f u) = 0) (h5 : cmp (f u) z = 0) :
    (Option.bind (Option.bind x fun q5 => some (f q5)) fun q => Option.bind y fun q' => Option.bind (th q') fun q'' => if q'' = r q then if r q = 0 then if cmp q q' = 0 then some (k q q') else none else some (k2 q q') else none) = some (k (f u) z) := by
  rw [h1, h2]
  show Option.bind (th z) _ = _
  rw [h3]
  show (if (0 : Int32) = r (f u) then _ else _) = _
  rw [if_pos h4.symm, if_pos h4, if_pos h5]
theorem dl_stpB {β γ : Type} {y : Option β} {z : β} {th : β → Option Int32} {e : β → Option γ} {k2 : β → γ} (h2 : y = some z) (h3 : th z = some 1) :
    (Option.bind y fun q' => Option.bind (th q') fun q'' => if q'' = (1 : Int32) then if (1 : Int32) = 0 then e q' else some (k2 q') else none) = some (k2 z) := by
  rw [h2]
  show Option.bind (th z) _ = _
  rw [h3]
  show (if (1 : Int32) = 1 then (if (1 : Int32) = 0 then e z else some (k2 z)) else none) = _
  rw [if_pos rfl, if_neg (by decide)]
theorem dl_cmp0 (x : Int64) : lg_cmp x x = 0 := by
  unfold lg_cmp
  rw [if_neg (show ¬ x > x from fun h => Int64.lt_irrefl h)]
  exact if_pos rfl
theorem dl_cmpu (f : Nat → Int64) (k : Nat) (x : Int64) : lg_cmp (vp_updL f k x k) x = 0 := by
  unfold vp_updL
  rw [if_pos rfl]
  exact dl_cmp0 x
set_option maxRecDepth 100000 in
set_option maxHeartbeats 4000000 in
theorem r_L_3 {iv : Nat → Int32} {jv : Nat → Int64} {ia : Nat → Nat → Int32} {ja : Nat → Nat → Int64} {tv : Nat → ds_TV} (hR : dl_R iv jv ia ja tv) (a : Nat → Int32) : ∃ res, fL_3 (iv 1) (iv 2) (iv 3) (jv 0) (jv 1) (iv 32) (iv 33) tv (iv 59) (iv 60) (iv 61) (jv 16) (jv 17) (iv 63) (ia 7) (ia 10) a = some res ∧ dl_R (dl_u (dl_u (dl_u (dl_u (dl_u (dl_u (dl_u (dl_u (dl_u (dl_u iv 1 res.1) 2 res.2.1) 3 res.2.2.1) 32 res.2.2.2.2.2.1) 33 res.2.2.2.2.2.2.1) 59 res.2.2.2.2.2.2.2.2.1) 60 res.2.2.2.2.2.2.2.2.2.1) 61 res.2.2.2.2.2.2.2.2.2.2.1) 62 res.2.2.2.2.2.2.2.2.2.2.2.2.2.1) 63 res.2.2.2.2.2.2.2.2.2.2.2.2.2.2.1) (dl_u (dl_u (dl_u (dl_u jv 0 res.2.2.2.1) 1 res.2.2.2.2.1) 16 res.2.2.2.2.2.2.2.2.2.2.2.1) 17 res.2.2.2.2.2.2.2.2.2.2.2.2.1) (dl_u (dl_u ia 7 res.2.2.2.2.2.2.2.2.2.2.2.2.2.2.2.1) 10 res.2.2.2.2.2.2.2.2.2.2.2.2.2.2.2.2) ja res.2.2.2.2.2.2.2.1 := by
  obtain ⟨⟨w, h, hex, o, t, hk, ho, ht, hV, hm⟩, hS0, hKP, hh, hg, hg2, h01, hT⟩ := id hR
  obtain ⟨e1, e2, e3, rfl, rfl⟩ := dl_V hV
  obtain ⟨b, W, H, X, O, U, dw, dh, dx, do_, dt, nx, sz, T, ud, al, un, q1, q2, hPs⟩ := q_paint hk ho ht hm hh (iv 59) (iv 60) (iv 61) (jv 16) (jv 17) (a 1) (a 2) (a 3)
  unfold fL_3
  rw [e1, e2, e3]
  obtain ⟨w', h', hex', k', rfl, rfl, rfl, ho', ht', hm', hh', hj⟩ := hPs
  exact ⟨_, dl_both q1 q2, dl_mk ⟨w', h', hex', _, _, k', ho', ht', rfl, hm'⟩ (dl_PTk hS0 hj) ⟨dl_KPa hKP.1 (by omega) (fun j z => hj j (by omega)), dl_KPa hKP.2.1 (by omega) (fun j z => hj j (by omega)), dl_KPa hKP.2.2 (by omega) (fun j z => hj j (by omega))⟩ hh' hg hg2 h01 hT⟩
set_option maxRecDepth 100000 in
set_option maxHeartbeats 4000000 in
theorem r_L_4 {iv : Nat → Int32} {jv : Nat → Int64} {ia : Nat → Nat → Int32} {ja : Nat → Nat → Int64} {tv : Nat → ds_TV} (hR : dl_R iv jv ia ja tv) (a : Nat → Int32) : ∃ res, fL_4 (iv 1) (iv 2) (iv 3) (jv 0) (jv 1) (iv 32) (iv 33) tv (iv 59) (iv 60) (iv 61) (jv 16) (jv 17) (iv 63) (ia 7) (ia 10) (ia 16) a = some res ∧ dl_R (dl_u (dl_u (dl_u (dl_u (dl_u (dl_u (dl_u (dl_u (dl_u (dl_u iv 1 res.1) 2 res.2.1) 3 res.2.2.1) 32 res.2.2.2.2.2.1) 33 res.2.2.2.2.2.2.1) 59 res.2.2.2.2.2.2.2.2.1) 60 res.2.2.2.2.2.2.2.2.2.1) 61 res.2.2.2.2.2.2.2.2.2.2.1) 62 res.2.2.2.2.2.2.2.2.2.2.2.2.2.1) 63 res.2.2.2.2.2.2.2.2.2.2.2.2.2.2.1) (dl_u (dl_u (dl_u (dl_u jv 0 res.2.2.2.1) 1 res.2.2.2.2.1) 16 res.2.2.2.2.2.2.2.2.2.2.2.1) 17 res.2.2.2.2.2.2.2.2.2.2.2.2.1) (dl_u (dl_u (dl_u ia 7 res.2.2.2.2.2.2.2.2.2.2.2.2.2.2.2.1) 10 res.2.2.2.2.2.2.2.2.2.2.2.2.2.2.2.2.1) 16 res.2.2.2.2.2.2.2.2.2.2.2.2.2.2.2.2.2) ja res.2.2.2.2.2.2.2.1 := by
  obtain ⟨⟨w, h, hex, o, t, hk, ho, ht, hV, hm⟩, hS0, hKP, hh, hg, hg2, h01, hT⟩ := id hR
  obtain ⟨e1, e2, e3, rfl, rfl⟩ := dl_V hV
  obtain ⟨b, W, H, X, O, U, dw, dh, dx, do_, dt, nx, sz, T, ud, al, nn, un, q1, q2, hPs⟩ := q_shift hk ho ht hm hh (iv 59) (iv 60) (iv 61) (jv 16) (jv 17) (ia 16) (a 1) (a 2)
  unfold fL_4
  rw [e1, e2, e3]
  obtain ⟨w', h', hex', k', rfl, rfl, rfl, ho', ht', hm', hh', hj⟩ := hPs
  exact ⟨_, dl_both q1 q2, dl_mk ⟨w', h', hex', _, _, k', ho', ht', rfl, hm'⟩ (dl_PTk hS0 hj) ⟨dl_KPa hKP.1 (by omega) (fun j z => hj j (by omega)), dl_KPa hKP.2.1 (by omega) (fun j z => hj j (by omega)), dl_KPa hKP.2.2 (by omega) (fun j z => hj j (by omega))⟩ hh' hg hg2 h01 hT⟩
set_option maxRecDepth 100000 in
set_option maxHeartbeats 4000000 in
theorem r_L_5 {iv : Nat → Int32} {jv : Nat → Int64} {ia : Nat → Nat → Int32} {ja : Nat → Nat → Int64} {tv : Nat → ds_TV} (hR : dl_R iv jv ia ja tv) (a : Nat → Int32) : ∃ res, fL_5 (iv 1) (iv 2) (iv 3) (jv 0) (jv 1) (iv 32) (iv 33) tv (iv 59) (iv 60) (iv 61) (jv 16) (jv 17) (iv 63) (ia 4) (ia 7) (ia 10) (ia 16) a = some res ∧ dl_R (dl_u (dl_u (dl_u (dl_u (dl_u (dl_u (dl_u (dl_u (dl_u (dl_u iv 1 res.1) 2 res.2.1) 3 res.2.2.1) 32 res.2.2.2.2.2.1) 33 res.2.2.2.2.2.2.1) 59 res.2.2.2.2.2.2.2.2.1) 60 res.2.2.2.2.2.2.2.2.2.1) 61 res.2.2.2.2.2.2.2.2.2.2.1) 62 res.2.2.2.2.2.2.2.2.2.2.2.2.2.1) 63 res.2.2.2.2.2.2.2.2.2.2.2.2.2.2.1) (dl_u (dl_u (dl_u (dl_u jv 0 res.2.2.2.1) 1 res.2.2.2.2.1) 16 res.2.2.2.2.2.2.2.2.2.2.2.1) 17 res.2.2.2.2.2.2.2.2.2.2.2.2.1) (dl_u (dl_u (dl_u ia 7 res.2.2.2.2.2.2.2.2.2.2.2.2.2.2.2.1) 10 res.2.2.2.2.2.2.2.2.2.2.2.2.2.2.2.2.1) 16 res.2.2.2.2.2.2.2.2.2.2.2.2.2.2.2.2.2) ja res.2.2.2.2.2.2.2.1 := by
  obtain ⟨⟨w, h, hex, o, t, hk, ho, ht, hV, hm⟩, hS0, hKP, hh, hg, hg2, h01, hT⟩ := id hR
  obtain ⟨e1, e2, e3, rfl, rfl⟩ := dl_V hV
  obtain ⟨b, W, H, X, O, U, dw, dh, dx, do_, dt, nx, sz, T, ud, al, nn, un, q1, q2, hPs⟩ := q_turn hk ho ht hm hh (iv 59) (iv 60) (iv 61) (jv 16) (jv 17) (ia 16) (a 1)
  unfold fL_5
  rw [e1, e2, e3, hT.1]
  obtain ⟨w', h', hex', k', rfl, rfl, rfl, ho', ht', hm', hh', hj⟩ := hPs
  exact ⟨_, dl_both q1 q2, dl_mk ⟨w', h', hex', _, _, k', ho', ht', rfl, hm'⟩ (dl_PTk hS0 hj) ⟨dl_KPa hKP.1 (by omega) (fun j z => hj j (by omega)), dl_KPa hKP.2.1 (by omega) (fun j z => hj j (by omega)), dl_KPa hKP.2.2 (by omega) (fun j z => hj j (by omega))⟩ hh' hg hg2 h01 hT⟩
set_option maxRecDepth 100000 in
set_option maxHeartbeats 4000000 in
theorem r_L_6 {iv : Nat → Int32} {jv : Nat → Int64} {ia : Nat → Nat → Int32} {ja : Nat → Nat → Int64} {tv : Nat → ds_TV} (hR : dl_R iv jv ia ja tv) (a : Nat → Int32) : ∃ res, fL_6 (iv 1) (iv 2) (iv 3) (jv 0) (jv 1) (iv 32) (iv 33) tv (iv 59) (iv 60) (iv 61) (jv 16) (jv 17) (iv 63) (ia 7) (ia 10) (ia 16) a = some res ∧ dl_R (dl_u (dl_u (dl_u (dl_u (dl_u (dl_u (dl_u (dl_u (dl_u (dl_u iv 1 res.1) 2 res.2.1) 3 res.2.2.1) 32 res.2.2.2.2.2.1) 33 res.2.2.2.2.2.2.1) 59 res.2.2.2.2.2.2.2.2.1) 60 res.2.2.2.2.2.2.2.2.2.1) 61 res.2.2.2.2.2.2.2.2.2.2.1) 62 res.2.2.2.2.2.2.2.2.2.2.2.2.2.1) 63 res.2.2.2.2.2.2.2.2.2.2.2.2.2.2.1) (dl_u (dl_u (dl_u (dl_u jv 0 res.2.2.2.1) 1 res.2.2.2.2.1) 16 res.2.2.2.2.2.2.2.2.2.2.2.1) 17 res.2.2.2.2.2.2.2.2.2.2.2.2.1) (dl_u (dl_u (dl_u ia 7 res.2.2.2.2.2.2.2.2.2.2.2.2.2.2.2.1) 10 res.2.2.2.2.2.2.2.2.2.2.2.2.2.2.2.2.1) 16 res.2.2.2.2.2.2.2.2.2.2.2.2.2.2.2.2.2) ja res.2.2.2.2.2.2.2.1 := by
  obtain ⟨⟨w, h, hex, o, t, hk, ho, ht, hV, hm⟩, hS0, hKP, hh, hg, hg2, h01, hT⟩ := id hR
  obtain ⟨e1, e2, e3, rfl, rfl⟩ := dl_V hV
  obtain ⟨b, W, H, X, O, U, dw, dh, dx, do_, dt, nx, sz, T, ud, al, nn, un, q1, q2, hPs⟩ := q_dye hk ho ht hm hh (iv 59) (iv 60) (iv 61) (jv 16) (jv 17) (ia 16) (a 1) (a 2)
  unfold fL_6
  rw [e1, e2, e3]
  obtain ⟨w', h', hex', k', rfl, rfl, rfl, ho', ht', hm', hh', hj⟩ := hPs
  exact ⟨_, dl_both q1 q2, dl_mk ⟨w', h', hex', _, _, k', ho', ht', rfl, hm'⟩ (dl_PTk hS0 hj) ⟨dl_KPa hKP.1 (by omega) (fun j z => hj j (by omega)), dl_KPa hKP.2.1 (by omega) (fun j z => hj j (by omega)), dl_KPa hKP.2.2 (by omega) (fun j z => hj j (by omega))⟩ hh' hg hg2 h01 hT⟩
set_option maxRecDepth 100000 in
set_option maxHeartbeats 4000000 in
theorem r_L_7 {iv : Nat → Int32} {jv : Nat → Int64} {ia : Nat → Nat → Int32} {ja : Nat → Nat → Int64} {tv : Nat → ds_TV} (hR : dl_R iv jv ia ja tv) (a : Nat → Int32) : ∃ res, fL_7 (iv 1) (iv 2) (iv 3) (jv 0) (jv 1) (iv 32) (iv 33) tv (iv 63) (ia 7) (ia 10) a = some res ∧ dl_R (dl_u (dl_u (dl_u (dl_u (dl_u (dl_u (dl_u (dl_u (dl_u (dl_u iv 1 res.1) 2 res.2.1) 3 res.2.2.1) 32 res.2.2.2.2.2.1) 33 res.2.2.2.2.2.2.1) 59 res.2.2.2.2.2.2.2.2.1) 60 res.2.2.2.2.2.2.2.2.2.1) 61 res.2.2.2.2.2.2.2.2.2.2.1) 62 res.2.2.2.2.2.2.2.2.2.2.2.2.2.1) 63 res.2.2.2.2.2.2.2.2.2.2.2.2.2.2.1) (dl_u (dl_u (dl_u (dl_u jv 0 res.2.2.2.1) 1 res.2.2.2.2.1) 16 res.2.2.2.2.2.2.2.2.2.2.2.1) 17 res.2.2.2.2.2.2.2.2.2.2.2.2.1) (dl_u (dl_u ia 7 res.2.2.2.2.2.2.2.2.2.2.2.2.2.2.2.1) 10 res.2.2.2.2.2.2.2.2.2.2.2.2.2.2.2.2) ja res.2.2.2.2.2.2.2.1 := by
  obtain ⟨⟨w, h, hex, o, t, hk, ho, ht, hV, hm⟩, hS0, hKP, hh, hg, hg2, h01, hT⟩ := id hR
  obtain ⟨e1, e2, e3, rfl, rfl⟩ := dl_V hV
  obtain ⟨b, W, H, X, O, U, dw, dh, dx, do_, dt, nx, sz, T, ud, al, un, q1, q2, hPs⟩ := q_net hk ho ht hm hh (decide (a 1 ≠ 0))
  unfold fL_7
  rw [e1, e2, e3]
  obtain ⟨w', h', hex', k', rfl, rfl, rfl, ho', ht', hm', hh', hj⟩ := hPs
  exact ⟨_, dl_both q1 q2, dl_mk ⟨w', h', hex', _, _, k', ho', ht', rfl, hm'⟩ (dl_PTk hS0 hj) ⟨dl_KPa hKP.1 (by omega) (fun j z => hj j (by omega)), dl_KPa hKP.2.1 (by omega) (fun j z => hj j (by omega)), dl_KPa hKP.2.2 (by omega) (fun j z => hj j (by omega))⟩ hh' hg hg2 h01 hT⟩
set_option maxRecDepth 100000 in
set_option maxHeartbeats 4000000 in
theorem r_L_8 {iv : Nat → Int32} {jv : Nat → Int64} {ia : Nat → Nat → Int32} {ja : Nat → Nat → Int64} {tv : Nat → ds_TV} (hR : dl_R iv jv ia ja tv) (a : Nat → Int32) : ∃ res, fL_8 (iv 1) (iv 2) (iv 3) (jv 0) (jv 1) (iv 32) (iv 33) tv (iv 34) (ja 0) (iv 59) (iv 60) (iv 61) (jv 16) (jv 17) (iv 63) (iv 76) (ia 4) (ia 5) (ia 6) (ia 7) (ia 10) (ia 13) a = some res ∧ dl_R (dl_u (dl_u (dl_u (dl_u (dl_u (dl_u (dl_u (dl_u (dl_u (dl_u (dl_u (dl_u iv 1 res.1) 2 res.2.1) 3 res.2.2.1) 32 res.2.2.2.2.2.1) 33 res.2.2.2.2.2.2.1) 34 res.2.2.2.2.2.2.2.2.1) 59 res.2.2.2.2.2.2.2.2.2.2.1) 60 res.2.2.2.2.2.2.2.2.2.2.2.1) 61 res.2.2.2.2.2.2.2.2.2.2.2.2.1) 62 res.2.2.2.2.2.2.2.2.2.2.2.2.2.2.2.1) 63 res.2.2.2.2.2.2.2.2.2.2.2.2.2.2.2.2.1) 76 res.2.2.2.2.2.2.2.2.2.2.2.2.2.2.2.2.2.1) (dl_u (dl_u (dl_u (dl_u jv 0 res.2.2.2.1) 1 res.2.2.2.2.1) 16 res.2.2.2.2.2.2.2.2.2.2.2.2.2.1) 17 res.2.2.2.2.2.2.2.2.2.2.2.2.2.2.1) (dl_u (dl_u (dl_u ia 7 res.2.2.2.2.2.2.2.2.2.2.2.2.2.2.2.2.2.2.1) 10 res.2.2.2.2.2.2.2.2.2.2.2.2.2.2.2.2.2.2.2.1) 13 res.2.2.2.2.2.2.2.2.2.2.2.2.2.2.2.2.2.2.2.2) (dl_u ja 0 res.2.2.2.2.2.2.2.2.2.1) res.2.2.2.2.2.2.2.1 := by
  obtain ⟨⟨w, h, hex, o, t, hk, ho, ht, hV, hm⟩, hS0, hKP, hh, hg, hg2, h01, hT⟩ := id hR
  obtain ⟨e1, e2, e3, rfl, rfl⟩ := dl_V hV
  obtain ⟨v, W, H, X, O, U, os, mem, dw, dh, dx, do_, dt, nx, sz, T, ud, xx, al, R, un, q1, q2, hPs⟩ := q_make hk ho ht hm hh (iv 34) (ja 0) (iv 59) (iv 60) (iv 61) (jv 16) (jv 17) (ia 13) (iv 76) (a 1) (a 2) (a 3) (a 4)
  unfold fL_8
  rw [e1, e2, e3, hT.1, hT.2.1, hT.2.2]
  obtain ⟨w', h', hex', k', rfl, rfl, rfl, ho', ht', hm', hh', hj⟩ := hPs
  exact ⟨_, dl_both q1 q2, dl_mk ⟨w', h', hex', _, _, k', ho', ht', rfl, hm'⟩ (dl_PTk hS0 hj) ⟨dl_KPa hKP.1 (by omega) (fun j z => hj j (by omega)), dl_KPa hKP.2.1 (by omega) (fun j z => hj j (by omega)), dl_KPa hKP.2.2 (by omega) (fun j z => hj j (by omega))⟩ hh' hg hg2 h01 hT⟩
set_option maxRecDepth 100000 in
set_option maxHeartbeats 4000000 in
theorem r_L_9 {iv : Nat → Int32} {jv : Nat → Int64} {ia : Nat → Nat → Int32} {ja : Nat → Nat → Int64} {tv : Nat → ds_TV} (hR : dl_R iv jv ia ja tv) (a : Nat → Int32) : ∃ res, fL_9 (iv 1) (iv 2) (iv 3) (jv 0) (jv 1) (iv 32) (iv 33) tv (iv 34) (ja 0) (iv 59) (iv 60) (iv 61) (jv 16) (jv 17) (iv 63) (ia 4) (ia 5) (ia 6) (ia 7) (ia 10) (ia 13) (ia 16) a = some res ∧ dl_R (dl_u (dl_u (dl_u (dl_u (dl_u (dl_u (dl_u (dl_u (dl_u (dl_u (dl_u iv 1 res.1) 2 res.2.1) 3 res.2.2.1) 32 res.2.2.2.2.2.1) 33 res.2.2.2.2.2.2.1) 34 res.2.2.2.2.2.2.2.2.1) 59 res.2.2.2.2.2.2.2.2.2.2.1) 60 res.2.2.2.2.2.2.2.2.2.2.2.1) 61 res.2.2.2.2.2.2.2.2.2.2.2.2.1) 62 res.2.2.2.2.2.2.2.2.2.2.2.2.2.2.2.1) 63 res.2.2.2.2.2.2.2.2.2.2.2.2.2.2.2.2.1) (dl_u (dl_u (dl_u (dl_u jv 0 res.2.2.2.1) 1 res.2.2.2.2.1) 16 res.2.2.2.2.2.2.2.2.2.2.2.2.2.1) 17 res.2.2.2.2.2.2.2.2.2.2.2.2.2.2.1) (dl_u (dl_u (dl_u (dl_u ia 7 res.2.2.2.2.2.2.2.2.2.2.2.2.2.2.2.2.2.1) 10 res.2.2.2.2.2.2.2.2.2.2.2.2.2.2.2.2.2.2.1) 13 res.2.2.2.2.2.2.2.2.2.2.2.2.2.2.2.2.2.2.2.1) 16 res.2.2.2.2.2.2.2.2.2.2.2.2.2.2.2.2.2.2.2.2) (dl_u ja 0 res.2.2.2.2.2.2.2.2.2.1) res.2.2.2.2.2.2.2.1 := by
  obtain ⟨⟨w, h, hex, o, t, hk, ho, ht, hV, hm⟩, hS0, hKP, hh, hg, hg2, h01, hT⟩ := id hR
  obtain ⟨e1, e2, e3, rfl, rfl⟩ := dl_V hV
  obtain ⟨v, W, H, X, O, U, os, mem, dw, dh, dx, do_, dt, nx, sz, T, ud, al, R, nn, un, q1, q2, hPs⟩ := q_mend hk ho ht hm hh (iv 34) (ja 0) (iv 59) (iv 60) (iv 61) (jv 16) (jv 17) (ia 13) (ia 16) (a 1)
  unfold fL_9
  rw [e1, e2, e3, hT.1, hT.2.1, hT.2.2]
  obtain ⟨w', h', hex', k', rfl, rfl, rfl, ho', ht', hm', hh', hj⟩ := hPs
  exact ⟨_, dl_both q1 q2, dl_mk ⟨w', h', hex', _, _, k', ho', ht', rfl, hm'⟩ (dl_PTk hS0 hj) ⟨dl_KPa hKP.1 (by omega) (fun j z => hj j (by omega)), dl_KPa hKP.2.1 (by omega) (fun j z => hj j (by omega)), dl_KPa hKP.2.2 (by omega) (fun j z => hj j (by omega))⟩ hh' hg hg2 h01 hT⟩
set_option maxRecDepth 100000 in
set_option maxHeartbeats 4000000 in
theorem r_L_10 {iv : Nat → Int32} {jv : Nat → Int64} {ia : Nat → Nat → Int32} {ja : Nat → Nat → Int64} {tv : Nat → ds_TV} (hR : dl_R iv jv ia ja tv) (a : Nat → Int32) : ∃ res, fL_10 (iv 1) (iv 2) (iv 3) (jv 0) (jv 1) (iv 32) (iv 33) tv (iv 63) (ia 4) (ia 7) (ia 10) (ia 12) = some res ∧ dl_R (dl_u (dl_u (dl_u (dl_u (dl_u (dl_u (dl_u (dl_u (dl_u (dl_u iv 1 res.1) 2 res.2.1) 3 res.2.2.1) 32 res.2.2.2.2.2.1) 33 res.2.2.2.2.2.2.1) 59 res.2.2.2.2.2.2.2.2.1) 60 res.2.2.2.2.2.2.2.2.2.1) 61 res.2.2.2.2.2.2.2.2.2.2.1) 62 res.2.2.2.2.2.2.2.2.2.2.2.2.2.1) 63 res.2.2.2.2.2.2.2.2.2.2.2.2.2.2.1) (dl_u (dl_u (dl_u (dl_u jv 0 res.2.2.2.1) 1 res.2.2.2.2.1) 16 res.2.2.2.2.2.2.2.2.2.2.2.1) 17 res.2.2.2.2.2.2.2.2.2.2.2.2.1) (dl_u (dl_u (dl_u ia 7 res.2.2.2.2.2.2.2.2.2.2.2.2.2.2.2.1) 10 res.2.2.2.2.2.2.2.2.2.2.2.2.2.2.2.2.1) 12 res.2.2.2.2.2.2.2.2.2.2.2.2.2.2.2.2.2) ja res.2.2.2.2.2.2.2.1 := by
  obtain ⟨⟨w, h, hex, o, t, hk, ho, ht, hV, hm⟩, hS0, hKP, hh, hg, hg2, h01, hT⟩ := id hR
  obtain ⟨e1, e2, e3, rfl, rfl⟩ := dl_V hV
  obtain ⟨v, W, H, X, O, U, dw, dh, dx, do_, dt, nx, sz, T, ud, al, sr, un, q1, q2, h01n, hPs⟩ := q_reduce hk ho ht hm h01 hh 
  unfold fL_10
  rw [e1, e2, e3, hT.1]
  obtain ⟨w', h', hex', k', rfl, rfl, rfl, ho', ht', hm', hh', hj⟩ := hPs
  exact ⟨_, dl_both q1 q2, dl_mk ⟨w', h', hex', _, _, k', ho', ht', rfl, hm'⟩ (dl_PTk hS0 hj) ⟨dl_KPa hKP.1 (by omega) (fun j z => hj j (by omega)), dl_KPa hKP.2.1 (by omega) (fun j z => hj j (by omega)), dl_KPa hKP.2.2 (by omega) (fun j z => hj j (by omega))⟩ hh' hg hg2 h01n hT⟩
set_option maxRecDepth 100000 in
set_option maxHeartbeats 4000000 in
theorem r_L_11 {iv : Nat → Int32} {jv : Nat → Int64} {ia : Nat → Nat → Int32} {ja : Nat → Nat → Int64} {tv : Nat → ds_TV} (hR : dl_R iv jv ia ja tv) (a : Nat → Int32) : ∃ res, fL_11 (iv 1) (iv 2) (iv 3) (jv 0) (jv 1) (iv 32) (iv 33) tv (iv 63) (ia 7) (ia 10) = some res ∧ dl_R (dl_u (dl_u (dl_u (dl_u (dl_u (dl_u (dl_u iv 1 res.1) 2 res.2.1) 3 res.2.2.1) 32 res.2.2.2.2.2.1) 33 res.2.2.2.2.2.2.1) 62 res.2.2.2.2.2.2.2.1) 63 res.2.2.2.2.2.2.2.2.1) (dl_u (dl_u jv 0 res.2.2.2.1) 1 res.2.2.2.2.1) (dl_u ia 7 res.2.2.2.2.2.2.2.2.2) ja tv := by
  obtain ⟨⟨w, h, hex, o, t, hk, ho, ht, hV, hm⟩, hS0, hKP, hh, hg, hg2, h01, hT⟩ := id hR
  obtain ⟨e1, e2, e3, rfl, rfl⟩ := dl_V hV
  obtain ⟨v, nx, sz, w', h', hex', o', t', ud, al, q1, q2, hh', k', ho', ht', hm', hj⟩ := q_undo hk ho ht hm hh
  unfold fL_11
  rw [e1, e2, e3]
  exact ⟨_, dl_both q1 q2, dl_mk ⟨w', h', hex', _, _, k', ho', ht', rfl, hm'⟩ (dl_PTk hS0 hj) ⟨dl_KPa hKP.1 (by omega) (fun j z => hj j (by omega)), dl_KPa hKP.2.1 (by omega) (fun j z => hj j (by omega)), dl_KPa hKP.2.2 (by omega) (fun j z => hj j (by omega))⟩ hh' hg hg2 h01 hT⟩
set_option maxRecDepth 100000 in
set_option maxHeartbeats 4000000 in
theorem r_L_0 {iv : Nat → Int32} {jv : Nat → Int64} {ia : Nat → Nat → Int32} {ja : Nat → Nat → Int64} {tv : Nat → ds_TV} (hR : dl_R iv jv ia ja tv) (a : Nat → Int32) : ∃ res, fL_0 (iv 4) (ia 0) (ia 7) (ia 8) a = some res ∧ dl_R (dl_u (dl_u iv 4 res.1) 62 res.2.2.1) jv (dl_u (dl_u (dl_u ia 0 res.2.1) 7 res.2.2.2.1) 8 res.2.2.2.2) ja tv := by
  obtain ⟨⟨w, h, hex, o, t, hk, ho, ht, hV, hm⟩, hS0, hKP, hh, hg, hg2, h01, hT⟩ := id hR
  obtain ⟨e1, e2, e3, rfl, rfl⟩ := dl_V hV
  obtain ⟨v, len, by', al, tx, q1, q2, hp', hj, hx⟩ := q_tell hS0.1 ((ds_lshl ((a 1).toInt64) (32 : Int32)) ||| ((a 2).toInt64 &&& (4294967295 : Int64)))
  unfold fL_0
  exact ⟨_, dl_both q1 q2, dl_mk (TM_cong ⟨w, h, hex, _, _, hk, ho, ht, hV, hm⟩ (fun j z => hj j (by omega))) ⟨hp', (hj 68 (by omega)).trans hS0.2.1, (hj 69 (by omega)).trans hS0.2.2⟩ ⟨dl_KPk hKP.1 rfl (fun j => Or.inl (hj _ (by omega))) (fun j => Or.inl (hx _ (by omega))), dl_KPk hKP.2.1 rfl (fun j => Or.inl (hj _ (by omega))) (fun j => Or.inl (hx _ (by omega))), dl_KPk hKP.2.2 rfl (fun j => Or.inl (hj _ (by omega))) (fun j => Or.inl (hx _ (by omega)))⟩ hh hg hg2 h01 hT⟩
set_option maxRecDepth 100000 in
set_option maxHeartbeats 4000000 in
theorem r_L_1 {iv : Nat → Int32} {jv : Nat → Int64} {ia : Nat → Nat → Int32} {ja : Nat → Nat → Int64} {tv : Nat → ds_TV} (hR : dl_R iv jv ia ja tv) (a : Nat → Int32) : ∃ res, fL_1 (iv 1) (iv 2) (iv 3) (jv 0) (jv 1) (iv 4) (ia 0) (iv 33) (iv 63) (iv 69) (ia 7) (ia 8) (ia 11) = some res ∧ dl_R (dl_u (dl_u (dl_u (dl_u (dl_u (dl_u (dl_u (dl_u (dl_u (dl_u (dl_u (dl_u (dl_u (dl_u (dl_u (dl_u (dl_u (dl_u (dl_u (dl_u (dl_u iv 1 res.1) 2 res.2.1) 3 res.2.2.1) 4 res.2.2.2.2.2.1) 5 res.2.2.2.2.2.2.1) 6 res.2.2.2.2.2.2.2.1) 7 res.2.2.2.2.2.2.2.2.1) 33 res.2.2.2.2.2.2.2.2.2.1) 59 res.2.2.2.2.2.2.2.2.2.2.1) 60 res.2.2.2.2.2.2.2.2.2.2.2.1) 61 res.2.2.2.2.2.2.2.2.2.2.2.2.1) 62 res.2.2.2.2.2.2.2.2.2.2.2.2.2.2.2.1) 63 res.2.2.2.2.2.2.2.2.2.2.2.2.2.2.2.2.1) 64 res.2.2.2.2.2.2.2.2.2.2.2.2.2.2.2.2.2.1) 65 res.2.2.2.2.2.2.2.2.2.2.2.2.2.2.2.2.2.2.1) 66 res.2.2.2.2.2.2.2.2.2.2.2.2.2.2.2.2.2.2.2.1) 67 res.2.2.2.2.2.2.2.2.2.2.2.2.2.2.2.2.2.2.2.2.1) 68 res.2.2.2.2.2.2.2.2.2.2.2.2.2.2.2.2.2.2.2.2.2.1) 69 res.2.2.2.2.2.2.2.2.2.2.2.2.2.2.2.2.2.2.2.2.2.2.2.1) 70 res.2.2.2.2.2.2.2.2.2.2.2.2.2.2.2.2.2.2.2.2.2.2.2.2.1) 71 res.2.2.2.2.2.2.2.2.2.2.2.2.2.2.2.2.2.2.2.2.2.2.2.2.2.1) (dl_u (dl_u (dl_u (dl_u (dl_u jv 0 res.2.2.2.1) 1 res.2.2.2.2.1) 16 res.2.2.2.2.2.2.2.2.2.2.2.2.2.1) 17 res.2.2.2.2.2.2.2.2.2.2.2.2.2.2.1) 18 res.2.2.2.2.2.2.2.2.2.2.2.2.2.2.2.2.2.2.2.2.2.2.1) (dl_u (dl_u ia 7 res.2.2.2.2.2.2.2.2.2.2.2.2.2.2.2.2.2.2.2.2.2.2.2.2.2.2.1) 11 res.2.2.2.2.2.2.2.2.2.2.2.2.2.2.2.2.2.2.2.2.2.2.2.2.2.2.2) ja tv := by
  obtain ⟨⟨w, h, hex, o, t, hk, ho, ht, hV, hm⟩, hS0, hKP, hh, hg, hg2, h01, hT⟩ := id hR
  obtain ⟨e1, e2, e3, rfl, rfl⟩ := dl_V hV
  obtain ⟨v, d1, d2, d3, d4, d5, fa, pl, rows, W, H, X, O, U, sz, ud, a1, a2, a3, a4, a5, a6, a7, a8, a9, al, told, q1, q2, z67, z68, z69, hj, w', h', hex', k', rfl, rfl, rfl, ho', ht', hm', hh'⟩ := q_read hk ho ht hm hh hS0.1 (iv 69) (ia 11)
  unfold fL_1
  rw [e1, e2, e3]
  exact ⟨_, dl_both q1 q2, dl_mk ⟨w', h', hex', _, _, k', ho', ht', rfl, hm'⟩ ⟨⟨0, fun _ => 0, rfl, z67, by omega, fun i hi => absurd hi (Nat.not_lt_zero i)⟩, z68, z69⟩ ⟨dl_KPa hKP.1 (by omega) hj, dl_KPa hKP.2.1 (by omega) hj, dl_KPa hKP.2.2 (by omega) hj⟩ hh' hg hg2 h01 hT⟩
set_option maxRecDepth 100000 in
set_option maxHeartbeats 4000000 in
theorem r_L_2 {iv : Nat → Int32} {jv : Nat → Int64} {ia : Nat → Nat → Int32} {ja : Nat → Nat → Int64} {tv : Nat → ds_TV} (hR : dl_R iv jv ia ja tv) (a : Nat → Int32) : ∃ res, fL_2 (iv 5) (iv 6) (ia 7) a = some res ∧ dl_R (dl_u iv 62 res) jv ia ja tv := by
  obtain ⟨⟨w, h, hex, o, t, hk, ho, ht, hV, hm⟩, hS0, hKP, hh, hg, hg2, h01, hT⟩ := id hR
  obtain ⟨e1, e2, e3, rfl, rfl⟩ := dl_V hV
  obtain ⟨v, q1, q2⟩ := q_fault hS0.2.1 hS0.2.2 (ds_q (decide ((a 1) ≠ 0)))
  unfold fL_2
  exact ⟨_, dl_one q1 q2, dl_mk ⟨w, h, hex, _, _, hk, ho, ht, hV, hm⟩ hS0 hKP hh hg hg2 h01 hT⟩
set_option maxRecDepth 100000 in
set_option maxHeartbeats 4000000 in
theorem r_L_13 {iv : Nat → Int32} {jv : Nat → Int64} {ia : Nat → Nat → Int32} {ja : Nat → Nat → Int64} {tv : Nat → ds_TV} (hR : dl_R iv jv ia ja tv) (a : Nat → Int32) : ∃ res, fL_13 (iv 1) (iv 2) (jv 0) (jv 1) (ia 7) a = some res ∧ dl_R (dl_u iv 62 res) jv ia ja tv := by
  obtain ⟨⟨w, h, hex, o, t, hk, ho, ht, hV, hm⟩, hS0, hKP, hh, hg, hg2, h01, hT⟩ := id hR
  obtain ⟨e1, e2, e3, rfl, rfl⟩ := dl_V hV
  obtain ⟨v, q1, q2⟩ := q_cell hk hm (a 1) (a 2)
  unfold fL_13
  rw [e1, e2]
  exact ⟨_, dl_one q1 q2, dl_mk ⟨w, h, hex, _, _, hk, ho, ht, hV, hm⟩ hS0 hKP hh hg hg2 h01 hT⟩
set_option maxRecDepth 100000 in
set_option maxHeartbeats 4000000 in
theorem r_L_18 {iv : Nat → Int32} {jv : Nat → Int64} {ia : Nat → Nat → Int32} {ja : Nat → Nat → Int64} {tv : Nat → ds_TV} (hR : dl_R iv jv ia ja tv) (a : Nat → Int32) : ∃ res, fL_18 (iv 1) (iv 2) (iv 3) (jv 0) (jv 1) (iv 35) (iv 36) (iv 41) (iv 42) (iv 43) (jv 8) (jv 9) (iv 44) (iv 45) (iv 46) (jv 10) (jv 11) (ja 1) (ia 4) (ia 7) (ia 12) (ia 13) a = some res ∧ dl_R (dl_u (dl_u (dl_u (dl_u (dl_u (dl_u (dl_u (dl_u (dl_u iv 35 res.1) 36 res.2.1) 41 res.2.2.1) 42 res.2.2.2.1) 43 res.2.2.2.2.1) 44 res.2.2.2.2.2.2.2.1) 45 res.2.2.2.2.2.2.2.2.1) 46 res.2.2.2.2.2.2.2.2.2.1) 62 res.2.2.2.2.2.2.2.2.2.2.2.2.2.1) (dl_u (dl_u (dl_u (dl_u jv 8 res.2.2.2.2.2.1) 9 res.2.2.2.2.2.2.1) 10 res.2.2.2.2.2.2.2.2.2.2.1) 11 res.2.2.2.2.2.2.2.2.2.2.2.1) (dl_u (dl_u ia 12 res.2.2.2.2.2.2.2.2.2.2.2.2.2.2.1) 13 res.2.2.2.2.2.2.2.2.2.2.2.2.2.2.2) (dl_u ja 1 res.2.2.2.2.2.2.2.2.2.2.2.2.1) tv := by
  obtain ⟨⟨w, h, hex, o, t, hk, ho, ht, hV, hm⟩, hS0, hKP, hh, hg, hg2, h01, hT⟩ := id hR
  obtain ⟨e1, e2, e3, rfl, rfl⟩ := dl_V hV
  obtain ⟨v, sf, fd, tw, th, tx, to, tt, sr, R, q1, hg', q2, h01'⟩ := q_kind hk ho ht hg (iv 44) (iv 45) (iv 46) (jv 10) (jv 11) hm h01 (ia 13) (a 1) (a 2)
  unfold fL_18
  rw [e1, e2, e3, hT.1]
  exact ⟨_, dl_both q1 q2, dl_mk ⟨w, h, hex, _, _, hk, ho, ht, hV, hm⟩ hS0 hKP hh hg' hg2 h01' hT⟩
set_option maxRecDepth 100000 in
set_option maxHeartbeats 4000000 in
theorem r_L_16 {iv : Nat → Int32} {jv : Nat → Int64} {ia : Nat → Nat → Int32} {ja : Nat → Nat → Int64} {tv : Nat → ds_TV} (hR : dl_R iv jv ia ja tv) (a : Nat → Int32) : ∃ res, fL_16 (iv 1) (iv 2) (iv 3) (jv 0) (jv 1) (iv 35) (iv 36) (iv 41) (iv 42) (iv 43) (jv 8) (jv 9) (iv 44) (iv 45) (iv 46) (jv 10) (jv 11) (ja 1) (ia 4) (ia 7) (ia 12) a = some res ∧ dl_R (dl_u (dl_u (dl_u (dl_u (dl_u (dl_u (dl_u (dl_u (dl_u iv 35 res.1) 36 res.2.1) 41 res.2.2.1) 42 res.2.2.2.1) 43 res.2.2.2.2.1) 44 res.2.2.2.2.2.2.2.1) 45 res.2.2.2.2.2.2.2.2.1) 46 res.2.2.2.2.2.2.2.2.2.1) 62 res.2.2.2.2.2.2.2.2.2.2.2.2.2.1) (dl_u (dl_u (dl_u (dl_u jv 8 res.2.2.2.2.2.1) 9 res.2.2.2.2.2.2.1) 10 res.2.2.2.2.2.2.2.2.2.2.1) 11 res.2.2.2.2.2.2.2.2.2.2.2.1) (dl_u ia 12 res.2.2.2.2.2.2.2.2.2.2.2.2.2.2) (dl_u ja 1 res.2.2.2.2.2.2.2.2.2.2.2.2.1) tv := by
  obtain ⟨⟨w, h, hex, o, t, hk, ho, ht, hV, hm⟩, hS0, hKP, hh, hg, hg2, h01, hT⟩ := id hR
  obtain ⟨e1, e2, e3, rfl, rfl⟩ := dl_V hV
  obtain ⟨v, sf, fd, tw, th, tx, to, tt, sr, q1, hg', q2, h01'⟩ := q_flip hk ho ht hg (iv 44) (iv 45) (iv 46) (jv 10) (jv 11) hm h01 (a 1)
  unfold fL_16
  rw [e1, e2, e3, hT.1]
  exact ⟨_, dl_both q1 q2, dl_mk ⟨w, h, hex, _, _, hk, ho, ht, hV, hm⟩ hS0 hKP hh hg' hg2 h01' hT⟩
set_option maxRecDepth 100000 in
set_option maxHeartbeats 4000000 in
theorem r_L_17 {iv : Nat → Int32} {jv : Nat → Int64} {ia : Nat → Nat → Int32} {ja : Nat → Nat → Int64} {tv : Nat → ds_TV} (hR : dl_R iv jv ia ja tv) (a : Nat → Int32) : ∃ res, fL_17 (iv 1) (iv 2) (iv 3) (jv 0) (jv 1) (iv 35) (iv 36) (iv 41) (iv 42) (iv 43) (jv 8) (jv 9) (iv 44) (iv 45) (iv 46) (jv 10) (jv 11) (ja 1) (ia 4) (ia 7) (ia 12) a = some res ∧ dl_R (dl_u (dl_u (dl_u (dl_u (dl_u (dl_u (dl_u (dl_u (dl_u iv 35 res.1) 36 res.2.1) 41 res.2.2.1) 42 res.2.2.2.1) 43 res.2.2.2.2.1) 44 res.2.2.2.2.2.2.2.1) 45 res.2.2.2.2.2.2.2.2.1) 46 res.2.2.2.2.2.2.2.2.2.1) 62 res.2.2.2.2.2.2.2.2.2.2.2.2.2.1) (dl_u (dl_u (dl_u (dl_u jv 8 res.2.2.2.2.2.1) 9 res.2.2.2.2.2.2.1) 10 res.2.2.2.2.2.2.2.2.2.2.1) 11 res.2.2.2.2.2.2.2.2.2.2.2.1) (dl_u ia 12 res.2.2.2.2.2.2.2.2.2.2.2.2.2.2) (dl_u ja 1 res.2.2.2.2.2.2.2.2.2.2.2.2.1) tv := by
  obtain ⟨⟨w, h, hex, o, t, hk, ho, ht, hV, hm⟩, hS0, hKP, hh, hg, hg2, h01, hT⟩ := id hR
  obtain ⟨e1, e2, e3, rfl, rfl⟩ := dl_V hV
  obtain ⟨v, lk, sf, sw, sh, shx, so, st, fd, tw, th, tx, to, tt, q1, hg', sr, q2, h01'⟩ := q_centre hk ho ht hg (iv 44) (iv 45) (iv 46) (jv 10) (jv 11) hm h01 (a 1) (a 2) (a 3)
  unfold fL_17
  rw [e1, e2, e3, hT.1]
  exact ⟨_, dl_both q1 q2, dl_mk ⟨w, h, hex, _, _, hk, ho, ht, hV, hm⟩ hS0 hKP hh hg' hg2 h01' hT⟩
set_option maxRecDepth 100000 in
set_option maxHeartbeats 4000000 in
theorem r_L_15 {iv : Nat → Int32} {jv : Nat → Int64} {ia : Nat → Nat → Int32} {ja : Nat → Nat → Int64} {tv : Nat → ds_TV} (hR : dl_R iv jv ia ja tv) (a : Nat → Int32) : ∃ res, fL_15 (iv 1) (iv 2) (iv 3) (jv 0) (jv 1) (iv 35) (iv 36) (iv 41) (iv 42) (iv 43) (jv 8) (jv 9) (iv 44) (iv 45) (iv 46) (jv 10) (jv 11) (ja 1) (ia 4) (ia 7) (ia 12) a = some res ∧ dl_R (dl_u (dl_u (dl_u (dl_u (dl_u (dl_u (dl_u (dl_u (dl_u iv 35 res.1) 36 res.2.1) 41 res.2.2.1) 42 res.2.2.2.1) 43 res.2.2.2.2.1) 44 res.2.2.2.2.2.2.2.1) 45 res.2.2.2.2.2.2.2.2.1) 46 res.2.2.2.2.2.2.2.2.2.1) 62 res.2.2.2.2.2.2.2.2.2.2.2.2.2.1) (dl_u (dl_u (dl_u (dl_u jv 8 res.2.2.2.2.2.1) 9 res.2.2.2.2.2.2.1) 10 res.2.2.2.2.2.2.2.2.2.2.1) 11 res.2.2.2.2.2.2.2.2.2.2.2.1) (dl_u ia 12 res.2.2.2.2.2.2.2.2.2.2.2.2.2.2) (dl_u ja 1 res.2.2.2.2.2.2.2.2.2.2.2.2.1) tv := by
  obtain ⟨⟨w, h, hex, o, t, hk, ho, ht, hV, hm⟩, hS0, hKP, hh, hg, hg2, h01, hT⟩ := id hR
  obtain ⟨e1, e2, e3, rfl, rfl⟩ := dl_V hV
  obtain ⟨v, lk, sf, sw, sh, shx, so, st, fd, tw, th, tx, to, tt, q1, hg', sr, q2, h01'⟩ := q_shifts hk ho ht hg (iv 44) (iv 45) (iv 46) (jv 10) (jv 11) hm h01 (a 1) (a 2) (a 3)
  unfold fL_15
  rw [e1, e2, e3, hT.1]
  exact ⟨_, dl_both q1 q2, dl_mk ⟨w, h, hex, _, _, hk, ho, ht, hV, hm⟩ hS0 hKP hh hg' hg2 h01' hT⟩
set_option maxRecDepth 100000 in
set_option maxHeartbeats 4000000 in
theorem r_L_20 {iv : Nat → Int32} {jv : Nat → Int64} {ia : Nat → Nat → Int32} {ja : Nat → Nat → Int64} {tv : Nat → ds_TV} (hR : dl_R iv jv ia ja tv) (a : Nat → Int32) : ∃ res, fL_20 (iv 1) (iv 2) (iv 3) (jv 0) (jv 1) (iv 35) (iv 36) (iv 41) (iv 42) (iv 43) (jv 8) (jv 9) (iv 44) (iv 45) (iv 46) (jv 10) (jv 11) (ja 1) (ia 4) (ia 7) (ia 12) (ia 14) (ia 15) a = some res ∧ dl_R (dl_u (dl_u (dl_u (dl_u (dl_u (dl_u (dl_u (dl_u (dl_u iv 35 res.1) 36 res.2.1) 41 res.2.2.1) 42 res.2.2.2.1) 43 res.2.2.2.2.1) 44 res.2.2.2.2.2.2.2.1) 45 res.2.2.2.2.2.2.2.2.1) 46 res.2.2.2.2.2.2.2.2.2.1) 62 res.2.2.2.2.2.2.2.2.2.2.2.2.2.1) (dl_u (dl_u (dl_u (dl_u jv 8 res.2.2.2.2.2.1) 9 res.2.2.2.2.2.2.1) 10 res.2.2.2.2.2.2.2.2.2.2.1) 11 res.2.2.2.2.2.2.2.2.2.2.2.1) (dl_u (dl_u (dl_u ia 12 res.2.2.2.2.2.2.2.2.2.2.2.2.2.2.1) 14 res.2.2.2.2.2.2.2.2.2.2.2.2.2.2.2.1) 15 res.2.2.2.2.2.2.2.2.2.2.2.2.2.2.2.2) (dl_u ja 1 res.2.2.2.2.2.2.2.2.2.2.2.2.1) tv := by
  obtain ⟨⟨w, h, hex, o, t, hk, ho, ht, hV, hm⟩, hS0, hKP, hh, hg, hg2, h01, hT⟩ := id hR
  obtain ⟨e1, e2, e3, rfl, rfl⟩ := dl_V hV
  obtain ⟨v, lk, sf, sw, sh, shx, so, st, fd, tw, th, tx, to, tt, q1, hg', sr, bc, cm, q2, h01'⟩ := q_coloured hk ho ht hg (iv 44) (iv 45) (iv 46) (jv 10) (jv 11) hm h01 (ia 14) (ia 15) (a 1) (ds_q (decide ((a 2) ≠ 0)))
  unfold fL_20
  rw [e1, e2, e3, hT.1]
  exact ⟨_, dl_both q1 q2, dl_mk ⟨w, h, hex, _, _, hk, ho, ht, hV, hm⟩ hS0 hKP hh hg' hg2 h01' hT⟩
set_option maxRecDepth 100000 in
set_option maxHeartbeats 4000000 in
theorem r_L_19 {iv : Nat → Int32} {jv : Nat → Int64} {ia : Nat → Nat → Int32} {ja : Nat → Nat → Int64} {tv : Nat → ds_TV} (hR : dl_R iv jv ia ja tv) (a : Nat → Int32) : ∃ res, fL_19 (iv 1) (iv 2) (iv 3) (jv 0) (jv 1) (iv 59) (iv 60) (iv 61) (jv 16) (jv 17) (ia 7) a = some res ∧ dl_R (dl_u (dl_u (dl_u (dl_u iv 59 res.1) 60 res.2.1) 61 res.2.2.1) 62 res.2.2.2.2.2) (dl_u (dl_u jv 16 res.2.2.2.1) 17 res.2.2.2.2.1) ia ja tv := by
  obtain ⟨⟨w, h, hex, o, t, hk, ho, ht, hV, hm⟩, hS0, hKP, hh, hg, hg2, h01, hT⟩ := id hR
  obtain ⟨e1, e2, e3, rfl, rfl⟩ := dl_V hV
  obtain ⟨v, dw, dh, dx, do_, dt, q1, q2⟩ := q_strip hk ho ht (iv 59) (iv 60) (iv 61) (jv 16) (jv 17) hm (a 1)
  unfold fL_19
  rw [e1, e2, e3]
  exact ⟨_, dl_both q1 q2, dl_mk ⟨w, h, hex, _, _, hk, ho, ht, hV, hm⟩ hS0 hKP hh hg hg2 h01 hT⟩
set_option maxRecDepth 100000 in
set_option maxHeartbeats 4000000 in
theorem r_L_22 {iv : Nat → Int32} {jv : Nat → Int64} {ia : Nat → Nat → Int32} {ja : Nat → Nat → Int64} {tv : Nat → ds_TV} (hR : dl_R iv jv ia ja tv) (a : Nat → Int32) : ∃ res, fL_22 (iv 1) (iv 2) (iv 3) (jv 0) (jv 1) (iv 34) (ja 0) (ia 4) (ia 5) (ia 6) (ia 7) (ia 13) a = some res ∧ dl_R (dl_u (dl_u iv 34 res.1) 62 res.2.2.1) jv (dl_u ia 13 res.2.2.2) (dl_u ja 0 res.2.1) tv := by
  obtain ⟨⟨w, h, hex, o, t, hk, ho, ht, hV, hm⟩, hS0, hKP, hh, hg, hg2, h01, hT⟩ := id hR
  obtain ⟨e1, e2, e3, rfl, rfl⟩ := dl_V hV
  obtain ⟨v, sz, mem, R, q1, q2⟩ := q_flaws hk hm (iv 34) (ja 0) (ia 13) (a 1)
  unfold fL_22
  rw [e1, e2, e3, hT.1, hT.2.1, hT.2.2]
  exact ⟨_, dl_both q1 q2, dl_mk ⟨w, h, hex, _, _, hk, ho, ht, hV, hm⟩ hS0 hKP hh hg hg2 h01 hT⟩
set_option maxRecDepth 100000 in
set_option maxHeartbeats 4000000 in
theorem r_L_23 {iv : Nat → Int32} {jv : Nat → Int64} {ia : Nat → Nat → Int32} {ja : Nat → Nat → Int64} {tv : Nat → ds_TV} (hR : dl_R iv jv ia ja tv) (a : Nat → Int32) : ∃ res, fL_23 (iv 1) (iv 2) (iv 3) (iv 34) (ja 0) (ia 4) (ia 5) (ia 6) (ia 7) (ia 13) a = some res ∧ dl_R (dl_u (dl_u iv 34 res.1) 62 res.2.2.1) jv (dl_u ia 13 res.2.2.2) (dl_u ja 0 res.2.1) tv := by
  obtain ⟨⟨w, h, hex, o, t, hk, ho, ht, hV, hm⟩, hS0, hKP, hh, hg, hg2, h01, hT⟩ := id hR
  obtain ⟨e1, e2, e3, rfl, rfl⟩ := dl_V hV
  obtain ⟨v, sz, mem, R, q1, q2⟩ := q_orbit hk hm (iv 34) (ja 0) (ia 13) (a 1) (a 2) (a 3) (ds_q (decide ((a 4) ≠ 0)))
  unfold fL_23
  rw [e1, e2, e3, hT.1, hT.2.1, hT.2.2]
  exact ⟨_, dl_both q1 q2, dl_mk ⟨w, h, hex, _, _, hk, ho, ht, hV, hm⟩ hS0 hKP hh hg hg2 h01 hT⟩
set_option maxRecDepth 100000 in
set_option maxHeartbeats 4000000 in
theorem r_L_24 {iv : Nat → Int32} {jv : Nat → Int64} {ia : Nat → Nat → Int32} {ja : Nat → Nat → Int64} {tv : Nat → ds_TV} (hR : dl_R iv jv ia ja tv) (a : Nat → Int32) : ∃ res, fL_24 (iv 1) (iv 2) (iv 3) (jv 0) (jv 1) (iv 34) (ja 0) (ia 4) (ia 5) (ia 6) (ia 7) (ia 13) a = some res ∧ dl_R (dl_u (dl_u iv 34 res.1) 62 res.2.2.1) jv (dl_u ia 13 res.2.2.2) (dl_u ja 0 res.2.1) tv := by
  obtain ⟨⟨w, h, hex, o, t, hk, ho, ht, hV, hm⟩, hS0, hKP, hh, hg, hg2, h01, hT⟩ := id hR
  obtain ⟨e1, e2, e3, rfl, rfl⟩ := dl_V hV
  obtain ⟨v, sz, mem, R, q1, q2⟩ := q_nearest hk hm (iv 34) (ja 0) (ia 13) (a 1)
  unfold fL_24
  rw [e1, e2, e3, hT.1, hT.2.1, hT.2.2]
  exact ⟨_, dl_both q1 q2, dl_mk ⟨w, h, hex, _, _, hk, ho, ht, hV, hm⟩ hS0 hKP hh hg hg2 h01 hT⟩
set_option maxRecDepth 100000 in
set_option maxHeartbeats 4000000 in
theorem r_L_25 {iv : Nat → Int32} {jv : Nat → Int64} {ia : Nat → Nat → Int32} {ja : Nat → Nat → Int64} {tv : Nat → ds_TV} (hR : dl_R iv jv ia ja tv) (a : Nat → Int32) : ∃ res, fL_25 (iv 1) (iv 2) (iv 3) (jv 0) (jv 1) (iv 47) (iv 48) (iv 49) (iv 50) (iv 51) (iv 52) (iv 53) (iv 54) (iv 55) (jv 12) (jv 13) (iv 56) (iv 57) (iv 58) (jv 14) (jv 15) (ja 2) (iv 59) (iv 60) (iv 61) (jv 16) (jv 17) (iv 72) (iv 73) (iv 74) (iv 75) (ia 4) (ia 7) (ia 12) a = some res ∧ dl_R (dl_u (dl_u (dl_u (dl_u (dl_u (dl_u (dl_u (dl_u (dl_u (dl_u (dl_u (dl_u (dl_u (dl_u (dl_u (dl_u (dl_u (dl_u (dl_u (dl_u iv 47 res.1) 48 res.2.1) 49 res.2.2.1) 50 res.2.2.2.1) 51 res.2.2.2.2.1) 52 res.2.2.2.2.2.1) 53 res.2.2.2.2.2.2.1) 54 res.2.2.2.2.2.2.2.1) 55 res.2.2.2.2.2.2.2.2.1) 56 res.2.2.2.2.2.2.2.2.2.2.2.1) 57 res.2.2.2.2.2.2.2.2.2.2.2.2.1) 58 res.2.2.2.2.2.2.2.2.2.2.2.2.2.1) 59 res.2.2.2.2.2.2.2.2.2.2.2.2.2.2.2.2.2.1) 60 res.2.2.2.2.2.2.2.2.2.2.2.2.2.2.2.2.2.2.1) 61 res.2.2.2.2.2.2.2.2.2.2.2.2.2.2.2.2.2.2.2.1) 62 res.2.2.2.2.2.2.2.2.2.2.2.2.2.2.2.2.2.2.2.2.2.2.1) 72 res.2.2.2.2.2.2.2.2.2.2.2.2.2.2.2.2.2.2.2.2.2.2.2.1) 73 res.2.2.2.2.2.2.2.2.2.2.2.2.2.2.2.2.2.2.2.2.2.2.2.2.1) 74 res.2.2.2.2.2.2.2.2.2.2.2.2.2.2.2.2.2.2.2.2.2.2.2.2.2.1) 75 res.2.2.2.2.2.2.2.2.2.2.2.2.2.2.2.2.2.2.2.2.2.2.2.2.2.2.1) (dl_u (dl_u (dl_u (dl_u (dl_u (dl_u jv 12 res.2.2.2.2.2.2.2.2.2.1) 13 res.2.2.2.2.2.2.2.2.2.2.1) 14 res.2.2.2.2.2.2.2.2.2.2.2.2.2.2.1) 15 res.2.2.2.2.2.2.2.2.2.2.2.2.2.2.2.1) 16 res.2.2.2.2.2.2.2.2.2.2.2.2.2.2.2.2.2.2.2.2.1) 17 res.2.2.2.2.2.2.2.2.2.2.2.2.2.2.2.2.2.2.2.2.2.1) (dl_u (dl_u ia 7 res.2.2.2.2.2.2.2.2.2.2.2.2.2.2.2.2.2.2.2.2.2.2.2.2.2.2.2.1) 12 res.2.2.2.2.2.2.2.2.2.2.2.2.2.2.2.2.2.2.2.2.2.2.2.2.2.2.2.2) (dl_u ja 2 res.2.2.2.2.2.2.2.2.2.2.2.2.2.2.2.2.1) tv := by
  obtain ⟨⟨w, h, hex, o, t, hk, ho, ht, hV, hm⟩, hS0, hKP, hh, hg, hg2, h01, hT⟩ := id hR
  obtain ⟨e1, e2, e3, rfl, rfl⟩ := dl_V hV
  obtain ⟨v, d1, d2, d3, d4, d5, fx, fy, gx, gy, tl, ts, tsw, tsh, tsx, tso, tst, tfd, ttw, tth, ttx, tto, ttt, a1, a2, a3, a4, sr, q1, q2, hg', h01'⟩ := q_painted hk ho ht hm (iv 59) (iv 60) (iv 61) (jv 16) (jv 17) (ttw := iv 56) (tth := iv 57) (ttx := iv 58) (tto := jv 14) (ttt := jv 15) hg2 h01 (iv 72) (iv 73) (iv 74) (iv 75) (a 1) (a 2) (a 3)
  unfold fL_25
  rw [e1, e2, e3, hT.1]
  exact ⟨_, dl_both q1 q2, dl_mk ⟨w, h, hex, _, _, hk, ho, ht, hV, hm⟩ hS0 hKP hh hg hg' h01' hT⟩
set_option maxRecDepth 100000 in
set_option maxHeartbeats 4000000 in
theorem r_L_26 {iv : Nat → Int32} {jv : Nat → Int64} {ia : Nat → Nat → Int32} {ja : Nat → Nat → Int64} {tv : Nat → ds_TV} (hR : dl_R iv jv ia ja tv) (a : Nat → Int32) : ∃ res, fL_26 (iv 1) (iv 2) (iv 3) (jv 0) (jv 1) (iv 35) (iv 36) (iv 41) (iv 42) (iv 43) (jv 8) (jv 9) (iv 44) (iv 45) (iv 46) (jv 10) (jv 11) (ja 1) (iv 47) (iv 48) (iv 53) (iv 54) (iv 55) (jv 12) (jv 13) (iv 56) (iv 57) (iv 58) (jv 14) (jv 15) (ja 2) (iv 59) (iv 60) (iv 61) (jv 16) (jv 17) (ia 4) (ia 7) (ia 12) (ia 13) = some res ∧ dl_R (dl_u (dl_u (dl_u (dl_u (dl_u (dl_u (dl_u (dl_u (dl_u (dl_u (dl_u (dl_u (dl_u (dl_u (dl_u (dl_u (dl_u (dl_u (dl_u (dl_u iv 35 res.1) 36 res.2.1) 41 res.2.2.1) 42 res.2.2.2.1) 43 res.2.2.2.2.1) 44 res.2.2.2.2.2.2.2.1) 45 res.2.2.2.2.2.2.2.2.1) 46 res.2.2.2.2.2.2.2.2.2.1) 47 res.2.2.2.2.2.2.2.2.2.2.2.2.2.1) 48 res.2.2.2.2.2.2.2.2.2.2.2.2.2.2.1) 53 res.2.2.2.2.2.2.2.2.2.2.2.2.2.2.2.1) 54 res.2.2.2.2.2.2.2.2.2.2.2.2.2.2.2.2.1) 55 res.2.2.2.2.2.2.2.2.2.2.2.2.2.2.2.2.2.1) 56 res.2.2.2.2.2.2.2.2.2.2.2.2.2.2.2.2.2.2.2.2.1) 57 res.2.2.2.2.2.2.2.2.2.2.2.2.2.2.2.2.2.2.2.2.2.1) 58 res.2.2.2.2.2.2.2.2.2.2.2.2.2.2.2.2.2.2.2.2.2.2.1) 59 res.2.2.2.2.2.2.2.2.2.2.2.2.2.2.2.2.2.2.2.2.2.2.2.2.2.2.1) 60 res.2.2.2.2.2.2.2.2.2.2.2.2.2.2.2.2.2.2.2.2.2.2.2.2.2.2.2.1) 61 res.2.2.2.2.2.2.2.2.2.2.2.2.2.2.2.2.2.2.2.2.2.2.2.2.2.2.2.2.1) 62 res.2.2.2.2.2.2.2.2.2.2.2.2.2.2.2.2.2.2.2.2.2.2.2.2.2.2.2.2.2.2.2.1) (dl_u (dl_u (dl_u (dl_u (dl_u (dl_u (dl_u (dl_u (dl_u (dl_u jv 8 res.2.2.2.2.2.1) 9 res.2.2.2.2.2.2.1) 10 res.2.2.2.2.2.2.2.2.2.2.1) 11 res.2.2.2.2.2.2.2.2.2.2.2.1) 12 res.2.2.2.2.2.2.2.2.2.2.2.2.2.2.2.2.2.2.1) 13 res.2.2.2.2.2.2.2.2.2.2.2.2.2.2.2.2.2.2.2.1) 14 res.2.2.2.2.2.2.2.2.2.2.2.2.2.2.2.2.2.2.2.2.2.2.2.1) 15 res.2.2.2.2.2.2.2.2.2.2.2.2.2.2.2.2.2.2.2.2.2.2.2.2.1) 16 res.2.2.2.2.2.2.2.2.2.2.2.2.2.2.2.2.2.2.2.2.2.2.2.2.2.2.2.2.2.1) 17 res.2.2.2.2.2.2.2.2.2.2.2.2.2.2.2.2.2.2.2.2.2.2.2.2.2.2.2.2.2.2.1) (dl_u (dl_u (dl_u ia 7 res.2.2.2.2.2.2.2.2.2.2.2.2.2.2.2.2.2.2.2.2.2.2.2.2.2.2.2.2.2.2.2.2.1) 12 res.2.2.2.2.2.2.2.2.2.2.2.2.2.2.2.2.2.2.2.2.2.2.2.2.2.2.2.2.2.2.2.2.2.1) 13 res.2.2.2.2.2.2.2.2.2.2.2.2.2.2.2.2.2.2.2.2.2.2.2.2.2.2.2.2.2.2.2.2.2.2) (dl_u (dl_u ja 1 res.2.2.2.2.2.2.2.2.2.2.2.2.1) 2 res.2.2.2.2.2.2.2.2.2.2.2.2.2.2.2.2.2.2.2.2.2.2.2.2.2.1) tv := by
  obtain ⟨⟨w, h, hex, o, t, hk, ho, ht, hV, hm⟩, hS0, hKP, hh, hg, hg2, h01, hT⟩ := id hR
  obtain ⟨e1, e2, e3, rfl, rfl⟩ := dl_V hV
  obtain ⟨v, l, s, sw, sh, sx, so, st, fd, tw, th, tx, to, tt, d1, d2, d3, d4, d5, tl, ts, tsw, tsh, tsx, tso, tst, tfd, ttw, tth, ttx, tto, ttt, sr, R, q1, q2, hg', hg2', h01'⟩ := q_better hk ho ht hm (tw := iv 44) (th := iv 45) (tx := iv 46) (to := jv 10) (tt := jv 11) hg (iv 59) (iv 60) (iv 61) (jv 16) (jv 17) (ttw := iv 56) (tth := iv 57) (ttx := iv 58) (tto := jv 14) (ttt := jv 15) hg2 h01 (ia 13)
  unfold fL_26
  rw [e1, e2, e3, hT.1]
  exact ⟨_, dl_both q1 q2, dl_mk ⟨w, h, hex, _, _, hk, ho, ht, hV, hm⟩ hS0 hKP hh hg' hg2' h01' hT⟩
set_option maxRecDepth 100000 in
set_option maxHeartbeats 4000000 in
theorem r_L_21_e0 {iv : Nat → Int32} {jv : Nat → Int64} {ia : Nat → Nat → Int32} {ja : Nat → Nat → Int64} {tv : Nat → ds_TV} (hR : dl_R iv jv ia ja tv) (a : Nat → Int32) (hp : a 1 = nI 0) : ∃ res, fL_21_e0 (iv 1) (iv 2) (iv 3) (jv 0) (jv 1) (iv 8) (iv 9) (iv 10) (iv 11) (jv 2) (jv 3) (iv 59) (iv 60) (iv 61) (jv 16) (jv 17) (ia 4) (ia 7) (ia 9) (ia 12) a = some res ∧ dl_R (dl_u (dl_u (dl_u (dl_u iv 59 res.1) 60 res.2.1) 61 res.2.2.1) 62 res.2.2.2.2.2.1) (dl_u (dl_u jv 16 res.2.2.2.1) 17 res.2.2.2.2.1) (dl_u ia 12 res.2.2.2.2.2.2) ja tv := by
  obtain ⟨⟨w, h, hex, o, t, hk, ho, ht, hV, hm⟩, hS0, hKP, hh, hg, hg2, h01, hT⟩ := id hR
  obtain ⟨e1, e2, e3, rfl, rfl⟩ := dl_V hV
  obtain ⟨v, dw, dh, dx, do_, dt, sr, q1, q2, h01'⟩ := q_lik0 hk ho ht hm h01 hKP.1 (iv 59) (iv 60) (iv 61) (jv 16) (jv 17)
  unfold fL_21_e0
  rw [e1, e2, e3, hT.1, hp]
  exact ⟨_, dl_both q1 q2, dl_mk ⟨w, h, hex, _, _, hk, ho, ht, hV, hm⟩ hS0 hKP hh hg hg2 h01' hT⟩
set_option maxRecDepth 100000 in
set_option maxHeartbeats 4000000 in
theorem r_L_21_e1 {iv : Nat → Int32} {jv : Nat → Int64} {ia : Nat → Nat → Int32} {ja : Nat → Nat → Int64} {tv : Nat → ds_TV} (hR : dl_R iv jv ia ja tv) (a : Nat → Int32) (hp : a 1 = nI 1) : ∃ res, fL_21_e1 (iv 1) (iv 2) (iv 3) (jv 0) (jv 1) (iv 16) (iv 17) (iv 18) (iv 19) (jv 4) (jv 5) (iv 59) (iv 60) (iv 61) (jv 16) (jv 17) (ia 4) (ia 7) (ia 9) (ia 12) a = some res ∧ dl_R (dl_u (dl_u (dl_u (dl_u iv 59 res.1) 60 res.2.1) 61 res.2.2.1) 62 res.2.2.2.2.2.1) (dl_u (dl_u jv 16 res.2.2.2.1) 17 res.2.2.2.2.1) (dl_u ia 12 res.2.2.2.2.2.2) ja tv := by
  obtain ⟨⟨w, h, hex, o, t, hk, ho, ht, hV, hm⟩, hS0, hKP, hh, hg, hg2, h01, hT⟩ := id hR
  obtain ⟨e1, e2, e3, rfl, rfl⟩ := dl_V hV
  obtain ⟨v, dw, dh, dx, do_, dt, sr, q1, q2, h01'⟩ := q_lik1 hk ho ht hm h01 hKP.2.1 (iv 59) (iv 60) (iv 61) (jv 16) (jv 17)
  unfold fL_21_e1
  rw [e1, e2, e3, hT.1, hp]
  exact ⟨_, dl_both q1 q2, dl_mk ⟨w, h, hex, _, _, hk, ho, ht, hV, hm⟩ hS0 hKP hh hg hg2 h01' hT⟩
set_option maxRecDepth 100000 in
set_option maxHeartbeats 4000000 in
theorem r_L_21_e2 {iv : Nat → Int32} {jv : Nat → Int64} {ia : Nat → Nat → Int32} {ja : Nat → Nat → Int64} {tv : Nat → ds_TV} (hR : dl_R iv jv ia ja tv) (a : Nat → Int32) (hp : a 1 = nI 2) : ∃ res, fL_21_e2 (iv 1) (iv 2) (iv 3) (jv 0) (jv 1) (iv 24) (iv 25) (iv 26) (iv 27) (jv 6) (jv 7) (iv 59) (iv 60) (iv 61) (jv 16) (jv 17) (ia 4) (ia 7) (ia 9) (ia 12) a = some res ∧ dl_R (dl_u (dl_u (dl_u (dl_u iv 59 res.1) 60 res.2.1) 61 res.2.2.1) 62 res.2.2.2.2.2.1) (dl_u (dl_u jv 16 res.2.2.2.1) 17 res.2.2.2.2.1) (dl_u ia 12 res.2.2.2.2.2.2) ja tv := by
  obtain ⟨⟨w, h, hex, o, t, hk, ho, ht, hV, hm⟩, hS0, hKP, hh, hg, hg2, h01, hT⟩ := id hR
  obtain ⟨e1, e2, e3, rfl, rfl⟩ := dl_V hV
  obtain ⟨v, dw, dh, dx, do_, dt, sr, q1, q2, h01'⟩ := q_lik2 hk ho ht hm h01 hKP.2.2 (iv 59) (iv 60) (iv 61) (jv 16) (jv 17)
  unfold fL_21_e2
  rw [e1, e2, e3, hT.1, hp]
  exact ⟨_, dl_both q1 q2, dl_mk ⟨w, h, hex, _, _, hk, ho, ht, hV, hm⟩ hS0 hKP hh hg hg2 h01' hT⟩
set_option maxRecDepth 100000 in
set_option maxHeartbeats 4000000 in
theorem r_L_21_en {iv : Nat → Int32} {jv : Nat → Int64} {ia : Nat → Nat → Int32} {ja : Nat → Nat → Int64} {tv : Nat → ds_TV} (hR : dl_R iv jv ia ja tv) (a : Nat → Int32) (hp : (a 1).toInt < 0 ∨ 3 ≤ (a 1).toInt) : ∃ res, fL_21_en (ia 4) (ia 7) (ia 9) (ia 12) a = some res ∧ dl_R (dl_u iv 62 res.1) jv (dl_u ia 12 res.2) ja tv := by
  obtain ⟨⟨w, h, hex, o, t, hk, ho, ht, hV, hm⟩, hS0, hKP, hh, hg, hg2, h01, hT⟩ := id hR
  obtain ⟨e1, e2, e3, rfl, rfl⟩ := dl_V hV
  obtain ⟨q1, q2⟩ := q_likN (ia 9) (ia 7) (ia 12) hp
  unfold fL_21_en
  rw [hT.1]
  exact ⟨_, dl_one q1 q2, dl_mk ⟨w, h, hex, _, _, hk, ho, ht, hV, hm⟩ hS0 hKP hh hg hg2 h01 hT⟩
set_option maxRecDepth 100000 in
set_option maxHeartbeats 4000000 in
theorem r_L_27_e0 {iv : Nat → Int32} {jv : Nat → Int64} {ia : Nat → Nat → Int32} {ja : Nat → Nat → Int64} {tv : Nat → ds_TV} (hR : dl_R iv jv ia ja tv) (a : Nat → Int32) (hp : a 1 = nI 0) : ∃ res, fL_27_e0 (iv 1) (iv 2) (iv 3) (jv 0) (jv 1) (iv 4) (iv 5) (iv 6) (ia 0) (iv 8) (iv 9) (iv 10) (iv 11) (jv 2) (jv 3) (iv 12) (iv 13) (iv 14) (ia 1) (ia 7) (ia 8) (ia 9) a = some res ∧ dl_R (dl_u (dl_u (dl_u (dl_u (dl_u (dl_u (dl_u (dl_u iv 8 res.1) 9 res.2.1) 10 res.2.2.1) 11 res.2.2.2.1) 12 res.2.2.2.2.2.2.1) 13 res.2.2.2.2.2.2.2.1) 14 res.2.2.2.2.2.2.2.2.1) 62 res.2.2.2.2.2.2.2.2.2.2.1) (dl_u (dl_u jv 2 res.2.2.2.2.1) 3 res.2.2.2.2.2.1) (dl_u (dl_u (dl_u (dl_u ia 1 res.2.2.2.2.2.2.2.2.2.1) 7 res.2.2.2.2.2.2.2.2.2.2.2.1) 8 res.2.2.2.2.2.2.2.2.2.2.2.2.1) 9 res.2.2.2.2.2.2.2.2.2.2.2.2.2) ja tv := by
  obtain ⟨⟨w, h, hex, o, t, hk, ho, ht, hV, hm⟩, hS0, hKP, hh, hg, hg2, h01, hT⟩ := id hR
  obtain ⟨e1, e2, e3, rfl, rfl⟩ := dl_V hV
  obtain ⟨by', al, tx, q1, q2, hPG, hj, hx⟩ := q_img0 hk ho ht hm hS0.1 hS0.2.1 hS0.2.2 (ia 9) (iv 8) (iv 9) (iv 10) (iv 11) (jv 2) (jv 3) (iv 12) (iv 13) (iv 14) (ia 1)
  unfold fL_27_e0
  rw [e1, e2, e3, hp]
  exact ⟨_, dl_both q1 q2, dl_mk (TM_cong ⟨w, h, hex, _, _, hk, ho, ht, hV, hm⟩ (fun j z => hj j (by omega))) ⟨dl_PTt hS0.1 (hj 67 (by omega)) (fun i z => hx i (by omega)), (hj 68 (by omega)).trans hS0.2.1, (hj 69 (by omega)).trans hS0.2.2⟩ ⟨⟨true, rfl, show upd (ia 9) 0 1 0 = 1 from upd_at _ _ _, fun _ => hPG⟩, dl_KPk hKP.2.1 (show upd (ia 9) 0 1 1 = ia 9 1 from upd_ne _ _ (by decide)) (fun j => if z : j < 70 then Or.inl (hj _ (by omega)) else Or.inr (by omega)) (fun j => if z : j < 200 then Or.inl (hx _ (by omega)) else Or.inr (by omega)), dl_KPk hKP.2.2 (show upd (ia 9) 0 1 2 = ia 9 2 from upd_ne _ _ (by decide)) (fun j => if z : j < 70 then Or.inl (hj _ (by omega)) else Or.inr (by omega)) (fun j => if z : j < 200 then Or.inl (hx _ (by omega)) else Or.inr (by omega))⟩ hh hg hg2 h01 hT⟩
set_option maxRecDepth 100000 in
set_option maxHeartbeats 4000000 in
theorem r_L_27_e1 {iv : Nat → Int32} {jv : Nat → Int64} {ia : Nat → Nat → Int32} {ja : Nat → Nat → Int64} {tv : Nat → ds_TV} (hR : dl_R iv jv ia ja tv) (a : Nat → Int32) (hp : a 1 = nI 1) : ∃ res, fL_27_e1 (iv 1) (iv 2) (iv 3) (jv 0) (jv 1) (iv 4) (iv 5) (iv 6) (ia 0) (iv 16) (iv 17) (iv 18) (iv 19) (jv 4) (jv 5) (iv 20) (iv 21) (iv 22) (ia 2) (ia 7) (ia 8) (ia 9) a = some res ∧ dl_R (dl_u (dl_u (dl_u (dl_u (dl_u (dl_u (dl_u (dl_u iv 16 res.1) 17 res.2.1) 18 res.2.2.1) 19 res.2.2.2.1) 20 res.2.2.2.2.2.2.1) 21 res.2.2.2.2.2.2.2.1) 22 res.2.2.2.2.2.2.2.2.1) 62 res.2.2.2.2.2.2.2.2.2.2.1) (dl_u (dl_u jv 4 res.2.2.2.2.1) 5 res.2.2.2.2.2.1) (dl_u (dl_u (dl_u (dl_u ia 2 res.2.2.2.2.2.2.2.2.2.1) 7 res.2.2.2.2.2.2.2.2.2.2.2.1) 8 res.2.2.2.2.2.2.2.2.2.2.2.2.1) 9 res.2.2.2.2.2.2.2.2.2.2.2.2.2) ja tv := by
  obtain ⟨⟨w, h, hex, o, t, hk, ho, ht, hV, hm⟩, hS0, hKP, hh, hg, hg2, h01, hT⟩ := id hR
  obtain ⟨e1, e2, e3, rfl, rfl⟩ := dl_V hV
  obtain ⟨by', al, tx, q1, q2, hPG, hj, hx⟩ := q_img1 hk ho ht hm hS0.1 hS0.2.1 hS0.2.2 (ia 9) (iv 16) (iv 17) (iv 18) (iv 19) (jv 4) (jv 5) (iv 20) (iv 21) (iv 22) (ia 2)
  unfold fL_27_e1
  rw [e1, e2, e3, hp]
  exact ⟨_, dl_both q1 q2, dl_mk (TM_cong ⟨w, h, hex, _, _, hk, ho, ht, hV, hm⟩ (fun j z => hj j (by omega))) ⟨dl_PTt hS0.1 (hj 67 (by omega)) (fun i z => hx i (by omega)), (hj 68 (by omega)).trans hS0.2.1, (hj 69 (by omega)).trans hS0.2.2⟩ ⟨dl_KPk hKP.1 (show upd (ia 9) 1 1 0 = ia 9 0 from upd_ne _ _ (by decide)) (fun j => if z : j < 70 then Or.inl (hj _ (by omega)) else Or.inr (by omega)) (fun j => if z : j < 200 then Or.inl (hx _ (by omega)) else Or.inr (by omega)), ⟨true, rfl, show upd (ia 9) 1 1 1 = 1 from upd_at _ _ _, fun _ => hPG⟩, dl_KPk hKP.2.2 (show upd (ia 9) 1 1 2 = ia 9 2 from upd_ne _ _ (by decide)) (fun j => if z : j < 70 then Or.inl (hj _ (by omega)) else Or.inr (by omega)) (fun j => if z : j < 200 then Or.inl (hx _ (by omega)) else Or.inr (by omega))⟩ hh hg hg2 h01 hT⟩
set_option maxRecDepth 100000 in
set_option maxHeartbeats 4000000 in
theorem r_L_27_e2 {iv : Nat → Int32} {jv : Nat → Int64} {ia : Nat → Nat → Int32} {ja : Nat → Nat → Int64} {tv : Nat → ds_TV} (hR : dl_R iv jv ia ja tv) (a : Nat → Int32) (hp : a 1 = nI 2) : ∃ res, fL_27_e2 (iv 1) (iv 2) (iv 3) (jv 0) (jv 1) (iv 4) (iv 5) (iv 6) (ia 0) (iv 24) (iv 25) (iv 26) (iv 27) (jv 6) (jv 7) (iv 28) (iv 29) (iv 30) (ia 3) (ia 7) (ia 8) (ia 9) a = some res ∧ dl_R (dl_u (dl_u (dl_u (dl_u (dl_u (dl_u (dl_u (dl_u iv 24 res.1) 25 res.2.1) 26 res.2.2.1) 27 res.2.2.2.1) 28 res.2.2.2.2.2.2.1) 29 res.2.2.2.2.2.2.2.1) 30 res.2.2.2.2.2.2.2.2.1) 62 res.2.2.2.2.2.2.2.2.2.2.1) (dl_u (dl_u jv 6 res.2.2.2.2.1) 7 res.2.2.2.2.2.1) (dl_u (dl_u (dl_u (dl_u ia 3 res.2.2.2.2.2.2.2.2.2.1) 7 res.2.2.2.2.2.2.2.2.2.2.2.1) 8 res.2.2.2.2.2.2.2.2.2.2.2.2.1) 9 res.2.2.2.2.2.2.2.2.2.2.2.2.2) ja tv := by
  obtain ⟨⟨w, h, hex, o, t, hk, ho, ht, hV, hm⟩, hS0, hKP, hh, hg, hg2, h01, hT⟩ := id hR
  obtain ⟨e1, e2, e3, rfl, rfl⟩ := dl_V hV
  obtain ⟨by', al, tx, q1, q2, hPG, hj, hx⟩ := q_img2 hk ho ht hm hS0.1 hS0.2.1 hS0.2.2 (ia 9) (iv 24) (iv 25) (iv 26) (iv 27) (jv 6) (jv 7) (iv 28) (iv 29) (iv 30) (ia 3)
  unfold fL_27_e2
  rw [e1, e2, e3, hp]
  exact ⟨_, dl_both q1 q2, dl_mk (TM_cong ⟨w, h, hex, _, _, hk, ho, ht, hV, hm⟩ (fun j z => hj j (by omega))) ⟨dl_PTt hS0.1 (hj 67 (by omega)) (fun i z => hx i (by omega)), (hj 68 (by omega)).trans hS0.2.1, (hj 69 (by omega)).trans hS0.2.2⟩ ⟨dl_KPk hKP.1 (show upd (ia 9) 2 1 0 = ia 9 0 from upd_ne _ _ (by decide)) (fun j => if z : j < 70 then Or.inl (hj _ (by omega)) else Or.inr (by omega)) (fun j => if z : j < 200 then Or.inl (hx _ (by omega)) else Or.inr (by omega)), dl_KPk hKP.2.1 (show upd (ia 9) 2 1 1 = ia 9 1 from upd_ne _ _ (by decide)) (fun j => if z : j < 70 then Or.inl (hj _ (by omega)) else Or.inr (by omega)) (fun j => if z : j < 200 then Or.inl (hx _ (by omega)) else Or.inr (by omega)), ⟨true, rfl, show upd (ia 9) 2 1 2 = 1 from upd_at _ _ _, fun _ => hPG⟩⟩ hh hg hg2 h01 hT⟩
set_option maxRecDepth 100000 in
set_option maxHeartbeats 4000000 in
theorem r_L_27_en {iv : Nat → Int32} {jv : Nat → Int64} {ia : Nat → Nat → Int32} {ja : Nat → Nat → Int64} {tv : Nat → ds_TV} (hR : dl_R iv jv ia ja tv) (a : Nat → Int32) (hp : (a 1).toInt < 0 ∨ 3 ≤ (a 1).toInt) : ∃ res, fL_27_en (ia 7) (ia 8) (ia 9) a = some res ∧ dl_R (dl_u iv 62 res.1) jv (dl_u (dl_u (dl_u ia 7 res.2.1) 8 res.2.2.1) 9 res.2.2.2) ja tv := by
  obtain ⟨⟨w, h, hex, o, t, hk, ho, ht, hV, hm⟩, hS0, hKP, hh, hg, hg2, h01, hT⟩ := id hR
  obtain ⟨e1, e2, e3, rfl, rfl⟩ := dl_V hV
  obtain ⟨q1, q2⟩ := q_imgN (ia 7) (ia 8) (ia 9) hp
  unfold fL_27_en
  exact ⟨_, dl_one q1 q2, dl_mk ⟨w, h, hex, _, _, hk, ho, ht, hV, hm⟩ hS0 hKP hh hg hg2 h01 hT⟩
set_option maxRecDepth 100000 in
set_option maxHeartbeats 4000000 in
theorem r_L_28_e0 {iv : Nat → Int32} {jv : Nat → Int64} {ia : Nat → Nat → Int32} {ja : Nat → Nat → Int64} {tv : Nat → ds_TV} (hR : dl_R iv jv ia ja tv) (a : Nat → Int32) (hp : a 1 = nI 0) : ∃ res, fL_28_e0 (iv 1) (iv 2) (iv 3) (jv 0) (jv 1) (iv 4) (iv 5) (iv 6) (ia 0) (iv 8) (iv 9) (iv 10) (iv 11) (jv 2) (jv 3) (iv 12) (iv 13) (iv 14) (ia 1) (iv 33) (iv 63) (ia 7) (ia 8) (ia 9) a = some res ∧ dl_R (dl_u (dl_u (dl_u (dl_u (dl_u (dl_u (dl_u (dl_u (dl_u iv 1 res.1) 2 res.2.1) 3 res.2.2.1) 4 res.2.2.2.2.2.1) 5 res.2.2.2.2.2.2.1) 6 res.2.2.2.2.2.2.2.1) 33 res.2.2.2.2.2.2.2.2.2.1) 62 res.2.2.2.2.2.2.2.2.2.2.1) 63 res.2.2.2.2.2.2.2.2.2.2.2.1) (dl_u (dl_u jv 0 res.2.2.2.1) 1 res.2.2.2.2.1) (dl_u (dl_u (dl_u ia 0 res.2.2.2.2.2.2.2.2.1) 7 res.2.2.2.2.2.2.2.2.2.2.2.2.1) 8 res.2.2.2.2.2.2.2.2.2.2.2.2.2) ja tv := by
  obtain ⟨⟨w, h, hex, o, t, hk, ho, ht, hV, hm⟩, hS0, hKP, hh, hg, hg2, h01, hT⟩ := id hR
  obtain ⟨e1, e2, e3, rfl, rfl⟩ := dl_V hV
  rcases q_aga0 hKP.1 (iv 63) (iv 33) (iv 1) (iv 2) (iv 3) (jv 0) (jv 1) (iv 4) (iv 5) (iv 6) (ia 0) with ⟨s0, q1, q2⟩ | ⟨by', al, tx, q1, q2, hPG, hj, hx⟩
  · unfold fL_28_e0
    rw [hp]
    exact ⟨_, dl_both q1 q2, dl_mk ⟨w, h, hex, _, _, hk, ho, ht, hV, hm⟩ hS0 hKP hh hg hg2 h01 hT⟩
  · unfold fL_28_e0
    rw [hp]
    exact ⟨_, dl_both q1 q2, dl_mk hPG.1 hPG.2 ⟨dl_KPk hKP.1 rfl (fun j => Or.inl (hj _ (by omega))) (fun j => Or.inl (hx _ (by omega))), dl_KPk hKP.2.1 rfl (fun j => Or.inl (hj _ (by omega))) (fun j => Or.inl (hx _ (by omega))), dl_KPk hKP.2.2 rfl (fun j => Or.inl (hj _ (by omega))) (fun j => Or.inl (hx _ (by omega)))⟩ (dl_HI0 hh) hg hg2 h01 hT⟩
set_option maxRecDepth 100000 in
set_option maxHeartbeats 4000000 in
theorem r_L_28_e1 {iv : Nat → Int32} {jv : Nat → Int64} {ia : Nat → Nat → Int32} {ja : Nat → Nat → Int64} {tv : Nat → ds_TV} (hR : dl_R iv jv ia ja tv) (a : Nat → Int32) (hp : a 1 = nI 1) : ∃ res, fL_28_e1 (iv 1) (iv 2) (iv 3) (jv 0) (jv 1) (iv 4) (iv 5) (iv 6) (ia 0) (iv 16) (iv 17) (iv 18) (iv 19) (jv 4) (jv 5) (iv 20) (iv 21) (iv 22) (ia 2) (iv 33) (iv 63) (ia 7) (ia 8) (ia 9) a = some res ∧ dl_R (dl_u (dl_u (dl_u (dl_u (dl_u (dl_u (dl_u (dl_u (dl_u iv 1 res.1) 2 res.2.1) 3 res.2.2.1) 4 res.2.2.2.2.2.1) 5 res.2.2.2.2.2.2.1) 6 res.2.2.2.2.2.2.2.1) 33 res.2.2.2.2.2.2.2.2.2.1) 62 res.2.2.2.2.2.2.2.2.2.2.1) 63 res.2.2.2.2.2.2.2.2.2.2.2.1) (dl_u (dl_u jv 0 res.2.2.2.1) 1 res.2.2.2.2.1) (dl_u (dl_u (dl_u ia 0 res.2.2.2.2.2.2.2.2.1) 7 res.2.2.2.2.2.2.2.2.2.2.2.2.1) 8 res.2.2.2.2.2.2.2.2.2.2.2.2.2) ja tv := by
  obtain ⟨⟨w, h, hex, o, t, hk, ho, ht, hV, hm⟩, hS0, hKP, hh, hg, hg2, h01, hT⟩ := id hR
  obtain ⟨e1, e2, e3, rfl, rfl⟩ := dl_V hV
  rcases q_aga1 hKP.2.1 (iv 63) (iv 33) (iv 1) (iv 2) (iv 3) (jv 0) (jv 1) (iv 4) (iv 5) (iv 6) (ia 0) with ⟨s0, q1, q2⟩ | ⟨by', al, tx, q1, q2, hPG, hj, hx⟩
  · unfold fL_28_e1
    rw [hp]
    exact ⟨_, dl_both q1 q2, dl_mk ⟨w, h, hex, _, _, hk, ho, ht, hV, hm⟩ hS0 hKP hh hg hg2 h01 hT⟩
  · unfold fL_28_e1
    rw [hp]
    exact ⟨_, dl_both q1 q2, dl_mk hPG.1 hPG.2 ⟨dl_KPk hKP.1 rfl (fun j => Or.inl (hj _ (by omega))) (fun j => Or.inl (hx _ (by omega))), dl_KPk hKP.2.1 rfl (fun j => Or.inl (hj _ (by omega))) (fun j => Or.inl (hx _ (by omega))), dl_KPk hKP.2.2 rfl (fun j => Or.inl (hj _ (by omega))) (fun j => Or.inl (hx _ (by omega)))⟩ (dl_HI0 hh) hg hg2 h01 hT⟩
set_option maxRecDepth 100000 in
set_option maxHeartbeats 4000000 in
theorem r_L_28_e2 {iv : Nat → Int32} {jv : Nat → Int64} {ia : Nat → Nat → Int32} {ja : Nat → Nat → Int64} {tv : Nat → ds_TV} (hR : dl_R iv jv ia ja tv) (a : Nat → Int32) (hp : a 1 = nI 2) : ∃ res, fL_28_e2 (iv 1) (iv 2) (iv 3) (jv 0) (jv 1) (iv 4) (iv 5) (iv 6) (ia 0) (iv 24) (iv 25) (iv 26) (iv 27) (jv 6) (jv 7) (iv 28) (iv 29) (iv 30) (ia 3) (iv 33) (iv 63) (ia 7) (ia 8) (ia 9) a = some res ∧ dl_R (dl_u (dl_u (dl_u (dl_u (dl_u (dl_u (dl_u (dl_u (dl_u iv 1 res.1) 2 res.2.1) 3 res.2.2.1) 4 res.2.2.2.2.2.1) 5 res.2.2.2.2.2.2.1) 6 res.2.2.2.2.2.2.2.1) 33 res.2.2.2.2.2.2.2.2.2.1) 62 res.2.2.2.2.2.2.2.2.2.2.1) 63 res.2.2.2.2.2.2.2.2.2.2.2.1) (dl_u (dl_u jv 0 res.2.2.2.1) 1 res.2.2.2.2.1) (dl_u (dl_u (dl_u ia 0 res.2.2.2.2.2.2.2.2.1) 7 res.2.2.2.2.2.2.2.2.2.2.2.2.1) 8 res.2.2.2.2.2.2.2.2.2.2.2.2.2) ja tv := by
  obtain ⟨⟨w, h, hex, o, t, hk, ho, ht, hV, hm⟩, hS0, hKP, hh, hg, hg2, h01, hT⟩ := id hR
  obtain ⟨e1, e2, e3, rfl, rfl⟩ := dl_V hV
  rcases q_aga2 hKP.2.2 (iv 63) (iv 33) (iv 1) (iv 2) (iv 3) (jv 0) (jv 1) (iv 4) (iv 5) (iv 6) (ia 0) with ⟨s0, q1, q2⟩ | ⟨by', al, tx, q1, q2, hPG, hj, hx⟩
  · unfold fL_28_e2
    rw [hp]
    exact ⟨_, dl_both q1 q2, dl_mk ⟨w, h, hex, _, _, hk, ho, ht, hV, hm⟩ hS0 hKP hh hg hg2 h01 hT⟩
  · unfold fL_28_e2
    rw [hp]
    exact ⟨_, dl_both q1 q2, dl_mk hPG.1 hPG.2 ⟨dl_KPk hKP.1 rfl (fun j => Or.inl (hj _ (by omega))) (fun j => Or.inl (hx _ (by omega))), dl_KPk hKP.2.1 rfl (fun j => Or.inl (hj _ (by omega))) (fun j => Or.inl (hx _ (by omega))), dl_KPk hKP.2.2 rfl (fun j => Or.inl (hj _ (by omega))) (fun j => Or.inl (hx _ (by omega)))⟩ (dl_HI0 hh) hg hg2 h01 hT⟩
set_option maxRecDepth 100000 in
set_option maxHeartbeats 4000000 in
theorem r_L_28_en {iv : Nat → Int32} {jv : Nat → Int64} {ia : Nat → Nat → Int32} {ja : Nat → Nat → Int64} {tv : Nat → ds_TV} (hR : dl_R iv jv ia ja tv) (a : Nat → Int32) (hp : (a 1).toInt < 0 ∨ 3 ≤ (a 1).toInt) : ∃ res, fL_28_en (iv 63) (ia 7) (ia 8) (ia 9) a = some res ∧ dl_R (dl_u (dl_u iv 62 res.1) 63 res.2.1) jv (dl_u (dl_u ia 7 res.2.2.1) 8 res.2.2.2) ja tv := by
  obtain ⟨⟨w, h, hex, o, t, hk, ho, ht, hV, hm⟩, hS0, hKP, hh, hg, hg2, h01, hT⟩ := id hR
  obtain ⟨e1, e2, e3, rfl, rfl⟩ := dl_V hV
  obtain ⟨q1, q2⟩ := q_agaN (iv 63) (ia 9) (ia 7) (ia 8) hp
  unfold fL_28_en
  exact ⟨_, dl_one q1 q2, dl_mk ⟨w, h, hex, _, _, hk, ho, ht, hV, hm⟩ hS0 hKP hh hg hg2 h01 hT⟩
set_option maxRecDepth 100000 in
set_option maxHeartbeats 4000000 in
theorem r_L_14A {iv : Nat → Int32} {jv : Nat → Int64} {ia : Nat → Nat → Int32} {ja : Nat → Nat → Int64} {tv : Nat → ds_TV} (hR : dl_R iv jv ia ja tv) (a : Nat → Int32) (hp : 0 ≤ (a 2).toInt ∧ (a 2).toInt ≤ 2) : ∃ res, fL_14A (iv 1) (iv 2) (iv 3) (jv 0) (jv 1) (iv 35) (iv 36) (iv 37) (iv 38) (iv 39) (iv 40) (iv 41) (iv 42) (iv 43) (jv 8) (jv 9) (iv 44) (iv 45) (iv 46) (jv 10) (jv 11) (ja 1) (iv 72) (iv 73) (iv 74) (iv 75) (ia 4) (ia 7) (ia 12) (ja 3) a = some res ∧ dl_R (dl_u (dl_u (dl_u (dl_u (dl_u (dl_u (dl_u (dl_u (dl_u (dl_u (dl_u (dl_u (dl_u (dl_u (dl_u (dl_u (dl_u iv 35 res.1) 36 res.2.1) 37 res.2.2.1) 38 res.2.2.2.1) 39 res.2.2.2.2.1) 40 res.2.2.2.2.2.1) 41 res.2.2.2.2.2.2.1) 42 res.2.2.2.2.2.2.2.1) 43 res.2.2.2.2.2.2.2.2.1) 44 res.2.2.2.2.2.2.2.2.2.2.2.1) 45 res.2.2.2.2.2.2.2.2.2.2.2.2.1) 46 res.2.2.2.2.2.2.2.2.2.2.2.2.2.1) 62 res.2.2.2.2.2.2.2.2.2.2.2.2.2.2.2.2.2.1) 72 res.2.2.2.2.2.2.2.2.2.2.2.2.2.2.2.2.2.2.1) 73 res.2.2.2.2.2.2.2.2.2.2.2.2.2.2.2.2.2.2.2.1) 74 res.2.2.2.2.2.2.2.2.2.2.2.2.2.2.2.2.2.2.2.2.1) 75 res.2.2.2.2.2.2.2.2.2.2.2.2.2.2.2.2.2.2.2.2.2.1) (dl_u (dl_u (dl_u (dl_u jv 8 res.2.2.2.2.2.2.2.2.2.1) 9 res.2.2.2.2.2.2.2.2.2.2.1) 10 res.2.2.2.2.2.2.2.2.2.2.2.2.2.2.1) 11 res.2.2.2.2.2.2.2.2.2.2.2.2.2.2.2.1) (dl_u ia 12 res.2.2.2.2.2.2.2.2.2.2.2.2.2.2.2.2.2.2.2.2.2.2.1) (dl_u (dl_u ja 1 res.2.2.2.2.2.2.2.2.2.2.2.2.2.2.2.2.1) 3 res.2.2.2.2.2.2.2.2.2.2.2.2.2.2.2.2.2.2.2.2.2.2.2) tv := by
  obtain ⟨⟨w, h, hex, o, t, hk, ho, ht, hV, hm⟩, hS0, hKP, hh, hg, hg2, h01, hT⟩ := id hR
  obtain ⟨e1, e2, e3, rfl, rfl⟩ := dl_V hV
  obtain ⟨v, sf, fx, fy, sx, sy, fd, tw, th, tx, to, tt, q1, hg', a1, a2, a3, a4, sr, q2, h01'⟩ := q_step hk ho ht hg (iv 44) (iv 45) (iv 46) (jv 10) (jv 11) hm h01 (iv 72) (iv 73) (iv 74) (iv 75) (ds_q (decide ((a 1) ≠ 0))) hp
  unfold fL_14A fL_step
  rw [e1, e2, e3, hT.1]
  exact ⟨_, dl_stp q1 q2 rfl rfl (dl_cmpu (ja 3) _ _), dl_mk ⟨w, h, hex, _, _, hk, ho, ht, hV, hm⟩ hS0 hKP hh hg' hg2 h01' hT⟩
set_option maxRecDepth 100000 in
set_option maxHeartbeats 4000000 in
theorem r_L_14B {iv : Nat → Int32} {jv : Nat → Int64} {ia : Nat → Nat → Int32} {ja : Nat → Nat → Int64} {tv : Nat → ds_TV} (hR : dl_R iv jv ia ja tv) (a : Nat → Int32) (hp : ¬ (0 ≤ (a 2).toInt ∧ (a 2).toInt ≤ 2)) : ∃ res, fL_14B (iv 72) (iv 73) (iv 74) (iv 75) (ia 4) (ia 7) (ia 12) (ja 3) a = some res ∧ dl_R (dl_u (dl_u (dl_u (dl_u (dl_u iv 62 res.1) 72 res.2.1) 73 res.2.2.1) 74 res.2.2.2.1) 75 res.2.2.2.2.1) jv (dl_u ia 12 res.2.2.2.2.2) ja tv := by
  obtain ⟨⟨w, h, hex, o, t, hk, ho, ht, hV, hm⟩, hS0, hKP, hh, hg, hg2, h01, hT⟩ := id hR
  obtain ⟨e1, e2, e3, rfl, rfl⟩ := dl_V hV
  have q2 := q_stepX (iv 72) (iv 73) (iv 74) (iv 75) (ia 7) (ia 12) (ds_q (decide ((a 1) ≠ 0))) hp
  unfold fL_14B
  rw [hT.1]
  exact ⟨_, dl_stpB q2 rfl, dl_mk ⟨w, h, hex, _, _, hk, ho, ht, hV, hm⟩ hS0 hKP hh hg hg2 h01 hT⟩
set_option maxRecDepth 100000 in
set_option maxHeartbeats 4000000 in
theorem r_L_12 {iv : Nat → Int32} {jv : Nat → Int64} {ia : Nat → Nat → Int32} {ja : Nat → Nat → Int64} {tv : Nat → ds_TV} (hR : dl_R iv jv ia ja tv) (a : Nat → Int32) : ∃ res, fL_12 (iv 1) (iv 2) (iv 3) (jv 0) (jv 1) (iv 4) (iv 33) (iv 35) (iv 36) (iv 37) (iv 38) (iv 39) (iv 40) (iv 41) (iv 42) (iv 43) (jv 8) (jv 9) (iv 44) (iv 45) (iv 46) (jv 10) (jv 11) (ja 1) (iv 63) (iv 72) (iv 73) (iv 74) (iv 75) (ia 4) (ia 7) (ia 12) (ia 13) a = some res ∧ dl_R (dl_u (dl_u (dl_u (dl_u (dl_u (dl_u (dl_u (dl_u (dl_u (dl_u (dl_u (dl_u (dl_u (dl_u (dl_u (dl_u (dl_u iv 35 res.1) 36 res.2.1) 37 res.2.2.1) 38 res.2.2.2.1) 39 res.2.2.2.2.1) 40 res.2.2.2.2.2.1) 41 res.2.2.2.2.2.2.1) 42 res.2.2.2.2.2.2.2.1) 43 res.2.2.2.2.2.2.2.2.1) 44 res.2.2.2.2.2.2.2.2.2.2.2.1) 45 res.2.2.2.2.2.2.2.2.2.2.2.2.1) 46 res.2.2.2.2.2.2.2.2.2.2.2.2.2.1) 62 res.2.2.2.2.2.2.2.2.2.2.2.2.2.2.2.2.2.1) 72 res.2.2.2.2.2.2.2.2.2.2.2.2.2.2.2.2.2.2.1) 73 res.2.2.2.2.2.2.2.2.2.2.2.2.2.2.2.2.2.2.2.1) 74 res.2.2.2.2.2.2.2.2.2.2.2.2.2.2.2.2.2.2.2.2.1) 75 res.2.2.2.2.2.2.2.2.2.2.2.2.2.2.2.2.2.2.2.2.2.1) (dl_u (dl_u (dl_u (dl_u jv 8 res.2.2.2.2.2.2.2.2.2.1) 9 res.2.2.2.2.2.2.2.2.2.2.1) 10 res.2.2.2.2.2.2.2.2.2.2.2.2.2.2.1) 11 res.2.2.2.2.2.2.2.2.2.2.2.2.2.2.2.1) (dl_u (dl_u ia 12 res.2.2.2.2.2.2.2.2.2.2.2.2.2.2.2.2.2.2.2.2.2.2.1) 13 res.2.2.2.2.2.2.2.2.2.2.2.2.2.2.2.2.2.2.2.2.2.2.2) (dl_u ja 1 res.2.2.2.2.2.2.2.2.2.2.2.2.2.2.2.2.1) tv := by
  obtain ⟨⟨w, h, hex, o, t, hk, ho, ht, hV, hm⟩, hS0, hKP, hh, hg, hg2, h01, hT⟩ := id hR
  obtain ⟨e1, e2, e3, rfl, rfl⟩ := dl_V hV
  obtain ⟨v, lk, sf, fx, fy, sx, sy, sw, sh, shx, so, st, fd, tw, th, tx, to, tt, c1, c2, c3, c4, sr, R, q1, q2, hg', h01'⟩ := dl_cnt hk ho ht hg (iv 44) (iv 45) (iv 46) (jv 10) (jv 11) hm h01 (ia 13) (iv 63) (iv 72) (iv 73) (iv 74) (iv 75) (a 1)
  unfold fL_12
  rw [e1, e2, e3, hT.1, dl_len hS0.1, dl_siz hh]
  exact ⟨_, dl_both q1 q2, dl_mk ⟨w, h, hex, _, _, hk, ho, ht, hV, hm⟩ hS0 hKP hh hg' hg2 h01' hT⟩
