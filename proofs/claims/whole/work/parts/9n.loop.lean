/-! the law: one call of the script; the loop -/
set_option maxHeartbeats 4000000 in
set_option maxRecDepth 100000 in
theorem dl_call1 {p : Program} {l : Launch} {e : Env} {s : State} {m : MethodId} {below : List Frame} {meth : Method} {c : Code} {Q : State → Prop} {A : Nat → Prop} {dC : Nat → ClassId} {dI : Nat → Nat → Nat} {ca : Nat → ClassId} {sa : Nat → Nat} {h he ht : Nat → Nat} {h_b L : Nat} {b_r : Nat → Int32} {cells slots : Nat} {iv : Nat → Int32} {jv : Nat → Int64} {ia : Nat → Nat → Int32} {ja : Nat → Nat → Int64} {tv : Nat → ds_TV}
    (hx : p.tables.exec = Jvm.exec) (hb : c.code = cL_law) (hml : c.maxLocals = 7) (hown : s.vm.findClass RL = some m.cls) (hts : ∀ w ∈ dl_hd :: ds_gw, w.before #[Value.ref h_b] s = true) (hK : va_K (dC, dI) vwCl (ds_ty ca) s) (hE : ds_E sa A s s.heap) (hA : ∀ q : Nat, s.heap.size ≤ q → A q) (hl0 : l.stackTraces = false) {sq : Nat} (hX : dt_E sq A s s.heap) (hXb : va_X h_b L b_r s s.heap) (hbl : h_b < s.heap.size) (hbA : ¬ A h_b) {v4 : Int32} {a : Nat → Int32} (hi : ∀ n : Nat, n ≤ 4 → dl_in v4 L b_r n (a n)) (hcs : cells + 1 ≤ 601024 ∧ slots + 6 ≤ 7293034) (hR : dl_R iv jv ia ja tv) {H : Heap} {locs : List Loc} (hP : va_P (dC, dI) vwCl (dl_ws ca h he ht iv jv ia ja tv) H) (hD : va_D A (dl_ws ca h he ht iv jv ia ja tv)) (hS : va_S A s.heap H locs) {ls : Array Slot} (hl : lv_has ls 7 [(0, .ref h_b), (1, .ref (h 0)), (2, .ref (h 28)), (3, .ref (h 42)), (4, .int v4)]) (x : Int32)
    (J : ∀ (iv : Nat → Int32) (jv : Nat → Int64) (ia : Nat → Nat → Int32) (ja : Nat → Nat → Int64) (tv : Nat → ds_TV) (cells' slots' : Nat), dl_R iv jv ia ja tv → cells' ≤ cells + 1 → slots' ≤ slots + 6 → ∀ (H : Heap) (locs : List Loc), va_P (dC, dI) vwCl (dl_ws ca h he ht iv jv ia ja tv) H → va_D A (dl_ws ca h he ht iv jv ia ja tv) → va_S A s.heap H locs → ∀ ls : Array Slot, lv_has ls 7 [(0, .ref h_b), (1, .ref (h 0)), (2, .ref (h 28)), (3, .ref (h 42)), (4, .int v4)] → W p l e room_1 s m #[Value.ref h_b] below meth c H locs cells' slots' Q (F0 m 1228 ls [])) :
    W p l e room_1 s m #[Value.ref h_b] below meth c H locs cells slots Q (F0 m 39 ls [.int x]) := by
  have hc0 : cells ≤ 601024 ∧ slots ≤ 7293034 := ⟨by omega, by omega⟩
  by_cases c0 : x = 0
  · refine lv_tableIn (off := 129) (tgt := 168) hx hb dL_law_39 (by rw [c0]; decide) (by rw [c0]; decide) (by rw [c0]; decide) (by decide) ?_
    obtain ⟨res, hf, hR2⟩ := r_L_0 hR a
    exact c_L_0 hx hb hml hown hts hK hE hA hc0 hXb hbl hbA hi hf hP hD hS hl (fun H locs hP hD hS ls hl => J _ _ _ _ _ _ _ hR2 (Nat.le_succ _) (Nat.le_add_right _ _) H locs hP hD hS ls hl)
  by_cases c1 : x = 1
  · refine lv_tableIn (off := 186) (tgt := 225) hx hb dL_law_39 (by rw [c1]; decide) (by rw [c1]; decide) (by rw [c1]; decide) (by decide) ?_
    obtain ⟨res, hf, hR2⟩ := r_L_1 hR a
    exact c_L_1 hx hb hml hown hts hK hE hA hc0 hXb hbl hbA hi hf hP hD hS hl (fun H locs hP hD hS ls hl => J _ _ _ _ _ _ _ hR2 (Nat.le_succ _) (Nat.le_add_right _ _) H locs hP hD hS ls hl)
  by_cases c2 : x = 2
  · refine lv_tableIn (off := 199) (tgt := 238) hx hb dL_law_39 (by rw [c2]; decide) (by rw [c2]; decide) (by rw [c2]; decide) (by decide) ?_
    obtain ⟨res, hf, hR2⟩ := r_L_2 hR a
    exact c_L_2 hx hb hml hown hts hK hE hA hc0 hXb hbl hbA hi hf hP hD hS hl (fun H locs hP hD hS ls hl => J _ _ _ _ _ _ _ hR2 (Nat.le_succ _) (Nat.le_add_right _ _) H locs hP hD hS ls hl)
  by_cases c3 : x = 3
  · refine lv_tableIn (off := 240) (tgt := 279) hx hb dL_law_39 (by rw [c3]; decide) (by rw [c3]; decide) (by rw [c3]; decide) (by decide) ?_
    obtain ⟨res, hf, hR2⟩ := r_L_3 hR a
    exact c_L_3 hx hb hml hown hts hK hE hA hc0 hXb hbl hbA hi hf hP hD hS hl (fun H locs hP hD hS ls hl => J _ _ _ _ _ _ _ hR2 (Nat.le_succ _) (Nat.le_add_right _ _) H locs hP hD hS ls hl)
  by_cases c4 : x = 4
  · refine lv_tableIn (off := 289) (tgt := 328) hx hb dL_law_39 (by rw [c4]; decide) (by rw [c4]; decide) (by rw [c4]; decide) (by decide) ?_
    obtain ⟨res, hf, hR2⟩ := r_L_4 hR a
    exact c_L_4 hx hb hml hown hts hK hE hA hc0 hXb hbl hbA hi hf hP hD hS hl (fun H locs hP hD hS ls hl => J _ _ _ _ _ _ _ hR2 (Nat.le_succ _) (Nat.le_add_right _ _) H locs hP hD hS ls hl)
  by_cases c5 : x = 5
  · refine lv_tableIn (off := 326) (tgt := 365) hx hb dL_law_39 (by rw [c5]; decide) (by rw [c5]; decide) (by rw [c5]; decide) (by decide) ?_
    obtain ⟨res, hf, hR2⟩ := r_L_5 hR a
    exact c_L_5 hx hb hml hown hts hK hE hA hc0 hXb hbl hbA hi hf hP hD hS hl (fun H locs hP hD hS ls hl => J _ _ _ _ _ _ _ hR2 (Nat.le_succ _) (Nat.le_add_right _ _) H locs hP hD hS ls hl)
  by_cases c6 : x = 6
  · refine lv_tableIn (off := 351) (tgt := 390) hx hb dL_law_39 (by rw [c6]; decide) (by rw [c6]; decide) (by rw [c6]; decide) (by decide) ?_
    obtain ⟨res, hf, hR2⟩ := r_L_6 hR a
    exact c_L_6 hx hb hml hown hts hK hE hA hc0 hXb hbl hbA hi hf hP hD hS hl (fun H locs hP hD hS ls hl => J _ _ _ _ _ _ _ hR2 (Nat.le_succ _) (Nat.le_add_right _ _) H locs hP hD hS ls hl)
  by_cases c7 : x = 7
  · refine lv_tableIn (off := 388) (tgt := 427) hx hb dL_law_39 (by rw [c7]; decide) (by rw [c7]; decide) (by rw [c7]; decide) (by decide) ?_
    obtain ⟨res, hf, hR2⟩ := r_L_7 hR a
    exact c_L_7 hx hb hml hown hts hK hE hA hc0 hXb hbl hbA hi hf hP hD hS hl (fun H locs hP hD hS ls hl => J _ _ _ _ _ _ _ hR2 (Nat.le_succ _) (Nat.le_add_right _ _) H locs hP hD hS ls hl)
  by_cases c8 : x = 8
  · refine lv_tableIn (off := 429) (tgt := 468) hx hb dL_law_39 (by rw [c8]; decide) (by rw [c8]; decide) (by rw [c8]; decide) (by decide) ?_
    obtain ⟨res, hf, hR2⟩ := r_L_8 hR a
    exact c_L_8 hx hb hml hown hts hK hE hA hc0 hXb hbl hbA hi hf hP hD hS hl (fun H locs hP hD hS ls hl => J _ _ _ _ _ _ _ hR2 (Nat.le_succ _) (Nat.le_add_right _ _) H locs hP hD hS ls hl)
  by_cases c9 : x = 9
  · refine lv_tableIn (off := 490) (tgt := 529) hx hb dL_law_39 (by rw [c9]; decide) (by rw [c9]; decide) (by rw [c9]; decide) (by decide) ?_
    obtain ⟨res, hf, hR2⟩ := r_L_9 hR a
    exact c_L_9 hx hb hml hown hts hK hE hA hc0 hXb hbl hbA hi hf hP hD hS hl (fun H locs hP hD hS ls hl => J _ _ _ _ _ _ _ hR2 (Nat.le_succ _) (Nat.le_add_right _ _) H locs hP hD hS ls hl)
  by_cases c10 : x = 10
  · refine lv_tableIn (off := 515) (tgt := 554) hx hb dL_law_39 (by rw [c10]; decide) (by rw [c10]; decide) (by rw [c10]; decide) (by decide) ?_
    obtain ⟨res, hf, hR2⟩ := r_L_10 hR a
    exact c_L_10 hx hb hml hown hts hK hE hA hc0 hXb hbl hbA hi hf hP hD hS hl (fun H locs hP hD hS ls hl => J _ _ _ _ _ _ _ hR2 (Nat.le_succ _) (Nat.le_add_right _ _) H locs hP hD hS ls hl)
  by_cases c11 : x = 11
  · refine lv_tableIn (off := 528) (tgt := 567) hx hb dL_law_39 (by rw [c11]; decide) (by rw [c11]; decide) (by rw [c11]; decide) (by decide) ?_
    obtain ⟨res, hf, hR2⟩ := r_L_11 hR a
    exact c_L_11 hx hb hml hown hts hK hE hA hc0 hXb hbl hbA hi hf hP hD hS hl (fun H locs hP hD hS ls hl => J _ _ _ _ _ _ _ hR2 (Nat.le_succ _) (Nat.le_add_right _ _) H locs hP hD hS ls hl)
  by_cases c12 : x = 12
  · refine lv_tableIn (off := 541) (tgt := 580) hx hb dL_law_39 (by rw [c12]; decide) (by rw [c12]; decide) (by rw [c12]; decide) (by decide) ?_
    obtain ⟨res, hf, hR2⟩ := r_L_12 hR a
    exact c_L_12 hx hb hml hown hts hK hE hA hc0 hXb hbl hbA hi hf hP hD hS hl (fun H locs hP hD hS ls hl => J _ _ _ _ _ _ _ hR2 (Nat.le_succ _) (Nat.le_add_right _ _) H locs hP hD hS ls hl)
  by_cases c13 : x = 13
  · refine lv_tableIn (off := 566) (tgt := 605) hx hb dL_law_39 (by rw [c13]; decide) (by rw [c13]; decide) (by rw [c13]; decide) (by decide) ?_
    obtain ⟨res, hf, hR2⟩ := r_L_13 hR a
    exact c_L_13 hx hb hml hown hts hK hE hA hc0 hXb hbl hbA hi hf hP hD hS hl (fun H locs hP hD hS ls hl => J _ _ _ _ _ _ _ hR2 (Nat.le_succ _) (Nat.le_add_right _ _) H locs hP hD hS ls hl)
  by_cases c14 : x = 14
  · refine lv_tableIn (off := 603) (tgt := 642) hx hb dL_law_39 (by rw [c14]; decide) (by rw [c14]; decide) (by rw [c14]; decide) (by decide) ?_
    by_cases hp : 0 ≤ (a 2).toInt ∧ (a 2).toInt ≤ 2
    · obtain ⟨res, hf, hR2⟩ := r_L_14A hR a hp
      exact c_L_14A hx hb hml hown hts hK hE hA hc0 hXb hbl hbA hi hf hP hD hS hl (fun H locs hP hD hS ls hl => J _ _ _ _ _ _ _ hR2 (Nat.le_succ _) (Nat.le_add_right _ _) H locs hP hD hS ls hl)
    · have hp2 : a 2 < 0 ∨ 2 < a 2 := by
        rw [Int32.lt_iff_toInt_lt, Int32.lt_iff_toInt_lt]
        have z0 : (0 : Int32).toInt = 0 := by decide
        have z2 : (2 : Int32).toInt = 2 := by decide
        omega
      obtain ⟨res, hf, hR2⟩ := r_L_14B hR a hp
      exact c_L_14B hx hb hml hown hts hK hE hA hcs hl0 hX hp2 hXb hbl hbA hi hf hP hD hS hl (fun H locs hP hD hS ls hl => J _ _ _ _ _ _ _ hR2 (Nat.le_refl _) (Nat.le_refl _) H locs hP hD hS ls hl)
  by_cases c15 : x = 15
  · refine lv_tableIn (off := 687) (tgt := 726) hx hb dL_law_39 (by rw [c15]; decide) (by rw [c15]; decide) (by rw [c15]; decide) (by decide) ?_
    obtain ⟨res, hf, hR2⟩ := r_L_15 hR a
    exact c_L_15 hx hb hml hown hts hK hE hA hc0 hXb hbl hbA hi hf hP hD hS hl (fun H locs hP hD hS ls hl => J _ _ _ _ _ _ _ hR2 (Nat.le_succ _) (Nat.le_add_right _ _) H locs hP hD hS ls hl)
  by_cases c16 : x = 16
  · refine lv_tableIn (off := 736) (tgt := 775) hx hb dL_law_39 (by rw [c16]; decide) (by rw [c16]; decide) (by rw [c16]; decide) (by decide) ?_
    obtain ⟨res, hf, hR2⟩ := r_L_16 hR a
    exact c_L_16 hx hb hml hown hts hK hE hA hc0 hXb hbl hbA hi hf hP hD hS hl (fun H locs hP hD hS ls hl => J _ _ _ _ _ _ _ hR2 (Nat.le_succ _) (Nat.le_add_right _ _) H locs hP hD hS ls hl)
  by_cases c17 : x = 17
  · refine lv_tableIn (off := 761) (tgt := 800) hx hb dL_law_39 (by rw [c17]; decide) (by rw [c17]; decide) (by rw [c17]; decide) (by decide) ?_
    obtain ⟨res, hf, hR2⟩ := r_L_17 hR a
    exact c_L_17 hx hb hml hown hts hK hE hA hc0 hXb hbl hbA hi hf hP hD hS hl (fun H locs hP hD hS ls hl => J _ _ _ _ _ _ _ hR2 (Nat.le_succ _) (Nat.le_add_right _ _) H locs hP hD hS ls hl)
  by_cases c18 : x = 18
  · refine lv_tableIn (off := 810) (tgt := 849) hx hb dL_law_39 (by rw [c18]; decide) (by rw [c18]; decide) (by rw [c18]; decide) (by decide) ?_
    obtain ⟨res, hf, hR2⟩ := r_L_18 hR a
    exact c_L_18 hx hb hml hown hts hK hE hA hc0 hXb hbl hbA hi hf hP hD hS hl (fun H locs hP hD hS ls hl => J _ _ _ _ _ _ _ hR2 (Nat.le_succ _) (Nat.le_add_right _ _) H locs hP hD hS ls hl)
  by_cases c19 : x = 19
  · refine lv_tableIn (off := 847) (tgt := 886) hx hb dL_law_39 (by rw [c19]; decide) (by rw [c19]; decide) (by rw [c19]; decide) (by decide) ?_
    obtain ⟨res, hf, hR2⟩ := r_L_19 hR a
    exact c_L_19 hx hb hml hown hts hK hE hA hc0 hXb hbl hbA hi hf hP hD hS hl (fun H locs hP hD hS ls hl => J _ _ _ _ _ _ _ hR2 (Nat.le_succ _) (Nat.le_add_right _ _) H locs hP hD hS ls hl)
  by_cases c20 : x = 20
  · refine lv_tableIn (off := 872) (tgt := 911) hx hb dL_law_39 (by rw [c20]; decide) (by rw [c20]; decide) (by rw [c20]; decide) (by decide) ?_
    obtain ⟨res, hf, hR2⟩ := r_L_20 hR a
    exact c_L_20 hx hb hml hown hts hK hE hA hc0 hXb hbl hbA hi hf hP hD hS hl (fun H locs hP hD hS ls hl => J _ _ _ _ _ _ _ hR2 (Nat.le_succ _) (Nat.le_add_right _ _) H locs hP hD hS ls hl)
  by_cases c21 : x = 21
  · refine lv_tableIn (off := 925) (tgt := 964) hx hb dL_law_39 (by rw [c21]; decide) (by rw [c21]; decide) (by rw [c21]; decide) (by decide) ?_
    rcases dl_ix (a 1) with hp | hp | hp | hp
    · obtain ⟨res, hf, hR2⟩ := r_L_21_e0 hR a hp
      exact c_L_21_e0 hx hb hml hown hts hK hE hA hc0 hXb hbl hbA hi hf hP hD hS hl (fun H locs hP hD hS ls hl => J _ _ _ _ _ _ _ hR2 (Nat.le_succ _) (Nat.le_add_right _ _) H locs hP hD hS ls hl)
    · obtain ⟨res, hf, hR2⟩ := r_L_21_e1 hR a hp
      exact c_L_21_e1 hx hb hml hown hts hK hE hA hc0 hXb hbl hbA hi hf hP hD hS hl (fun H locs hP hD hS ls hl => J _ _ _ _ _ _ _ hR2 (Nat.le_succ _) (Nat.le_add_right _ _) H locs hP hD hS ls hl)
    · obtain ⟨res, hf, hR2⟩ := r_L_21_e2 hR a hp
      exact c_L_21_e2 hx hb hml hown hts hK hE hA hc0 hXb hbl hbA hi hf hP hD hS hl (fun H locs hP hD hS ls hl => J _ _ _ _ _ _ _ hR2 (Nat.le_succ _) (Nat.le_add_right _ _) H locs hP hD hS ls hl)
    · obtain ⟨res, hf, hR2⟩ := r_L_21_en hR a hp
      exact c_L_21_en hx hb hml hown hts hK hE hA hc0 hXb hbl hbA hi hf hP hD hS hl (fun H locs hP hD hS ls hl => J _ _ _ _ _ _ _ hR2 (Nat.le_succ _) (Nat.le_add_right _ _) H locs hP hD hS ls hl)
  by_cases c22 : x = 22
  · refine lv_tableIn (off := 950) (tgt := 989) hx hb dL_law_39 (by rw [c22]; decide) (by rw [c22]; decide) (by rw [c22]; decide) (by decide) ?_
    obtain ⟨res, hf, hR2⟩ := r_L_22 hR a
    exact c_L_22 hx hb hml hown hts hK hE hA hc0 hXb hbl hbA hi hf hP hD hS hl (fun H locs hP hD hS ls hl => J _ _ _ _ _ _ _ hR2 (Nat.le_succ _) (Nat.le_add_right _ _) H locs hP hD hS ls hl)
  by_cases c23 : x = 23
  · refine lv_tableIn (off := 975) (tgt := 1014) hx hb dL_law_39 (by rw [c23]; decide) (by rw [c23]; decide) (by rw [c23]; decide) (by decide) ?_
    obtain ⟨res, hf, hR2⟩ := r_L_23 hR a
    exact c_L_23 hx hb hml hown hts hK hE hA hc0 hXb hbl hbA hi hf hP hD hS hl (fun H locs hP hD hS ls hl => J _ _ _ _ _ _ _ hR2 (Nat.le_succ _) (Nat.le_add_right _ _) H locs hP hD hS ls hl)
  by_cases c24 : x = 24
  · refine lv_tableIn (off := 1052) (tgt := 1091) hx hb dL_law_39 (by rw [c24]; decide) (by rw [c24]; decide) (by rw [c24]; decide) (by decide) ?_
    obtain ⟨res, hf, hR2⟩ := r_L_24 hR a
    exact c_L_24 hx hb hml hown hts hK hE hA hc0 hXb hbl hbA hi hf hP hD hS hl (fun H locs hP hD hS ls hl => J _ _ _ _ _ _ _ hR2 (Nat.le_succ _) (Nat.le_add_right _ _) H locs hP hD hS ls hl)
  by_cases c25 : x = 25
  · refine lv_tableIn (off := 1077) (tgt := 1116) hx hb dL_law_39 (by rw [c25]; decide) (by rw [c25]; decide) (by rw [c25]; decide) (by decide) ?_
    obtain ⟨res, hf, hR2⟩ := r_L_25 hR a
    exact c_L_25 hx hb hml hown hts hK hE hA hc0 hXb hbl hbA hi hf hP hD hS hl (fun H locs hP hD hS ls hl => J _ _ _ _ _ _ _ hR2 (Nat.le_succ _) (Nat.le_add_right _ _) H locs hP hD hS ls hl)
  by_cases c26 : x = 26
  · refine lv_tableIn (off := 1126) (tgt := 1165) hx hb dL_law_39 (by rw [c26]; decide) (by rw [c26]; decide) (by rw [c26]; decide) (by decide) ?_
    obtain ⟨res, hf, hR2⟩ := r_L_26 hR a
    exact c_L_26 hx hb hml hown hts hK hE hA hc0 hXb hbl hbA hi hf hP hD hS hl (fun H locs hP hD hS ls hl => J _ _ _ _ _ _ _ hR2 (Nat.le_succ _) (Nat.le_add_right _ _) H locs hP hD hS ls hl)
  by_cases c27 : x = 27
  · refine lv_tableIn (off := 1139) (tgt := 1178) hx hb dL_law_39 (by rw [c27]; decide) (by rw [c27]; decide) (by rw [c27]; decide) (by decide) ?_
    rcases dl_ix (a 1) with hp | hp | hp | hp
    · obtain ⟨res, hf, hR2⟩ := r_L_27_e0 hR a hp
      exact c_L_27_e0 hx hb hml hown hts hK hE hA hc0 hXb hbl hbA hi hf hP hD hS hl (fun H locs hP hD hS ls hl => J _ _ _ _ _ _ _ hR2 (Nat.le_succ _) (Nat.le_add_right _ _) H locs hP hD hS ls hl)
    · obtain ⟨res, hf, hR2⟩ := r_L_27_e1 hR a hp
      exact c_L_27_e1 hx hb hml hown hts hK hE hA hc0 hXb hbl hbA hi hf hP hD hS hl (fun H locs hP hD hS ls hl => J _ _ _ _ _ _ _ hR2 (Nat.le_succ _) (Nat.le_add_right _ _) H locs hP hD hS ls hl)
    · obtain ⟨res, hf, hR2⟩ := r_L_27_e2 hR a hp
      exact c_L_27_e2 hx hb hml hown hts hK hE hA hc0 hXb hbl hbA hi hf hP hD hS hl (fun H locs hP hD hS ls hl => J _ _ _ _ _ _ _ hR2 (Nat.le_succ _) (Nat.le_add_right _ _) H locs hP hD hS ls hl)
    · obtain ⟨res, hf, hR2⟩ := r_L_27_en hR a hp
      exact c_L_27_en hx hb hml hown hts hK hE hA hc0 hXb hbl hbA hi hf hP hD hS hl (fun H locs hP hD hS ls hl => J _ _ _ _ _ _ _ hR2 (Nat.le_succ _) (Nat.le_add_right _ _) H locs hP hD hS ls hl)
  by_cases c28 : x = 28
  · refine lv_tableIn (off := 1164) (tgt := 1203) hx hb dL_law_39 (by rw [c28]; decide) (by rw [c28]; decide) (by rw [c28]; decide) (by decide) ?_
    rcases dl_ix (a 1) with hp | hp | hp | hp
    · obtain ⟨res, hf, hR2⟩ := r_L_28_e0 hR a hp
      exact c_L_28_e0 hx hb hml hown hts hK hE hA hc0 hXb hbl hbA hi hf hP hD hS hl (fun H locs hP hD hS ls hl => J _ _ _ _ _ _ _ hR2 (Nat.le_succ _) (Nat.le_add_right _ _) H locs hP hD hS ls hl)
    · obtain ⟨res, hf, hR2⟩ := r_L_28_e1 hR a hp
      exact c_L_28_e1 hx hb hml hown hts hK hE hA hc0 hXb hbl hbA hi hf hP hD hS hl (fun H locs hP hD hS ls hl => J _ _ _ _ _ _ _ hR2 (Nat.le_succ _) (Nat.le_add_right _ _) H locs hP hD hS ls hl)
    · obtain ⟨res, hf, hR2⟩ := r_L_28_e2 hR a hp
      exact c_L_28_e2 hx hb hml hown hts hK hE hA hc0 hXb hbl hbA hi hf hP hD hS hl (fun H locs hP hD hS ls hl => J _ _ _ _ _ _ _ hR2 (Nat.le_succ _) (Nat.le_add_right _ _) H locs hP hD hS ls hl)
    · obtain ⟨res, hf, hR2⟩ := r_L_28_en hR a hp
      exact c_L_28_en hx hb hml hown hts hK hE hA hc0 hXb hbl hbA hi hf hP hD hS hl (fun H locs hP hD hS ls hl => J _ _ _ _ _ _ _ hR2 (Nat.le_succ _) (Nat.le_add_right _ _) H locs hP hD hS ls hl)
  have n0 : ¬ x.toInt = 0 := ds_toInt_ne c0
  have n1 : ¬ x.toInt = 1 := ds_toInt_ne c1
  have n2 : ¬ x.toInt = 2 := ds_toInt_ne c2
  have n3 : ¬ x.toInt = 3 := ds_toInt_ne c3
  have n4 : ¬ x.toInt = 4 := ds_toInt_ne c4
  have n5 : ¬ x.toInt = 5 := ds_toInt_ne c5
  have n6 : ¬ x.toInt = 6 := ds_toInt_ne c6
  have n7 : ¬ x.toInt = 7 := ds_toInt_ne c7
  have n8 : ¬ x.toInt = 8 := ds_toInt_ne c8
  have n9 : ¬ x.toInt = 9 := ds_toInt_ne c9
  have n10 : ¬ x.toInt = 10 := ds_toInt_ne c10
  have n11 : ¬ x.toInt = 11 := ds_toInt_ne c11
  have n12 : ¬ x.toInt = 12 := ds_toInt_ne c12
  have n13 : ¬ x.toInt = 13 := ds_toInt_ne c13
  have n14 : ¬ x.toInt = 14 := ds_toInt_ne c14
  have n15 : ¬ x.toInt = 15 := ds_toInt_ne c15
  have n16 : ¬ x.toInt = 16 := ds_toInt_ne c16
  have n17 : ¬ x.toInt = 17 := ds_toInt_ne c17
  have n18 : ¬ x.toInt = 18 := ds_toInt_ne c18
  have n19 : ¬ x.toInt = 19 := ds_toInt_ne c19
  have n20 : ¬ x.toInt = 20 := ds_toInt_ne c20
  have n21 : ¬ x.toInt = 21 := ds_toInt_ne c21
  have n22 : ¬ x.toInt = 22 := ds_toInt_ne c22
  have n23 : ¬ x.toInt = 23 := ds_toInt_ne c23
  have n24 : ¬ x.toInt = 24 := ds_toInt_ne c24
  have n25 : ¬ x.toInt = 25 := ds_toInt_ne c25
  have n26 : ¬ x.toInt = 26 := ds_toInt_ne c26
  have n27 : ¬ x.toInt = 27 := ds_toInt_ne c27
  have n28 : ¬ x.toInt = 28 := ds_toInt_ne c28
  refine lv_tableOut (tgt := 1228) hx hb dL_law_39 (by omega) (by decide) ?_
  exact J _ _ _ _ _ _ _ hR (Nat.le_succ _) (Nat.le_add_right _ _) H locs hP hD hS ls hl
theorem dl_nI_add (k n : Nat) : nI k + Int32.ofInt (n : Int) = nI (k + n) := by
  have h : Int32.ofInt (n : Int) = ds_z n := rfl
  rw [z_nI, h, z_add, z_nI]
  congr 1
theorem dl_in_ok {k n L : Nat} (f : Nat → Int32) (h : k + n < L) (hL : L ≤ 2560) : dl_in (nI k) L f n (f (k + n)) := by
  unfold dl_in
  rw [dl_nI_add]
  exact ⟨ds_in_ok (in_nI h (by omega)), by rw [nI_clamp (by omega)]⟩
theorem dl_gt {k L : Nat} (hk : k ≤ 3000) (hL : L ≤ 2560) : (Int32.ofNat L - 5 < nI k) ↔ L < k + 5 := by
  have h1 : Int32.ofNat L - 5 = ds_z ((L : Int) - 5) := by
    have h2 : Int32.ofNat L = ds_z L := z_nI L
    have h3 : (5 : Int32) = ds_z 5 := rfl
    rw [h2, h3, z_sub]
  rw [h1, z_nI, z_lt (by omega) (by omega) (by omega) (by omega)]
  omega
set_option maxHeartbeats 4000000 in
set_option maxRecDepth 100000 in
theorem dl_loop {p : Program} {l : Launch} {e : Env} {s : State} {m : MethodId} {below : List Frame} {meth : Method} {c : Code} {dC : Nat → ClassId} {dI : Nat → Nat → Nat} {ca : Nat → ClassId} {sa : Nat → Nat} {h he ht : Nat → Nat} {h_b L : Nat} {b_r : Nat → Int32} (hx : p.tables.exec = Jvm.exec) (hb : c.code = cL_law) (hml : c.maxLocals = 7) (hown : s.vm.findClass RL = some m.cls) (hts : ∀ w ∈ dl_hd :: ds_gw, w.before #[Value.ref h_b] s = true) (hK : va_K (dC, dI) vwCl (ds_ty ca) s) (hE : ds_E sa (fun q : Nat => s.heap.size ≤ q) s s.heap) (hl0 : l.stackTraces = false) {sq : Nat} (hX : dt_E sq (fun q : Nat => s.heap.size ≤ q) s s.heap) (hXb : va_X h_b L b_r s s.heap) (hbl : h_b < s.heap.size) (hr : meth.sig.returnType = ret) (hlocks : meth.locks = false) (hL : L ≤ 2560) :
    ∀ (n k : Nat), k ≤ L + 4 → L ≤ k + 5 * n + 4 → ∀ (iv : Nat → Int32) (jv : Nat → Int64) (ia : Nat → Nat → Int32) (ja : Nat → Nat → Int64) (tv : Nat → ds_TV) (cells slots : Nat), dl_R iv jv ia ja tv → cells + n ≤ 601024 → slots + 6 * n ≤ 7293034 → ∀ (H : Heap) (locs : List Loc), va_P (dC, dI) vwCl (dl_ws ca h he ht iv jv ia ja tv) H → va_D (fun q : Nat => s.heap.size ≤ q) (dl_ws ca h he ht iv jv ia ja tv) → va_S (fun q : Nat => s.heap.size ≤ q) s.heap H locs → ∀ ls : Array Slot, lv_has ls 7 [(0, .ref h_b), (1, .ref (h 0)), (2, .ref (h 28)), (3, .ref (h 42)), (4, .int (nI k))] → W p l e room_1 s m #[Value.ref h_b] below meth c H locs cells slots (lw_Z below #[Value.ref h_b] s) (F0 m 23 ls []) := by
  have hA : ∀ q : Nat, s.heap.size ≤ q → (fun q : Nat => s.heap.size ≤ q) q := fun _ h => h
  have hbA : ¬ (fun q : Nat => s.heap.size ≤ q) h_b := Nat.not_le.mpr hbl
  intro n
  induction n with
  | zero =>
    intro k hk hn iv jv ia ja tv cells slots hR hc hs H locs hP hD hS ls hl
    refine lv_iload hx hb dL_law_23 (lv_at hl 4 rfl) ?_
    refine lv_aload_n hx hb dL_law_25 rfl (lv_at hl 0 rfl) ?_
    refine va_slen hx hb hXb hbl hbA hS dL_law_26 ?_
    refine lv_iconst (v := 5) hx hb dL_law_27 (by decide) ?_
    refine lv_isub hx hb dL_law_28 ?_
    refine lv_icmp_gt (tgt := 1234) hx hb dL_law_29 (by decide) (fun c_29 => ?_) (fun c_29 => ?_)
    · refine lv_iconst (v := 1) hx hb dL_law_1234 (by decide) ?_
      refine va_forget (fun q hq => hS.2.2 q hq) ?_
      refine W.widen (k := 601024) (n := 7293034) (by omega) (by omega) ?_
      exact lw_ret hx hb hr hlocks dL_law_1235
    · exact absurd ((dl_gt (by omega) hL).mpr (by omega)) c_29
  | succ n ih =>
    intro k hk hn iv jv ia ja tv cells slots hR hc hs H locs hP hD hS ls hl
    refine lv_iload hx hb dL_law_23 (lv_at hl 4 rfl) ?_
    refine lv_aload_n hx hb dL_law_25 rfl (lv_at hl 0 rfl) ?_
    refine va_slen hx hb hXb hbl hbA hS dL_law_26 ?_
    refine lv_iconst (v := 5) hx hb dL_law_27 (by decide) ?_
    refine lv_isub hx hb dL_law_28 ?_
    refine lv_icmp_gt (tgt := 1234) hx hb dL_law_29 (by decide) (fun c_29 => ?_) (fun c_29 => ?_)
    · refine lv_iconst (v := 1) hx hb dL_law_1234 (by decide) ?_
      refine va_forget (fun q hq => hS.2.2 q hq) ?_
      refine W.widen (k := 601024) (n := 7293034) (by omega) (by omega) ?_
      exact lw_ret hx hb hr hlocks dL_law_1235
    · have hk5 : k + 5 ≤ L := by
        rcases Nat.lt_or_ge L (k + 5) with z | z
        · exact absurd ((dl_gt (by omega) hL).mpr z) c_29
        · exact z
      refine lv_aload_n hx hb dL_law_32 rfl (lv_at hl 0 rfl) ?_
      refine lv_iload hx hb dL_law_33 (lv_at hl 4 rfl) ?_
      refine va_sld hx hb hXb hbl hbA hS (ds_in_ok (in_nI (by omega) (by omega))) dL_law_35 ?_
      refine lv_bipush (v := 31) hx hb dL_law_36 (by decide) ?_
      refine lv_iand hx hb dL_law_38 ?_
      refine dl_call1 (v4 := nI k) (a := fun n => b_r (k + n)) hx hb hml hown hts hK hE hA hl0 hX hXb hbl hbA (fun n h => dl_in_ok b_r (by omega) hL) ⟨by omega, by omega⟩ hR hP hD hS hl _ (fun iv jv ia ja tv cells2 slots2 hR hc2 hs2 H locs hP hD hS ls hl => ?_)
      refine lv_iinc (v := nI (k + 5)) (lv' := [(4, .int (nI (k + 5))), (0, .ref h_b), (1, .ref (h 0)), (2, .ref (h 28)), (3, .ref (h 42))]) hx hb dL_law_1228 hl (k := 4) rfl (dl_nI_add k 5) (by decide) rfl (fun ls hl => ?_)
      refine lv_goto (tgt := 23) hx hb dL_law_1231 (by decide) ?_
      exact ih (k + 5) (by omega) (by omega) iv jv ia ja tv cells2 slots2 hR (by omega) (by omega) H locs hP hD hS ls (lv_sub hl [1, 2, 3, 4, 0] rfl)
