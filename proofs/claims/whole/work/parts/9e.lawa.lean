/-! the law's world (by families of numbers), an int of the script, and the law's cases -/
section DLX
variable {p : Program} {l : Launch} {e : Env} {R : Room} {s : State} {m : MethodId} {args : Array Value} {below : List Frame} {meth : Method} {c : Code} {H : Heap} {locs : List Loc} {cells slots : Nat} {Q : State → Prop}
variable {cc : ByteArray} {pc : Nat} {ls : Array Slot} {rest : List Value} {A : Nat → Prop}
theorem dl_arx {n L b : Nat} {f : Nat → Int32} {v x : Int32} (hx : p.tables.exec = Jvm.exec) (hb : c.code = cc) (hX : va_X b L f s s.heap) (hbl : b < s.heap.size) (hbA : ¬ A b) (hS : va_S A s.heap H locs)
    (d0 : decode cc pc = .ok (.aload_n 0, 1)) (d1 : decode cc (pc + 1) = .ok (.iload 4, 2)) (d2 : decode cc (pc + 3) = .ok (.iconst (n : Int), 1)) (d3 : decode cc (pc + 4) = .ok (.iadd, 1)) (d4 : decode cc (pc + 5) = .ok (.iaload, 1))
    (h0 : ls[0]? = some (.val (.ref b))) (h4 : ls[4]? = some (.val (.int v))) (hi : dl_in v L f n x)
    (kk : W p l e R s m args below meth c H locs cells slots Q (F0 m (pc + 6) ls (.int x :: rest))) : W p l e R s m args below meth c H locs cells slots Q (F0 m pc ls rest) := by
  refine lv_aload_n hx hb d0 rfl h0 ?_
  refine lv_iload hx hb d1 h4 ?_
  refine lv_iconst (v := Int32.ofInt (n : Int)) hx hb d2 rfl ?_
  refine lv_iadd hx hb d3 ?_
  refine va_sld hx hb hX hbl hbA hS hi.1 d4 ?_
  rw [hi.2]
  exact kk
end DLX
/-- a family of numbers with one put anew -/
def dl_u {α : Type} (f : Nat → α) (n : Nat) (v : α) : Nat → α := fun k => cond (Nat.beq k n) v (f k)
/-- the law's world: the class's object, the reference, the place of the answer, the script -/
def dl_ws (ca : Nat → ClassId) (h he ht : Nat → Nat) (iv : Nat → Int32) (jv : Nat → Int64) (ia : Nat → Nat → Int32) (ja : Nat → Nat → Int64) (tv : Nat → ds_TV) : va_W :=
  [((h 0), .inr (6, [.ref (h 1), .ref (h 2), .ref (h 3), .ref (h 4), .ref (h 5), .ref (h 6), .ref (h 7)])),
   ((h 1), .inr (2, [.ref (h 8), .ref (h 9), .int (iv 0)])),
   ((h 8), .inr (5, [.int (iv 1), .int (iv 2), .int (iv 3), .long (jv 0), .long (jv 1)])),
   ((h 9), .inr (4, [.ref (h 10), .int (iv 4), .int (iv 5), .int (iv 6), .int (iv 7)])),
   ((h 10), .inl (ca 0, 200, .inl (ia 0))),
   ((h 2), .inl (ca 4, 3, .inr (.inr (.inr (.inr (fun j => some (he j))))))),
   ((he 0), .inr (2, [.ref (h 11), .ref (h 12), .int (iv 8)])),
   ((h 11), .inr (5, [.int (iv 9), .int (iv 10), .int (iv 11), .long (jv 2), .long (jv 3)])),
   ((h 12), .inr (4, [.ref (h 13), .int (iv 12), .int (iv 13), .int (iv 14), .int (iv 15)])),
   ((h 13), .inl (ca 0, 200, .inl (ia 1))),
   ((he 1), .inr (2, [.ref (h 14), .ref (h 15), .int (iv 16)])),
   ((h 14), .inr (5, [.int (iv 17), .int (iv 18), .int (iv 19), .long (jv 4), .long (jv 5)])),
   ((h 15), .inr (4, [.ref (h 16), .int (iv 20), .int (iv 21), .int (iv 22), .int (iv 23)])),
   ((h 16), .inl (ca 0, 200, .inl (ia 2))),
   ((he 2), .inr (2, [.ref (h 17), .ref (h 18), .int (iv 24)])),
   ((h 17), .inr (5, [.int (iv 25), .int (iv 26), .int (iv 27), .long (jv 6), .long (jv 7)])),
   ((h 18), .inr (4, [.ref (h 19), .int (iv 28), .int (iv 29), .int (iv 30), .int (iv 31)])),
   ((h 19), .inl (ca 0, 200, .inl (ia 3))),
   ((h 3), .inr (3, [.ref (h 20), .int (iv 32), .int (iv 33)])),
   ((h 20), .inl (ca 5, 8, .inr (.inr (.inr (.inr (fun j => some (ht j))))))),
   ((ht 0), .inr (5, [.int ((tv 0).1), .int ((tv 0).2.1), .int ((tv 0).2.2.1), .long ((tv 0).2.2.2.1), .long ((tv 0).2.2.2.2)])),
   ((ht 1), .inr (5, [.int ((tv 1).1), .int ((tv 1).2.1), .int ((tv 1).2.2.1), .long ((tv 1).2.2.2.1), .long ((tv 1).2.2.2.2)])),
   ((ht 2), .inr (5, [.int ((tv 2).1), .int ((tv 2).2.1), .int ((tv 2).2.2.1), .long ((tv 2).2.2.2.1), .long ((tv 2).2.2.2.2)])),
   ((ht 3), .inr (5, [.int ((tv 3).1), .int ((tv 3).2.1), .int ((tv 3).2.2.1), .long ((tv 3).2.2.2.1), .long ((tv 3).2.2.2.2)])),
   ((ht 4), .inr (5, [.int ((tv 4).1), .int ((tv 4).2.1), .int ((tv 4).2.2.1), .long ((tv 4).2.2.2.1), .long ((tv 4).2.2.2.2)])),
   ((ht 5), .inr (5, [.int ((tv 5).1), .int ((tv 5).2.1), .int ((tv 5).2.2.1), .long ((tv 5).2.2.2.1), .long ((tv 5).2.2.2.2)])),
   ((ht 6), .inr (5, [.int ((tv 6).1), .int ((tv 6).2.1), .int ((tv 6).2.2.1), .long ((tv 6).2.2.2.1), .long ((tv 6).2.2.2.2)])),
   ((ht 7), .inr (5, [.int ((tv 7).1), .int ((tv 7).2.1), .int ((tv 7).2.2.1), .long ((tv 7).2.2.2.1), .long ((tv 7).2.2.2.2)])),
   ((h 4), .inr (1, [.ref (h 21), .int (iv 34)])),
   ((h 21), .inl (ca 1, 64, .inr (.inl (ja 0)))),
   ((h 5), .inr (0, [.ref (h 22), .ref (h 23), .ref (h 24), .int (iv 35), .int (iv 36), .int (iv 37), .int (iv 38), .int (iv 39), .int (iv 40)])),
   ((h 22), .inr (5, [.int (iv 41), .int (iv 42), .int (iv 43), .long (jv 8), .long (jv 9)])),
   ((h 23), .inr (5, [.int (iv 44), .int (iv 45), .int (iv 46), .long (jv 10), .long (jv 11)])),
   ((h 24), .inl (ca 1, 12, .inr (.inl (ja 1)))),
   ((h 6), .inr (0, [.ref (h 25), .ref (h 26), .ref (h 27), .int (iv 47), .int (iv 48), .int (iv 49), .int (iv 50), .int (iv 51), .int (iv 52)])),
   ((h 25), .inr (5, [.int (iv 53), .int (iv 54), .int (iv 55), .long (jv 12), .long (jv 13)])),
   ((h 26), .inr (5, [.int (iv 56), .int (iv 57), .int (iv 58), .long (jv 14), .long (jv 15)])),
   ((h 27), .inl (ca 1, 12, .inr (.inl (ja 2)))),
   ((h 7), .inr (5, [.int (iv 59), .int (iv 60), .int (iv 61), .long (jv 16), .long (jv 17)])),
   ((h 28), .inr (7, [.ref (h 29), .ref (h 30), .ref (h 31), .int (iv 62), .ref (h 32), .ref (h 33), .ref (h 34), .ref (h 35), .int (iv 63), .int (iv 64), .int (iv 65), .int (iv 66), .int (iv 67), .int (iv 68), .long (jv 18), .int (iv 69), .int (iv 70), .int (iv 71), .ref (h 36), .ref (h 37), .int (iv 72), .int (iv 73), .int (iv 74), .int (iv 75), .ref (h 38), .ref (h 39), .ref (h 40), .ref (h 41), .int (iv 76)])),
   ((h 29), .inl (ca 0, 80, .inl (ia 4))),
   ((h 30), .inl (ca 0, 34, .inl (ia 5))),
   ((h 31), .inl (ca 0, 34, .inl (ia 6))),
   ((h 32), .inl (ca 0, 350, .inl (ia 7))),
   ((h 33), .inl (ca 2, 1000, .inl (ia 8))),
   ((h 34), .inl (ca 3, 3, .inl (ia 9))),
   ((h 35), .inl (ca 0, 536, .inl (ia 10))),
   ((h 36), .inl (ca 0, 67, .inl (ia 11))),
   ((h 37), .inl (ca 3, 768, .inl (ia 12))),
   ((h 38), .inl (ca 0, 64, .inl (ia 13))),
   ((h 39), .inl (ca 0, 4, .inl (ia 14))),
   ((h 40), .inl (ca 0, 4, .inl (ia 15))),
   ((h 41), .inl (ca 0, 64, .inl (ia 16))),
   ((h 42), .inl (ca 1, 1, .inr (.inl (ja 3))))]
def fL_13 (x_now_tile_wide : Int32) (x_now_tile_high : Int32) (x_now_tile_ones : Int64) (x_now_tile_twos : Int64) (m_all_r : Nat → Int32) (a : Nat → Int32) : Option (Int32) :=
  Option.bind (fX7_cell x_now_tile_wide x_now_tile_high x_now_tile_ones x_now_tile_twos (a 1) (a 2)) fun q618 => Option.bind (fX8_cell m_all_r (a 1) (a 2)) fun q634 => if q618 = q634.1 then some q634.2 else none
set_option maxHeartbeats 4000000 in
set_option maxRecDepth 100000 in
theorem c_L_13 {p : Program} {l : Launch} {e : Env} {s : State} {m : MethodId} {below : List Frame} {meth : Method} {c : Code} {cells slots : Nat} {Q : State → Prop} {A : Nat → Prop} {dC : Nat → ClassId} {dI : Nat → Nat → Nat} {ca : Nat → ClassId} {sa : Nat → Nat} {h he ht : Nat → Nat} {h_b L : Nat} {b_r : Nat → Int32} {iv : Nat → Int32} {jv : Nat → Int64} {ia : Nat → Nat → Int32} {ja : Nat → Nat → Int64} {tv : Nat → ds_TV} {v4 : Int32} {a : Nat → Int32} {res : Int32}
    (hx : p.tables.exec = Jvm.exec) (hb : c.code = cL_law) (hml : c.maxLocals = 7) (hown : s.vm.findClass RL = some m.cls) (hts : ∀ w ∈ dl_hd :: ds_gw, w.before #[Value.ref h_b] s = true) (hK : va_K (dC, dI) vwCl (ds_ty ca) s) (hE : ds_E sa A s s.heap) (hA : ∀ q : Nat, s.heap.size ≤ q → A q) (hcs : cells ≤ 601024 ∧ slots ≤ 7293034) (hXb : va_X h_b L b_r s s.heap) (hbl : h_b < s.heap.size) (hbA : ¬ A h_b) (hi : ∀ n : Nat, n ≤ 4 → dl_in v4 L b_r n (a n))
    (hf : fL_13 (iv 1) (iv 2) (jv 0) (jv 1) (ia 7) a = some res) {H : Heap} {locs : List Loc} (hP : va_P (dC, dI) vwCl (dl_ws ca h he ht iv jv ia ja tv) H) (hD : va_D A (dl_ws ca h he ht iv jv ia ja tv)) (hS : va_S A s.heap H locs) {ls : Array Slot} (hl : lv_has ls 7 [(0, .ref h_b), (1, .ref (h 0)), (2, .ref (h 28)), (3, .ref (h 42)), (4, .int v4)])
    (kk : ∀ (H : Heap) (locs : List Loc), va_P (dC, dI) vwCl (dl_ws ca h he ht (dl_u iv 62 res) jv ia ja tv) H → va_D A (dl_ws ca h he ht (dl_u iv 62 res) jv ia ja tv) → va_S A s.heap H locs → ∀ ls : Array Slot, lv_has ls 7 [(0, .ref h_b), (1, .ref (h 0)), (2, .ref (h 28)), (3, .ref (h 42)), (4, .int v4)] → W p l e room_1 s m #[Value.ref h_b] below meth c H locs cells slots Q (F0 m 1228 ls [])) :
    W p l e room_1 s m #[Value.ref h_b] below meth c H locs cells slots Q (F0 m 605 ls []) := by
  have hg : ∀ {w : Cond}, w ∈ ds_gw → w.before _ s = true := fun h => hts _ (List.mem_cons_of_mem _ h)
  unfold fL_13 at hf
  refine lv_aload_n hx hb dL_law_605 rfl (lv_at hl 1 rfl) ?_
  refine dl_arx (n := 1) hx hb hXb hbl hbA hS dL_law_606 dL_law_607 dL_law_609 dL_law_610 dL_law_611 (lv_at hl 0 rfl) (lv_at hl 4 rfl) (hi 1 (by decide)) ?_
  refine dl_arx (n := 2) hx hb hXb hbl hbA hS dL_law_612 dL_law_613 dL_law_615 dL_law_616 dL_law_617 (lv_at hl 0 rfl) (lv_at hl 4 rfl) (hi 2 (by decide)) ?_
  obtain ⟨q618, hq618, hf⟩ := ds_ob hf
  refine dl_calli (ws' := (dl_ws ca h he ht iv jv ia ja tv)) (va_runV (As := [.int (a 1), .int (a 2)]) (rest := []) ⟨hx, hb, hml, hown, hts⟩ (c_X7_cell l dC dI ca sa (h 0) (h 1) (h 2) (h 3) (h 4) (h 5) (h 6) (h 7) (h 8) (h 9) H.size (iv 0) (iv 1) (iv 2) (iv 3) (jv 0) (jv 1) (a 1) (a 2) q618 hq618) (cwV 2 hts (ds_gV kw_1037 kw_1038 kw_1039 kw_71 kw_1040) rfl rfl rfl (by decide +kernel) ⟨Nat.le_of_ble_eq_true rfl, Nat.le_of_ble_eq_true rfl⟩) ⟨ds_blind, va_recv hK hP (ci := 6) (q0 := 0) rfl rfl, ds_at hP hD hK hE hS hA [0, 1, 2] rfl rfl _⟩ rfl rfl hl.1 rfl (lv_room (Nat.le_of_ble_eq_true rfl)) dL_law_618 hcs) hP hD hS hA [0, 1, 2] rfl rfl rfl (fun H locs hP hD hS => ?_)
  refine lv_aload_n hx hb dL_law_621 rfl (lv_at hl 2 rfl) ?_
  refine dl_arx (n := 1) hx hb hXb hbl hbA hS dL_law_622 dL_law_623 dL_law_625 dL_law_626 dL_law_627 (lv_at hl 0 rfl) (lv_at hl 4 rfl) (hi 1 (by decide)) ?_
  refine dl_arx (n := 2) hx hb hXb hbl hbA hS dL_law_628 dL_law_629 dL_law_631 dL_law_632 dL_law_633 (lv_at hl 0 rfl) (lv_at hl 4 rfl) (hi 2 (by decide)) ?_
  obtain ⟨q634, hq634, hf⟩ := ds_ob hf
  refine dl_calli (ws' := (dl_ws ca h he ht (dl_u iv 62 q634.2) jv ia ja tv)) (va_runV (As := [.int (a 1), .int (a 2)]) (rest := [.int q618]) ⟨hx, hb, hml, hown, hts⟩ (c_X8_cell l dC dI ca sa (h 28) (h 29) (h 30) (h 31) (h 32) (h 33) (h 34) (h 35) (h 36) (h 37) (h 38) (h 39) (h 40) (h 41) H.size (iv 62) (iv 63) (iv 64) (iv 65) (iv 66) (iv 67) (iv 68) (jv 18) (iv 69) (iv 70) (iv 71) (iv 72) (iv 73) (iv 74) (iv 75) (iv 76) (ia 7) (a 1) (a 2) q634 hq634) (cwV 2 hts (ds_gV kw_1041 kw_1042 kw_1043 kw_597 kw_1044) rfl rfl rfl (by decide +kernel) ⟨Nat.le_of_ble_eq_true rfl, Nat.le_of_ble_eq_true rfl⟩) ⟨ds_blind, va_recv hK hP (ci := 7) (q0 := 39) rfl rfl, ds_at hP hD hK hE hS hA [39, 43] rfl rfl _⟩ rfl rfl hl.1 rfl (lv_room (Nat.le_of_ble_eq_true rfl)) dL_law_634 hcs) hP hD hS hA [39, 43] rfl rfl rfl (fun H locs hP hD hS => ?_)
  refine lv_icmp_eq (tgt := 1228) hx hb dL_law_637 (by decide) (fun c_637 => ?_) (fun c_637 => ?_)
  · replace hf := ds_t c_637 hf
    have hf := Option.some.inj hf
    subst hf
    exact kk _ _ hP hD hS _ (lv_sub hl [0, 1, 2, 3, 4] rfl)
  · replace hf := ds_f c_637 hf
    cases hf
