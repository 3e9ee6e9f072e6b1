theorem dX8_thrown_0 : decode cX8_thrown 0 = .ok (.aload_n 0, 1) := by decide +kernel
theorem dX8_thrown_1 : decode cX8_thrown 1 = .ok (.getfield 51, 3) := by decide +kernel
theorem dX8_thrown_4 : decode cX8_thrown 4 = .ok (.ireturn, 1) := by decide +kernel
def fX8_thrown (o_raised : Int32) : Option (Int32) :=
  some o_raised
set_option maxHeartbeats 4000000 in
set_option maxRecDepth 100000 in
theorem c_X8_thrown (l : Launch) (dC : Nat → ClassId) (dI : Nat → Nat → Nat) (ca : Nat → ClassId) (sa : Nat → Nat) (h_o : Nat) (h_o_plans : Nat) (h_o_makers : Nat) (h_o_halves : Nat) (h_o_all : Nat) (h_o_text : Nat) (h_o_saved : Nat) (h_o_undone : Nat) (h_o_told : Nat) (h_o_shift : Nat) (h_o_rootOf : Nat) (h_o_becomes : Nat) (h_o_comes : Nat) (h_o_next : Nat) (sz : Nat) (o_raised : Int32) (o_undos : Int32) (o_reached : Int32) (o_length : Int32) (o_begin : Int32) (o_letters : Int32) (o_sort : Int32) (o_word : Int64) (o_wrongAt : Int32) (o_badAt : Int32) (o_bad : Int32) (o_firstX : Int32) (o_firstY : Int32) (o_secondX : Int32) (o_secondY : Int32) (o_x : Int32) (res : Int32) (hf : fX8_thrown o_raised = some res) : Met l yX8_thrown (Cond.code yX8_thrown cX8_thrown 1 (some .int) :: ds_gw) { frames := 0, cells := 0, slots := 0, locals := 0 } (va_Pc [.ref h_o] (ds_Pre dC dI ca sa [(h_o, .inr (7, [.ref h_o_plans, .ref h_o_makers, .ref h_o_halves, .int o_raised, .ref h_o_all, .ref h_o_text, .ref h_o_saved, .ref h_o_undone, .int o_undos, .int o_reached, .int o_length, .int o_begin, .int o_letters, .int o_sort, .long o_word, .int o_wrongAt, .int o_badAt, .int o_bad, .ref h_o_told, .ref h_o_shift, .int o_firstX, .int o_firstY, .int o_secondX, .int o_secondY, .ref h_o_rootOf, .ref h_o_becomes, .ref h_o_comes, .ref h_o_next, .int o_x]))] sz)) (va_Qi (fun r (_ : Unit) => r = res) (ds_B dC dI (va_A [(h_o, .inr (7, [.ref h_o_plans, .ref h_o_makers, .ref h_o_halves, .int o_raised, .ref h_o_all, .ref h_o_text, .ref h_o_saved, .ref h_o_undone, .int o_undos, .int o_reached, .int o_length, .int o_begin, .int o_letters, .int o_sort, .long o_word, .int o_wrongAt, .int o_badAt, .int o_bad, .ref h_o_told, .ref h_o_shift, .int o_firstX, .int o_firstY, .int o_secondX, .int o_secondY, .ref h_o_rootOf, .ref h_o_becomes, .ref h_o_comes, .ref h_o_next, .int o_x]))] sz) [(h_o, .inr (7, [.ref h_o_plans, .ref h_o_makers, .ref h_o_halves, .int o_raised, .ref h_o_all, .ref h_o_text, .ref h_o_saved, .ref h_o_undone, .int o_undos, .int o_reached, .int o_length, .int o_begin, .int o_letters, .int o_sort, .long o_word, .int o_wrongAt, .int o_badAt, .int o_bad, .ref h_o_told, .ref h_o_shift, .int o_firstX, .int o_firstY, .int o_secondX, .int o_secondY, .ref h_o_rootOf, .ref h_o_becomes, .ref h_o_comes, .ref h_o_next, .int o_x]))]) (va_A [(h_o, .inr (7, [.ref h_o_plans, .ref h_o_makers, .ref h_o_halves, .int o_raised, .ref h_o_all, .ref h_o_text, .ref h_o_saved, .ref h_o_undone, .int o_undos, .int o_reached, .int o_length, .int o_begin, .int o_letters, .int o_sort, .long o_word, .int o_wrongAt, .int o_badAt, .int o_bad, .ref h_o_told, .ref h_o_shift, .int o_firstX, .int o_firstY, .int o_secondX, .int o_secondY, .ref h_o_rootOf, .ref h_o_becomes, .ref h_o_comes, .ref h_o_next, .int o_x]))] sz)) 0 0 (va_A [(h_o, .inr (7, [.ref h_o_plans, .ref h_o_makers, .ref h_o_halves, .int o_raised, .ref h_o_all, .ref h_o_text, .ref h_o_saved, .ref h_o_undone, .int o_undos, .int o_reached, .int o_length, .int o_begin, .int o_letters, .int o_sort, .long o_word, .int o_wrongAt, .int o_badAt, .int o_bad, .ref h_o_told, .ref h_o_shift, .int o_firstX, .int o_firstY, .int o_secondX, .int o_secondY, .ref h_o_rootOf, .ref h_o_becomes, .ref h_o_comes, .ref h_o_next, .int o_x]))] sz) := by
  refine Met.ofW (cc := cX8_thrown) (maxL := 1) (ret := (some .int)) (by decide) rfl ?_
  intro p e s m args below meth c s₁ B hml hv
  obtain ⟨rfl, hsz, hP, hK, hD0, hE⟩ := hv
  have hx := B.exec
  have hb := B.bytes
  have hr := B.returns
  have hts := atoms_spec (ws := Cond.code yX8_thrown cX8_thrown 1 (some .int) :: ds_gw) B.pre
  have hg : ∀ {w : Cond}, w ∈ ds_gw → w.before _ s = true := fun h => hts _ (List.mem_cons_of_mem _ h)
  have hown : s.vm.findClass RX8 = some m.cls := findClass_of_methodNamed B.named
  have hlocks := B.notSynchronized
  subst hsz
  have hD := hD0.self (sz := s.heap.size)
  generalize hAe : va_A [(h_o, .inr (7, [.ref h_o_plans, .ref h_o_makers, .ref h_o_halves, .int o_raised, .ref h_o_all, .ref h_o_text, .ref h_o_saved, .ref h_o_undone, .int o_undos, .int o_reached, .int o_length, .int o_begin, .int o_letters, .int o_sort, .long o_word, .int o_wrongAt, .int o_badAt, .int o_bad, .ref h_o_told, .ref h_o_shift, .int o_firstX, .int o_firstY, .int o_secondX, .int o_secondY, .ref h_o_rootOf, .ref h_o_becomes, .ref h_o_comes, .ref h_o_next, .int o_x]))] s.heap.size = A at hD hE ⊢
  have hA : ∀ q : Nat, s.heap.size ≤ q → A q := fun q h => by rw [← hAe]; exact Or.inr h
  have hS : va_S A s.heap s.heap [] := va_S.rf
  have hl := lv_entry ([.ref h_o]) (n := 1) (Nat.le_of_ble_eq_true rfl)
  rw [lg_entry_eq]
  generalize (lg_sl ([.ref h_o]) ++ List.replicate (1 - (lg_sl ([.ref h_o])).length) Slot.unset).toArray = ls at hl ⊢
  have hl : lv_has ls 1 [(0, .ref h_o)] := hl
  obtain ⟨G0, eG0⟩ : ∃ G : Int32 → Prop, G = (fun r => r = res) := ⟨_, rfl⟩
  obtain ⟨rr, hrr⟩ : ∃ z, z = res := ⟨_, rfl⟩
  rw [← hrr] at hf
  have hG : G0 rr := by subst eG0; exact hrr
  unfold fX8_thrown at hf
  refine lv_aload_n hx hb dX8_thrown_0 rfl (lv_at hl 0 rfl) ?_
  refine va_get (D := (dC, dI)) (ci := 7) (v := .int o_raised) (C := RX8) (T := TX8) (N := 29) hx hb hts (fun w h => List.mem_cons_of_mem _ (kc_X8 w h)) hown hK hP 0 rfl rfl 3 (by decide) (hg kw_564) (fun _ h9 => h9) rfl dX8_thrown_1 ?_
  have hf := Option.some.inj hf
  subst hf
  rw [eG0] at hG
  have hG : _ = res := hG
  subst hG
  exact W.iret (v := o_raised) hx hb hr (fun t ht hW => ⟨⟨o_raised, (), rfl, rfl, by rw [ht]; exact hP, hD⟩, hS.F ht⟩) hS.2.2 dX8_thrown_4
theorem dX8_in_0 : decode cX8_in 0 = .ok (.iload_n 0, 1) := by decide +kernel
theorem dX8_in_1 : decode cX8_in 1 = .ok (.iload_n 1, 1) := by decide +kernel
theorem dX8_in_2 : decode cX8_in 2 = .ok (.if_icmp .lt 12, 3) := by decide +kernel
theorem dX8_in_5 : decode cX8_in 5 = .ok (.iload_n 0, 1) := by decide +kernel
theorem dX8_in_6 : decode cX8_in 6 = .ok (.iload_n 2, 1) := by decide +kernel
theorem dX8_in_7 : decode cX8_in 7 = .ok (.if_icmp .gt 7, 3) := by decide +kernel
theorem dX8_in_10 : decode cX8_in 10 = .ok (.iconst 1, 1) := by decide +kernel
theorem dX8_in_11 : decode cX8_in 11 = .ok (.goto 4, 3) := by decide +kernel
theorem dX8_in_14 : decode cX8_in 14 = .ok (.iconst 0, 1) := by decide +kernel
theorem dX8_in_15 : decode cX8_in 15 = .ok (.ireturn, 1) := by decide +kernel
def fX8_in (p1 : Int32) (p2 : Int32) (p3 : Int32) : Option (Int32) :=
  if p1 < p2 then some (0 : Int32) else if p3 < p1 then some (0 : Int32) else some (1 : Int32)
set_option maxHeartbeats 4000000 in
set_option maxRecDepth 100000 in
theorem c_X8_in (l : Launch) (dC : Nat → ClassId) (dI : Nat → Nat → Nat) (ca : Nat → ClassId) (sa : Nat → Nat) (sz : Nat) (p1 : Int32) (p2 : Int32) (p3 : Int32) (res : Int32) (hf : fX8_in p1 p2 p3 = some res) : Met l yX8_in (Cond.code yX8_in cX8_in 3 (some .boolean) :: ds_gw) { frames := 0, cells := 0, slots := 0, locals := 0 } (va_Pc [.int p1, .int p2, .int p3] (ds_Pre dC dI ca sa [] sz)) (va_Qi (fun r (_ : Unit) => r = res) (ds_B dC dI (va_A [] sz) []) (va_A [] sz)) 0 0 (va_A [] sz) := by
  refine Met.ofW (cc := cX8_in) (maxL := 3) (ret := (some .boolean)) (by decide) rfl ?_
  intro p e s m args below meth c s₁ B hml hv
  obtain ⟨rfl, hsz, hP, hK, hD0, hE⟩ := hv
  have hx := B.exec
  have hb := B.bytes
  have hr := B.returns
  have hts := atoms_spec (ws := Cond.code yX8_in cX8_in 3 (some .boolean) :: ds_gw) B.pre
  have hg : ∀ {w : Cond}, w ∈ ds_gw → w.before _ s = true := fun h => hts _ (List.mem_cons_of_mem _ h)
  have hown : s.vm.findClass RX8 = some m.cls := findClass_of_methodNamed B.named
  have hlocks := B.notSynchronized
  subst hsz
  have hD := hD0.self (sz := s.heap.size)
  generalize hAe : va_A [] s.heap.size = A at hD hE ⊢
  have hA : ∀ q : Nat, s.heap.size ≤ q → A q := fun q h => by rw [← hAe]; exact Or.inr h
  have hS : va_S A s.heap s.heap [] := va_S.rf
  have hl := lv_entry ([.int p1, .int p2, .int p3]) (n := 3) (Nat.le_of_ble_eq_true rfl)
  rw [lg_entry_eq]
  generalize (lg_sl ([.int p1, .int p2, .int p3]) ++ List.replicate (3 - (lg_sl ([.int p1, .int p2, .int p3])).length) Slot.unset).toArray = ls at hl ⊢
  have hl : lv_has ls 3 [(0, .int p1), (1, .int p2), (2, .int p3)] := hl
  obtain ⟨G0, eG0⟩ : ∃ G : Int32 → Prop, G = (fun r => r = res) := ⟨_, rfl⟩
  obtain ⟨rr, hrr⟩ : ∃ z, z = res := ⟨_, rfl⟩
  rw [← hrr] at hf
  have hG : G0 rr := by subst eG0; exact hrr
  unfold fX8_in at hf
  refine lv_iload_n hx hb dX8_in_0 rfl (lv_at hl 0 rfl) ?_
  refine lv_iload_n hx hb dX8_in_1 rfl (lv_at hl 1 rfl) ?_
  refine lv_icmp_lt (tgt := 14) hx hb dX8_in_2 (by decide) (fun c_2 => ?_) (fun c_2 => ?_)
  · replace hf := ds_t c_2 hf
    refine lv_iconst (v := 0) hx hb dX8_in_14 (by decide) ?_
    have hf := Option.some.inj hf
    subst hf
    rw [eG0] at hG
    have hG : _ = res := hG
    subst hG
    exact W.zret (v := (0 : Int32)) (ty := .boolean) hx hb hr rfl (fun t ht hW => ⟨⟨(0 : Int32), (), rfl, rfl, by rw [ht]; exact hP, hD⟩, hS.F ht⟩) hS.2.2 dX8_in_15
  · replace hf := ds_f c_2 hf
    refine lv_iload_n hx hb dX8_in_5 rfl (lv_at hl 0 rfl) ?_
    refine lv_iload_n hx hb dX8_in_6 rfl (lv_at hl 2 rfl) ?_
    refine lv_icmp_gt (tgt := 14) hx hb dX8_in_7 (by decide) (fun c_7 => ?_) (fun c_7 => ?_)
    · replace hf := ds_t c_7 hf
      refine lv_iconst (v := 0) hx hb dX8_in_14 (by decide) ?_
      have hf := Option.some.inj hf
      subst hf
      rw [eG0] at hG
      have hG : _ = res := hG
      subst hG
      exact W.zret (v := (0 : Int32)) (ty := .boolean) hx hb hr rfl (fun t ht hW => ⟨⟨(0 : Int32), (), rfl, rfl, by rw [ht]; exact hP, hD⟩, hS.F ht⟩) hS.2.2 dX8_in_15
    · replace hf := ds_f c_7 hf
      refine lv_iconst (v := 1) hx hb dX8_in_10 (by decide) ?_
      refine lv_goto (tgt := 15) hx hb dX8_in_11 (by decide) ?_
      have hf := Option.some.inj hf
      subst hf
      rw [eG0] at hG
      have hG : _ = res := hG
      subst hG
      exact W.zret (v := (1 : Int32)) (ty := .boolean) hx hb hr rfl (fun t ht hW => ⟨⟨(1 : Int32), (), rfl, rfl, by rw [ht]; exact hP, hD⟩, hS.F ht⟩) hS.2.2 dX8_in_15
theorem dX8_rest_0 : decode cX8_rest 0 = .ok (.iload_n 0, 1) := by decide +kernel
theorem dX8_rest_1 : decode cX8_rest 1 = .ok (.iload_n 1, 1) := by decide +kernel
theorem dX8_rest_2 : decode cX8_rest 2 = .ok (.irem, 1) := by decide +kernel
theorem dX8_rest_3 : decode cX8_rest 3 = .ok (.istore_n 2, 1) := by decide +kernel
theorem dX8_rest_4 : decode cX8_rest 4 = .ok (.iload_n 2, 1) := by decide +kernel
theorem dX8_rest_5 : decode cX8_rest 5 = .ok (.ifCond .ge 9, 3) := by decide +kernel
theorem dX8_rest_8 : decode cX8_rest 8 = .ok (.iload_n 2, 1) := by decide +kernel
theorem dX8_rest_9 : decode cX8_rest 9 = .ok (.iload_n 1, 1) := by decide +kernel
theorem dX8_rest_10 : decode cX8_rest 10 = .ok (.iadd, 1) := by decide +kernel
theorem dX8_rest_11 : decode cX8_rest 11 = .ok (.goto 4, 3) := by decide +kernel
theorem dX8_rest_14 : decode cX8_rest 14 = .ok (.iload_n 2, 1) := by decide +kernel
theorem dX8_rest_15 : decode cX8_rest 15 = .ok (.ireturn, 1) := by decide +kernel
def fX8_rest (p1 : Int32) (p2 : Int32) : Option (Int32) :=
  if p2 = 0 then none else if 0 ≤ (ds_rem p1 p2) then some (ds_rem p1 p2) else some ((ds_rem p1 p2) + p2)
set_option maxHeartbeats 4000000 in
set_option maxRecDepth 100000 in
theorem c_X8_rest (l : Launch) (dC : Nat → ClassId) (dI : Nat → Nat → Nat) (ca : Nat → ClassId) (sa : Nat → Nat) (sz : Nat) (p1 : Int32) (p2 : Int32) (res : Int32) (hf : fX8_rest p1 p2 = some res) : Met l yX8_rest (Cond.code yX8_rest cX8_rest 3 (some .int) :: ds_gw) { frames := 0, cells := 0, slots := 0, locals := 0 } (va_Pc [.int p1, .int p2] (ds_Pre dC dI ca sa [] sz)) (va_Qi (fun r (_ : Unit) => r = res) (ds_B dC dI (va_A [] sz) []) (va_A [] sz)) 0 0 (va_A [] sz) := by
  refine Met.ofW (cc := cX8_rest) (maxL := 3) (ret := (some .int)) (by decide) rfl ?_
  intro p e s m args below meth c s₁ B hml hv
  obtain ⟨rfl, hsz, hP, hK, hD0, hE⟩ := hv
  have hx := B.exec
  have hb := B.bytes
  have hr := B.returns
  have hts := atoms_spec (ws := Cond.code yX8_rest cX8_rest 3 (some .int) :: ds_gw) B.pre
  have hg : ∀ {w : Cond}, w ∈ ds_gw → w.before _ s = true := fun h => hts _ (List.mem_cons_of_mem _ h)
  have hown : s.vm.findClass RX8 = some m.cls := findClass_of_methodNamed B.named
  have hlocks := B.notSynchronized
  subst hsz
  have hD := hD0.self (sz := s.heap.size)
  generalize hAe : va_A [] s.heap.size = A at hD hE ⊢
  have hA : ∀ q : Nat, s.heap.size ≤ q → A q := fun q h => by rw [← hAe]; exact Or.inr h
  have hS : va_S A s.heap s.heap [] := va_S.rf
  have hl := lv_entry ([.int p1, .int p2]) (n := 3) (Nat.le_of_ble_eq_true rfl)
  rw [lg_entry_eq]
  generalize (lg_sl ([.int p1, .int p2]) ++ List.replicate (3 - (lg_sl ([.int p1, .int p2])).length) Slot.unset).toArray = ls at hl ⊢
  have hl : lv_has ls 3 [(0, .int p1), (1, .int p2)] := hl
  obtain ⟨G0, eG0⟩ : ∃ G : Int32 → Prop, G = (fun r => r = res) := ⟨_, rfl⟩
  obtain ⟨rr, hrr⟩ : ∃ z, z = res := ⟨_, rfl⟩
  rw [← hrr] at hf
  have hG : G0 rr := by subst eG0; exact hrr
  unfold fX8_rest at hf
  refine lv_iload_n hx hb dX8_rest_0 rfl (lv_at hl 0 rfl) ?_
  refine lv_iload_n hx hb dX8_rest_1 rfl (lv_at hl 1 rfl) ?_
  obtain ⟨n_2, hf⟩ := ds_cn hf
  refine lv_irem hx hb dX8_rest_2 n_2 ?_
  refine lv_istore_n (lv' := [(2, .int (ds_rem p1 p2)), (0, .int p1), (1, .int p2)]) hx hb dX8_rest_3 rfl hl (by decide) rfl (fun ls hl => ?_)
  refine lv_iload_n hx hb dX8_rest_4 rfl (lv_at hl 0 rfl) ?_
  refine lv_if_ge (tgt := 14) hx hb dX8_rest_5 (by decide) (fun c_5 => ?_) (fun c_5 => ?_)
  · replace hf := ds_t c_5 hf
    refine lv_iload_n hx hb dX8_rest_14 rfl (lv_at hl 0 rfl) ?_
    have hf := Option.some.inj hf
    subst hf
    rw [eG0] at hG
    have hG : _ = res := hG
    subst hG
    exact W.iret (v := (ds_rem p1 p2)) hx hb hr (fun t ht hW => ⟨⟨(ds_rem p1 p2), (), rfl, rfl, by rw [ht]; exact hP, hD⟩, hS.F ht⟩) hS.2.2 dX8_rest_15
  · replace hf := ds_f c_5 hf
    refine lv_iload_n hx hb dX8_rest_8 rfl (lv_at hl 0 rfl) ?_
    refine lv_iload_n hx hb dX8_rest_9 rfl (lv_at hl 2 rfl) ?_
    refine lv_iadd hx hb dX8_rest_10 ?_
    refine lv_goto (tgt := 15) hx hb dX8_rest_11 (by decide) ?_
    have hf := Option.some.inj hf
    subst hf
    rw [eG0] at hG
    have hG : _ = res := hG
    subst hG
    exact W.iret (v := ((ds_rem p1 p2) + p2)) hx hb hr (fun t ht hW => ⟨⟨((ds_rem p1 p2) + p2), (), rfl, rfl, by rw [ht]; exact hP, hD⟩, hS.F ht⟩) hS.2.2 dX8_rest_15
theorem dX8_at_0 : decode cX8_at 0 = .ok (.bipush 8, 2) := by decide +kernel
theorem dX8_at_2 : decode cX8_at 2 = .ok (.iload_n 2, 1) := by decide +kernel
theorem dX8_at_3 : decode cX8_at 3 = .ok (.aload_n 0, 1) := by decide +kernel
theorem dX8_at_4 : decode cX8_at 4 = .ok (.getfield 19, 3) := by decide +kernel
theorem dX8_at_7 : decode cX8_at 7 = .ok (.iconst 1, 1) := by decide +kernel
theorem dX8_at_8 : decode cX8_at 8 = .ok (.iaload, 1) := by decide +kernel
theorem dX8_at_9 : decode cX8_at 9 = .ok (.invokestatic 55, 3) := by decide +kernel
theorem dX8_at_12 : decode cX8_at 12 = .ok (.imul, 1) := by decide +kernel
theorem dX8_at_13 : decode cX8_at 13 = .ok (.iload_n 1, 1) := by decide +kernel
theorem dX8_at_14 : decode cX8_at 14 = .ok (.aload_n 0, 1) := by decide +kernel
theorem dX8_at_15 : decode cX8_at 15 = .ok (.getfield 19, 3) := by decide +kernel
theorem dX8_at_18 : decode cX8_at 18 = .ok (.iconst 0, 1) := by decide +kernel
theorem dX8_at_19 : decode cX8_at 19 = .ok (.iaload, 1) := by decide +kernel
theorem dX8_at_20 : decode cX8_at 20 = .ok (.invokestatic 55, 3) := by decide +kernel
theorem dX8_at_23 : decode cX8_at 23 = .ok (.iadd, 1) := by decide +kernel
theorem dX8_at_24 : decode cX8_at 24 = .ok (.ireturn, 1) := by decide +kernel
def fX8_at (o_all_r : Nat → Int32) (p1 : Int32) (p2 : Int32) : Option (Int32) :=
  Option.bind (fX8_rest p2 (o_all_r (1 : Int32).toNatClampNeg)) fun q9 => Option.bind (fX8_rest p1 (o_all_r (0 : Int32).toNatClampNeg)) fun q20 => some (((8 : Int32) * q9) + q20)
set_option maxHeartbeats 4000000 in
set_option maxRecDepth 100000 in
theorem c_X8_at (l : Launch) (dC : Nat → ClassId) (dI : Nat → Nat → Nat) (ca : Nat → ClassId) (sa : Nat → Nat) (h_o : Nat) (h_o_plans : Nat) (h_o_makers : Nat) (h_o_halves : Nat) (h_o_all : Nat) (h_o_text : Nat) (h_o_saved : Nat) (h_o_undone : Nat) (h_o_told : Nat) (h_o_shift : Nat) (h_o_rootOf : Nat) (h_o_becomes : Nat) (h_o_comes : Nat) (h_o_next : Nat) (sz : Nat) (o_raised : Int32) (o_undos : Int32) (o_reached : Int32) (o_length : Int32) (o_begin : Int32) (o_letters : Int32) (o_sort : Int32) (o_word : Int64) (o_wrongAt : Int32) (o_badAt : Int32) (o_bad : Int32) (o_firstX : Int32) (o_firstY : Int32) (o_secondX : Int32) (o_secondY : Int32) (o_x : Int32) (o_all_r : Nat → Int32) (p1 : Int32) (p2 : Int32) (res : Int32) (hf : fX8_at o_all_r p1 p2 = some res) : Met l yX8_at (Cond.code yX8_at cX8_at 3 (some .int) :: ds_gw) { frames := 1, cells := 0, slots := 0, locals := 22 } (va_Pc [.ref h_o, .int p1, .int p2] (ds_Pre dC dI ca sa [(h_o, .inr (7, [.ref h_o_plans, .ref h_o_makers, .ref h_o_halves, .int o_raised, .ref h_o_all, .ref h_o_text, .ref h_o_saved, .ref h_o_undone, .int o_undos, .int o_reached, .int o_length, .int o_begin, .int o_letters, .int o_sort, .long o_word, .int o_wrongAt, .int o_badAt, .int o_bad, .ref h_o_told, .ref h_o_shift, .int o_firstX, .int o_firstY, .int o_secondX, .int o_secondY, .ref h_o_rootOf, .ref h_o_becomes, .ref h_o_comes, .ref h_o_next, .int o_x])), (h_o_all, .inl (ca 0, 350, .inl o_all_r))] sz)) (va_Qi (fun r (_ : Unit) => r = res) (ds_B dC dI (va_A [(h_o, .inr (7, [.ref h_o_plans, .ref h_o_makers, .ref h_o_halves, .int o_raised, .ref h_o_all, .ref h_o_text, .ref h_o_saved, .ref h_o_undone, .int o_undos, .int o_reached, .int o_length, .int o_begin, .int o_letters, .int o_sort, .long o_word, .int o_wrongAt, .int o_badAt, .int o_bad, .ref h_o_told, .ref h_o_shift, .int o_firstX, .int o_firstY, .int o_secondX, .int o_secondY, .ref h_o_rootOf, .ref h_o_becomes, .ref h_o_comes, .ref h_o_next, .int o_x])), (h_o_all, .inl (ca 0, 350, .inl o_all_r))] sz) [(h_o, .inr (7, [.ref h_o_plans, .ref h_o_makers, .ref h_o_halves, .int o_raised, .ref h_o_all, .ref h_o_text, .ref h_o_saved, .ref h_o_undone, .int o_undos, .int o_reached, .int o_length, .int o_begin, .int o_letters, .int o_sort, .long o_word, .int o_wrongAt, .int o_badAt, .int o_bad, .ref h_o_told, .ref h_o_shift, .int o_firstX, .int o_firstY, .int o_secondX, .int o_secondY, .ref h_o_rootOf, .ref h_o_becomes, .ref h_o_comes, .ref h_o_next, .int o_x])), (h_o_all, .inl (ca 0, 350, .inl o_all_r))]) (va_A [(h_o, .inr (7, [.ref h_o_plans, .ref h_o_makers, .ref h_o_halves, .int o_raised, .ref h_o_all, .ref h_o_text, .ref h_o_saved, .ref h_o_undone, .int o_undos, .int o_reached, .int o_length, .int o_begin, .int o_letters, .int o_sort, .long o_word, .int o_wrongAt, .int o_badAt, .int o_bad, .ref h_o_told, .ref h_o_shift, .int o_firstX, .int o_firstY, .int o_secondX, .int o_secondY, .ref h_o_rootOf, .ref h_o_becomes, .ref h_o_comes, .ref h_o_next, .int o_x])), (h_o_all, .inl (ca 0, 350, .inl o_all_r))] sz)) 0 0 (va_A [(h_o, .inr (7, [.ref h_o_plans, .ref h_o_makers, .ref h_o_halves, .int o_raised, .ref h_o_all, .ref h_o_text, .ref h_o_saved, .ref h_o_undone, .int o_undos, .int o_reached, .int o_length, .int o_begin, .int o_letters, .int o_sort, .long o_word, .int o_wrongAt, .int o_badAt, .int o_bad, .ref h_o_told, .ref h_o_shift, .int o_firstX, .int o_firstY, .int o_secondX, .int o_secondY, .ref h_o_rootOf, .ref h_o_becomes, .ref h_o_comes, .ref h_o_next, .int o_x])), (h_o_all, .inl (ca 0, 350, .inl o_all_r))] sz) := by
  refine Met.ofW (cc := cX8_at) (maxL := 3) (ret := (some .int)) (by decide) rfl ?_
  intro p e s m args below meth c s₁ B hml hv
  obtain ⟨rfl, hsz, hP, hK, hD0, hE⟩ := hv
  have hx := B.exec
  have hb := B.bytes
  have hr := B.returns
  have hts := atoms_spec (ws := Cond.code yX8_at cX8_at 3 (some .int) :: ds_gw) B.pre
  have hg : ∀ {w : Cond}, w ∈ ds_gw → w.before _ s = true := fun h => hts _ (List.mem_cons_of_mem _ h)
  have hown : s.vm.findClass RX8 = some m.cls := findClass_of_methodNamed B.named
  have hlocks := B.notSynchronized
  subst hsz
  have hD := hD0.self (sz := s.heap.size)
  generalize hAe : va_A [(h_o, .inr (7, [.ref h_o_plans, .ref h_o_makers, .ref h_o_halves, .int o_raised, .ref h_o_all, .ref h_o_text, .ref h_o_saved, .ref h_o_undone, .int o_undos, .int o_reached, .int o_length, .int o_begin, .int o_letters, .int o_sort, .long o_word, .int o_wrongAt, .int o_badAt, .int o_bad, .ref h_o_told, .ref h_o_shift, .int o_firstX, .int o_firstY, .int o_secondX, .int o_secondY, .ref h_o_rootOf, .ref h_o_becomes, .ref h_o_comes, .ref h_o_next, .int o_x])), (h_o_all, .inl (ca 0, 350, .inl o_all_r))] s.heap.size = A at hD hE ⊢
  have hA : ∀ q : Nat, s.heap.size ≤ q → A q := fun q h => by rw [← hAe]; exact Or.inr h
  have hS : va_S A s.heap s.heap [] := va_S.rf
  have hl := lv_entry ([.ref h_o, .int p1, .int p2]) (n := 3) (Nat.le_of_ble_eq_true rfl)
  rw [lg_entry_eq]
  generalize (lg_sl ([.ref h_o, .int p1, .int p2]) ++ List.replicate (3 - (lg_sl ([.ref h_o, .int p1, .int p2])).length) Slot.unset).toArray = ls at hl ⊢
  have hl : lv_has ls 3 [(0, .ref h_o), (1, .int p1), (2, .int p2)] := hl
  obtain ⟨G0, eG0⟩ : ∃ G : Int32 → Prop, G = (fun r => r = res) := ⟨_, rfl⟩
  obtain ⟨rr, hrr⟩ : ∃ z, z = res := ⟨_, rfl⟩
  rw [← hrr] at hf
  have hG : G0 rr := by subst eG0; exact hrr
  unfold fX8_at at hf
  refine lv_bipush (v := 8) hx hb dX8_at_0 (by decide) ?_
  refine lv_iload_n hx hb dX8_at_2 rfl (lv_at hl 2 rfl) ?_
  refine lv_aload_n hx hb dX8_at_3 rfl (lv_at hl 0 rfl) ?_
  refine va_get (D := (dC, dI)) (ci := 7) (v := .ref h_o_all) (C := RX8) (T := TX8) (N := 29) hx hb hts (fun w h => List.mem_cons_of_mem _ (kc_X8 w h)) hown hK hP 0 rfl rfl 4 (by decide) (hg kw_594) (fun _ h9 => h9) rfl dX8_at_4 ?_
  refine lv_iconst (v := 1) hx hb dX8_at_7 (by decide) ?_
  refine va_iald hx hb hK hP 1 0 rfl rfl (ds_in_ok (i := 1) (n := 350) (by decide)) dX8_at_8 ?_
  obtain ⟨q9, hq9, hf⟩ := ds_ob hf
  refine ds_calli (wr := [(h_o, .inr (7, [.ref h_o_plans, .ref h_o_makers, .ref h_o_halves, .int o_raised, .ref h_o_all, .ref h_o_text, .ref h_o_saved, .ref h_o_undone, .int o_undos, .int o_reached, .int o_length, .int o_begin, .int o_letters, .int o_sort, .long o_word, .int o_wrongAt, .int o_badAt, .int o_bad, .ref h_o_told, .ref h_o_shift, .int o_firstX, .int o_firstY, .int o_secondX, .int o_secondY, .ref h_o_rootOf, .ref h_o_becomes, .ref h_o_comes, .ref h_o_next, .int o_x])), (h_o_all, .inl (ca 0, 350, .inl o_all_r))]) (va_runS (As := [.int p2, .int (o_all_r (1 : Int32).toNatClampNeg)]) (rest := [.int (8 : Int32)]) ⟨hx, hb, hml, hown, hts⟩ (c_X8_rest l dC dI ca sa  s.heap.size  p2 (o_all_r (1 : Int32).toNatClampNeg) q9 hq9) (va_cwS 2 hts (ds_gS kw_595 kw_596 kw_597 kw_598) rfl rfl rfl (by decide +kernel) ⟨Nat.le_of_ble_eq_true rfl, Nat.le_of_ble_eq_true rfl⟩) ⟨ds_blind, ds_at hP hD hK hE hS hA [] rfl rfl _⟩ rfl rfl hl.1 rfl (lv_room (Nat.le_of_ble_eq_true rfl)) dX8_at_9 ⟨Nat.zero_le _, Nat.zero_le _⟩) hP hD hS hA [] [0, 1] rfl rfl rfl (by decide) (fun H locs hP hD hS => ?_)
  have hP : va_P (dC, dI) vwCl [(h_o, .inr (7, [.ref h_o_plans, .ref h_o_makers, .ref h_o_halves, .int o_raised, .ref h_o_all, .ref h_o_text, .ref h_o_saved, .ref h_o_undone, .int o_undos, .int o_reached, .int o_length, .int o_begin, .int o_letters, .int o_sort, .long o_word, .int o_wrongAt, .int o_badAt, .int o_bad, .ref h_o_told, .ref h_o_shift, .int o_firstX, .int o_firstY, .int o_secondX, .int o_secondY, .ref h_o_rootOf, .ref h_o_becomes, .ref h_o_comes, .ref h_o_next, .int o_x])), (h_o_all, .inl (ca 0, 350, .inl o_all_r))] H := hP
  have hD : va_D A [(h_o, .inr (7, [.ref h_o_plans, .ref h_o_makers, .ref h_o_halves, .int o_raised, .ref h_o_all, .ref h_o_text, .ref h_o_saved, .ref h_o_undone, .int o_undos, .int o_reached, .int o_length, .int o_begin, .int o_letters, .int o_sort, .long o_word, .int o_wrongAt, .int o_badAt, .int o_bad, .ref h_o_told, .ref h_o_shift, .int o_firstX, .int o_firstY, .int o_secondX, .int o_secondY, .ref h_o_rootOf, .ref h_o_becomes, .ref h_o_comes, .ref h_o_next, .int o_x])), (h_o_all, .inl (ca 0, 350, .inl o_all_r))] := hD
  refine lv_imul hx hb dX8_at_12 ?_
  refine lv_iload_n hx hb dX8_at_13 rfl (lv_at hl 1 rfl) ?_
  refine lv_aload_n hx hb dX8_at_14 rfl (lv_at hl 0 rfl) ?_
  refine va_get (D := (dC, dI)) (ci := 7) (v := .ref h_o_all) (C := RX8) (T := TX8) (N := 29) hx hb hts (fun w h => List.mem_cons_of_mem _ (kc_X8 w h)) hown hK hP 0 rfl rfl 4 (by decide) (hg kw_594) (fun _ h9 => h9) rfl dX8_at_15 ?_
  refine lv_iconst (v := 0) hx hb dX8_at_18 (by decide) ?_
  refine va_iald hx hb hK hP 1 0 rfl rfl (ds_in_ok (i := 0) (n := 350) (by decide)) dX8_at_19 ?_
  obtain ⟨q20, hq20, hf⟩ := ds_ob hf
  refine ds_calli (wr := [(h_o, .inr (7, [.ref h_o_plans, .ref h_o_makers, .ref h_o_halves, .int o_raised, .ref h_o_all, .ref h_o_text, .ref h_o_saved, .ref h_o_undone, .int o_undos, .int o_reached, .int o_length, .int o_begin, .int o_letters, .int o_sort, .long o_word, .int o_wrongAt, .int o_badAt, .int o_bad, .ref h_o_told, .ref h_o_shift, .int o_firstX, .int o_firstY, .int o_secondX, .int o_secondY, .ref h_o_rootOf, .ref h_o_becomes, .ref h_o_comes, .ref h_o_next, .int o_x])), (h_o_all, .inl (ca 0, 350, .inl o_all_r))]) (va_runS (As := [.int p1, .int (o_all_r (0 : Int32).toNatClampNeg)]) (rest := [.int ((8 : Int32) * q9)]) ⟨hx, hb, hml, hown, hts⟩ (c_X8_rest l dC dI ca sa  H.size  p1 (o_all_r (0 : Int32).toNatClampNeg) q20 hq20) (va_cwS 2 hts (ds_gS kw_595 kw_596 kw_597 kw_598) rfl rfl rfl (by decide +kernel) ⟨Nat.le_of_ble_eq_true rfl, Nat.le_of_ble_eq_true rfl⟩) ⟨ds_blind, ds_at hP hD hK hE hS hA [] rfl rfl _⟩ rfl rfl hl.1 rfl (lv_room (Nat.le_of_ble_eq_true rfl)) dX8_at_20 ⟨Nat.zero_le _, Nat.zero_le _⟩) hP hD hS hA [] [0, 1] rfl rfl rfl (by decide) (fun H locs hP hD hS => ?_)
  have hP : va_P (dC, dI) vwCl [(h_o, .inr (7, [.ref h_o_plans, .ref h_o_makers, .ref h_o_halves, .int o_raised, .ref h_o_all, .ref h_o_text, .ref h_o_saved, .ref h_o_undone, .int o_undos, .int o_reached, .int o_length, .int o_begin, .int o_letters, .int o_sort, .long o_word, .int o_wrongAt, .int o_badAt, .int o_bad, .ref h_o_told, .ref h_o_shift, .int o_firstX, .int o_firstY, .int o_secondX, .int o_secondY, .ref h_o_rootOf, .ref h_o_becomes, .ref h_o_comes, .ref h_o_next, .int o_x])), (h_o_all, .inl (ca 0, 350, .inl o_all_r))] H := hP
  have hD : va_D A [(h_o, .inr (7, [.ref h_o_plans, .ref h_o_makers, .ref h_o_halves, .int o_raised, .ref h_o_all, .ref h_o_text, .ref h_o_saved, .ref h_o_undone, .int o_undos, .int o_reached, .int o_length, .int o_begin, .int o_letters, .int o_sort, .long o_word, .int o_wrongAt, .int o_badAt, .int o_bad, .ref h_o_told, .ref h_o_shift, .int o_firstX, .int o_firstY, .int o_secondX, .int o_secondY, .ref h_o_rootOf, .ref h_o_becomes, .ref h_o_comes, .ref h_o_next, .int o_x])), (h_o_all, .inl (ca 0, 350, .inl o_all_r))] := hD
  refine lv_iadd hx hb dX8_at_23 ?_
  have hf := Option.some.inj hf
  subst hf
  rw [eG0] at hG
  have hG : _ = res := hG
  subst hG
  exact W.iret (v := (((8 : Int32) * q9) + q20)) hx hb hr (fun t ht hW => ⟨⟨(((8 : Int32) * q9) + q20), (), rfl, rfl, by rw [ht]; exact hP, hD⟩, hS.F ht⟩) hS.2.2 dX8_at_24
theorem dX8_colour_0 : decode cX8_colour 0 = .ok (.aload_n 0, 1) := by decide +kernel
theorem dX8_colour_1 : decode cX8_colour 1 = .ok (.getfield 19, 3) := by decide +kernel
theorem dX8_colour_4 : decode cX8_colour 4 = .ok (.iconst 3, 1) := by decide +kernel
theorem dX8_colour_5 : decode cX8_colour 5 = .ok (.aload_n 0, 1) := by decide +kernel
theorem dX8_colour_6 : decode cX8_colour 6 = .ok (.iload_n 1, 1) := by decide +kernel
theorem dX8_colour_7 : decode cX8_colour 7 = .ok (.iload_n 2, 1) := by decide +kernel
theorem dX8_colour_8 : decode cX8_colour 8 = .ok (.invokevirtual 59, 3) := by decide +kernel
theorem dX8_colour_11 : decode cX8_colour 11 = .ok (.iadd, 1) := by decide +kernel
theorem dX8_colour_12 : decode cX8_colour 12 = .ok (.iaload, 1) := by decide +kernel
theorem dX8_colour_13 : decode cX8_colour 13 = .ok (.ireturn, 1) := by decide +kernel
def fX8_colour (o_all_r : Nat → Int32) (p1 : Int32) (p2 : Int32) : Option (Int32) :=
  Option.bind (fX8_at o_all_r p1 p2) fun q8 => if ds_in ((3 : Int32) + q8) 350 = true then some (o_all_r ((3 : Int32) + q8).toNatClampNeg) else none
set_option maxHeartbeats 4000000 in
set_option maxRecDepth 100000 in
theorem c_X8_colour (l : Launch) (dC : Nat → ClassId) (dI : Nat → Nat → Nat) (ca : Nat → ClassId) (sa : Nat → Nat) (h_o : Nat) (h_o_plans : Nat) (h_o_makers : Nat) (h_o_halves : Nat) (h_o_all : Nat) (h_o_text : Nat) (h_o_saved : Nat) (h_o_undone : Nat) (h_o_told : Nat) (h_o_shift : Nat) (h_o_rootOf : Nat) (h_o_becomes : Nat) (h_o_comes : Nat) (h_o_next : Nat) (sz : Nat) (o_raised : Int32) (o_undos : Int32) (o_reached : Int32) (o_length : Int32) (o_begin : Int32) (o_letters : Int32) (o_sort : Int32) (o_word : Int64) (o_wrongAt : Int32) (o_badAt : Int32) (o_bad : Int32) (o_firstX : Int32) (o_firstY : Int32) (o_secondX : Int32) (o_secondY : Int32) (o_x : Int32) (o_all_r : Nat → Int32) (p1 : Int32) (p2 : Int32) (res : Int32) (hf : fX8_colour o_all_r p1 p2 = some res) : Met l yX8_colour (Cond.code yX8_colour cX8_colour 3 (some .int) :: ds_gw) { frames := 2, cells := 0, slots := 0, locals := 44 } (va_Pc [.ref h_o, .int p1, .int p2] (ds_Pre dC dI ca sa [(h_o, .inr (7, [.ref h_o_plans, .ref h_o_makers, .ref h_o_halves, .int o_raised, .ref h_o_all, .ref h_o_text, .ref h_o_saved, .ref h_o_undone, .int o_undos, .int o_reached, .int o_length, .int o_begin, .int o_letters, .int o_sort, .long o_word, .int o_wrongAt, .int o_badAt, .int o_bad, .ref h_o_told, .ref h_o_shift, .int o_firstX, .int o_firstY, .int o_secondX, .int o_secondY, .ref h_o_rootOf, .ref h_o_becomes, .ref h_o_comes, .ref h_o_next, .int o_x])), (h_o_all, .inl (ca 0, 350, .inl o_all_r))] sz)) (va_Qi (fun r (_ : Unit) => r = res) (ds_B dC dI (va_A [(h_o, .inr (7, [.ref h_o_plans, .ref h_o_makers, .ref h_o_halves, .int o_raised, .ref h_o_all, .ref h_o_text, .ref h_o_saved, .ref h_o_undone, .int o_undos, .int o_reached, .int o_length, .int o_begin, .int o_letters, .int o_sort, .long o_word, .int o_wrongAt, .int o_badAt, .int o_bad, .ref h_o_told, .ref h_o_shift, .int o_firstX, .int o_firstY, .int o_secondX, .int o_secondY, .ref h_o_rootOf, .ref h_o_becomes, .ref h_o_comes, .ref h_o_next, .int o_x])), (h_o_all, .inl (ca 0, 350, .inl o_all_r))] sz) [(h_o, .inr (7, [.ref h_o_plans, .ref h_o_makers, .ref h_o_halves, .int o_raised, .ref h_o_all, .ref h_o_text, .ref h_o_saved, .ref h_o_undone, .int o_undos, .int o_reached, .int o_length, .int o_begin, .int o_letters, .int o_sort, .long o_word, .int o_wrongAt, .int o_badAt, .int o_bad, .ref h_o_told, .ref h_o_shift, .int o_firstX, .int o_firstY, .int o_secondX, .int o_secondY, .ref h_o_rootOf, .ref h_o_becomes, .ref h_o_comes, .ref h_o_next, .int o_x])), (h_o_all, .inl (ca 0, 350, .inl o_all_r))]) (va_A [(h_o, .inr (7, [.ref h_o_plans, .ref h_o_makers, .ref h_o_halves, .int o_raised, .ref h_o_all, .ref h_o_text, .ref h_o_saved, .ref h_o_undone, .int o_undos, .int o_reached, .int o_length, .int o_begin, .int o_letters, .int o_sort, .long o_word, .int o_wrongAt, .int o_badAt, .int o_bad, .ref h_o_told, .ref h_o_shift, .int o_firstX, .int o_firstY, .int o_secondX, .int o_secondY, .ref h_o_rootOf, .ref h_o_becomes, .ref h_o_comes, .ref h_o_next, .int o_x])), (h_o_all, .inl (ca 0, 350, .inl o_all_r))] sz)) 0 0 (va_A [(h_o, .inr (7, [.ref h_o_plans, .ref h_o_makers, .ref h_o_halves, .int o_raised, .ref h_o_all, .ref h_o_text, .ref h_o_saved, .ref h_o_undone, .int o_undos, .int o_reached, .int o_length, .int o_begin, .int o_letters, .int o_sort, .long o_word, .int o_wrongAt, .int o_badAt, .int o_bad, .ref h_o_told, .ref h_o_shift, .int o_firstX, .int o_firstY, .int o_secondX, .int o_secondY, .ref h_o_rootOf, .ref h_o_becomes, .ref h_o_comes, .ref h_o_next, .int o_x])), (h_o_all, .inl (ca 0, 350, .inl o_all_r))] sz) := by
  refine Met.ofW (cc := cX8_colour) (maxL := 3) (ret := (some .int)) (by decide) rfl ?_
  intro p e s m args below meth c s₁ B hml hv
  obtain ⟨rfl, hsz, hP, hK, hD0, hE⟩ := hv
  have hx := B.exec
  have hb := B.bytes
  have hr := B.returns
  have hts := atoms_spec (ws := Cond.code yX8_colour cX8_colour 3 (some .int) :: ds_gw) B.pre
  have hg : ∀ {w : Cond}, w ∈ ds_gw → w.before _ s = true := fun h => hts _ (List.mem_cons_of_mem _ h)
  have hown : s.vm.findClass RX8 = some m.cls := findClass_of_methodNamed B.named
  have hlocks := B.notSynchronized
  subst hsz
  have hD := hD0.self (sz := s.heap.size)
  generalize hAe : va_A [(h_o, .inr (7, [.ref h_o_plans, .ref h_o_makers, .ref h_o_halves, .int o_raised, .ref h_o_all, .ref h_o_text, .ref h_o_saved, .ref h_o_undone, .int o_undos, .int o_reached, .int o_length, .int o_begin, .int o_letters, .int o_sort, .long o_word, .int o_wrongAt, .int o_badAt, .int o_bad, .ref h_o_told, .ref h_o_shift, .int o_firstX, .int o_firstY, .int o_secondX, .int o_secondY, .ref h_o_rootOf, .ref h_o_becomes, .ref h_o_comes, .ref h_o_next, .int o_x])), (h_o_all, .inl (ca 0, 350, .inl o_all_r))] s.heap.size = A at hD hE ⊢
  have hA : ∀ q : Nat, s.heap.size ≤ q → A q := fun q h => by rw [← hAe]; exact Or.inr h
  have hS : va_S A s.heap s.heap [] := va_S.rf
  have hl := lv_entry ([.ref h_o, .int p1, .int p2]) (n := 3) (Nat.le_of_ble_eq_true rfl)
  rw [lg_entry_eq]
  generalize (lg_sl ([.ref h_o, .int p1, .int p2]) ++ List.replicate (3 - (lg_sl ([.ref h_o, .int p1, .int p2])).length) Slot.unset).toArray = ls at hl ⊢
  have hl : lv_has ls 3 [(0, .ref h_o), (1, .int p1), (2, .int p2)] := hl
  obtain ⟨G0, eG0⟩ : ∃ G : Int32 → Prop, G = (fun r => r = res) := ⟨_, rfl⟩
  obtain ⟨rr, hrr⟩ : ∃ z, z = res := ⟨_, rfl⟩
  rw [← hrr] at hf
  have hG : G0 rr := by subst eG0; exact hrr
  unfold fX8_colour at hf
  refine lv_aload_n hx hb dX8_colour_0 rfl (lv_at hl 0 rfl) ?_
  refine va_get (D := (dC, dI)) (ci := 7) (v := .ref h_o_all) (C := RX8) (T := TX8) (N := 29) hx hb hts (fun w h => List.mem_cons_of_mem _ (kc_X8 w h)) hown hK hP 0 rfl rfl 4 (by decide) (hg kw_594) (fun _ h9 => h9) rfl dX8_colour_1 ?_
  refine lv_iconst (v := 3) hx hb dX8_colour_4 (by decide) ?_
  refine lv_aload_n hx hb dX8_colour_5 rfl (lv_at hl 0 rfl) ?_
  refine lv_iload_n hx hb dX8_colour_6 rfl (lv_at hl 1 rfl) ?_
  refine lv_iload_n hx hb dX8_colour_7 rfl (lv_at hl 2 rfl) ?_
  obtain ⟨q8, hq8, hf⟩ := ds_ob hf
  refine ds_calli (wr := []) (va_runV (As := [.int p1, .int p2]) (rest := [.int (3 : Int32), .ref h_o_all]) ⟨hx, hb, hml, hown, hts⟩ (c_X8_at l dC dI ca sa h_o h_o_plans h_o_makers h_o_halves h_o_all h_o_text h_o_saved h_o_undone h_o_told h_o_shift h_o_rootOf h_o_becomes h_o_comes h_o_next s.heap.size o_raised o_undos o_reached o_length o_begin o_letters o_sort o_word o_wrongAt o_badAt o_bad o_firstX o_firstY o_secondX o_secondY o_x o_all_r p1 p2 q8 hq8) (cwV 2 hts (ds_gV kw_599 kw_600 kw_601 kw_597 kw_602) rfl rfl rfl (by decide +kernel) ⟨Nat.le_of_ble_eq_true rfl, Nat.le_of_ble_eq_true rfl⟩) ⟨ds_blind, va_recv hK hP (ci := 7) (q0 := 0) rfl rfl, ds_at hP hD hK hE hS hA [0, 1] rfl rfl _⟩ rfl rfl hl.1 rfl (lv_room (Nat.le_of_ble_eq_true rfl)) dX8_colour_8 ⟨Nat.zero_le _, Nat.zero_le _⟩) hP hD hS hA [0, 1] [] rfl rfl rfl (by decide) (fun H locs hP hD hS => ?_)
  have hP : va_P (dC, dI) vwCl [(h_o, .inr (7, [.ref h_o_plans, .ref h_o_makers, .ref h_o_halves, .int o_raised, .ref h_o_all, .ref h_o_text, .ref h_o_saved, .ref h_o_undone, .int o_undos, .int o_reached, .int o_length, .int o_begin, .int o_letters, .int o_sort, .long o_word, .int o_wrongAt, .int o_badAt, .int o_bad, .ref h_o_told, .ref h_o_shift, .int o_firstX, .int o_firstY, .int o_secondX, .int o_secondY, .ref h_o_rootOf, .ref h_o_becomes, .ref h_o_comes, .ref h_o_next, .int o_x])), (h_o_all, .inl (ca 0, 350, .inl o_all_r))] H := hP
  have hD : va_D A [(h_o, .inr (7, [.ref h_o_plans, .ref h_o_makers, .ref h_o_halves, .int o_raised, .ref h_o_all, .ref h_o_text, .ref h_o_saved, .ref h_o_undone, .int o_undos, .int o_reached, .int o_length, .int o_begin, .int o_letters, .int o_sort, .long o_word, .int o_wrongAt, .int o_badAt, .int o_bad, .ref h_o_told, .ref h_o_shift, .int o_firstX, .int o_firstY, .int o_secondX, .int o_secondY, .ref h_o_rootOf, .ref h_o_becomes, .ref h_o_comes, .ref h_o_next, .int o_x])), (h_o_all, .inl (ca 0, 350, .inl o_all_r))] := hD
  refine lv_iadd hx hb dX8_colour_11 ?_
  obtain ⟨i_12, hf⟩ := ds_ci hf
  refine va_iald hx hb hK hP 1 0 rfl rfl i_12 dX8_colour_12 ?_
  have hf := Option.some.inj hf
  subst hf
  rw [eG0] at hG
  have hG : _ = res := hG
  subst hG
  exact W.iret (v := (o_all_r ((3 : Int32) + q8).toNatClampNeg)) hx hb hr (fun t ht hW => ⟨⟨(o_all_r ((3 : Int32) + q8).toNatClampNeg), (), rfl, rfl, by rw [ht]; exact hP, hD⟩, hS.F ht⟩) hS.2.2 dX8_colour_13
theorem dX8_turnings_0 : decode cX8_turnings 0 = .ok (.aload_n 0, 1) := by decide +kernel
theorem dX8_turnings_1 : decode cX8_turnings 1 = .ok (.getfield 19, 3) := by decide +kernel
theorem dX8_turnings_4 : decode cX8_turnings 4 = .ok (.iconst 2, 1) := by decide +kernel
theorem dX8_turnings_5 : decode cX8_turnings 5 = .ok (.iaload, 1) := by decide +kernel
theorem dX8_turnings_6 : decode cX8_turnings 6 = .ok (.iconst 1, 1) := by decide +kernel
theorem dX8_turnings_7 : decode cX8_turnings 7 = .ok (.if_icmp .ne 8, 3) := by decide +kernel
theorem dX8_turnings_10 : decode cX8_turnings 10 = .ok (.bipush 12, 2) := by decide +kernel
theorem dX8_turnings_12 : decode cX8_turnings 12 = .ok (.goto 5, 3) := by decide +kernel
theorem dX8_turnings_15 : decode cX8_turnings 15 = .ok (.bipush 8, 2) := by decide +kernel
theorem dX8_turnings_17 : decode cX8_turnings 17 = .ok (.ireturn, 1) := by decide +kernel
def fX8_turnings (o_all_r : Nat → Int32) : Option (Int32) :=
  if (o_all_r (2 : Int32).toNatClampNeg) = (1 : Int32) then some (12 : Int32) else some (8 : Int32)
set_option maxHeartbeats 4000000 in
set_option maxRecDepth 100000 in
theorem c_X8_turnings (l : Launch) (dC : Nat → ClassId) (dI : Nat → Nat → Nat) (ca : Nat → ClassId) (sa : Nat → Nat) (h_o : Nat) (h_o_plans : Nat) (h_o_makers : Nat) (h_o_halves : Nat) (h_o_all : Nat) (h_o_text : Nat) (h_o_saved : Nat) (h_o_undone : Nat) (h_o_told : Nat) (h_o_shift : Nat) (h_o_rootOf : Nat) (h_o_becomes : Nat) (h_o_comes : Nat) (h_o_next : Nat) (sz : Nat) (o_raised : Int32) (o_undos : Int32) (o_reached : Int32) (o_length : Int32) (o_begin : Int32) (o_letters : Int32) (o_sort : Int32) (o_word : Int64) (o_wrongAt : Int32) (o_badAt : Int32) (o_bad : Int32) (o_firstX : Int32) (o_firstY : Int32) (o_secondX : Int32) (o_secondY : Int32) (o_x : Int32) (o_all_r : Nat → Int32) (res : Int32) (hf : fX8_turnings o_all_r = some res) : Met l yX8_turnings (Cond.code yX8_turnings cX8_turnings 1 (some .int) :: ds_gw) { frames := 0, cells := 0, slots := 0, locals := 0 } (va_Pc [.ref h_o] (ds_Pre dC dI ca sa [(h_o, .inr (7, [.ref h_o_plans, .ref h_o_makers, .ref h_o_halves, .int o_raised, .ref h_o_all, .ref h_o_text, .ref h_o_saved, .ref h_o_undone, .int o_undos, .int o_reached, .int o_length, .int o_begin, .int o_letters, .int o_sort, .long o_word, .int o_wrongAt, .int o_badAt, .int o_bad, .ref h_o_told, .ref h_o_shift, .int o_firstX, .int o_firstY, .int o_secondX, .int o_secondY, .ref h_o_rootOf, .ref h_o_becomes, .ref h_o_comes, .ref h_o_next, .int o_x])), (h_o_all, .inl (ca 0, 350, .inl o_all_r))] sz)) (va_Qi (fun r (_ : Unit) => r = res) (ds_B dC dI (va_A [(h_o, .inr (7, [.ref h_o_plans, .ref h_o_makers, .ref h_o_halves, .int o_raised, .ref h_o_all, .ref h_o_text, .ref h_o_saved, .ref h_o_undone, .int o_undos, .int o_reached, .int o_length, .int o_begin, .int o_letters, .int o_sort, .long o_word, .int o_wrongAt, .int o_badAt, .int o_bad, .ref h_o_told, .ref h_o_shift, .int o_firstX, .int o_firstY, .int o_secondX, .int o_secondY, .ref h_o_rootOf, .ref h_o_becomes, .ref h_o_comes, .ref h_o_next, .int o_x])), (h_o_all, .inl (ca 0, 350, .inl o_all_r))] sz) [(h_o, .inr (7, [.ref h_o_plans, .ref h_o_makers, .ref h_o_halves, .int o_raised, .ref h_o_all, .ref h_o_text, .ref h_o_saved, .ref h_o_undone, .int o_undos, .int o_reached, .int o_length, .int o_begin, .int o_letters, .int o_sort, .long o_word, .int o_wrongAt, .int o_badAt, .int o_bad, .ref h_o_told, .ref h_o_shift, .int o_firstX, .int o_firstY, .int o_secondX, .int o_secondY, .ref h_o_rootOf, .ref h_o_becomes, .ref h_o_comes, .ref h_o_next, .int o_x])), (h_o_all, .inl (ca 0, 350, .inl o_all_r))]) (va_A [(h_o, .inr (7, [.ref h_o_plans, .ref h_o_makers, .ref h_o_halves, .int o_raised, .ref h_o_all, .ref h_o_text, .ref h_o_saved, .ref h_o_undone, .int o_undos, .int o_reached, .int o_length, .int o_begin, .int o_letters, .int o_sort, .long o_word, .int o_wrongAt, .int o_badAt, .int o_bad, .ref h_o_told, .ref h_o_shift, .int o_firstX, .int o_firstY, .int o_secondX, .int o_secondY, .ref h_o_rootOf, .ref h_o_becomes, .ref h_o_comes, .ref h_o_next, .int o_x])), (h_o_all, .inl (ca 0, 350, .inl o_all_r))] sz)) 0 0 (va_A [(h_o, .inr (7, [.ref h_o_plans, .ref h_o_makers, .ref h_o_halves, .int o_raised, .ref h_o_all, .ref h_o_text, .ref h_o_saved, .ref h_o_undone, .int o_undos, .int o_reached, .int o_length, .int o_begin, .int o_letters, .int o_sort, .long o_word, .int o_wrongAt, .int o_badAt, .int o_bad, .ref h_o_told, .ref h_o_shift, .int o_firstX, .int o_firstY, .int o_secondX, .int o_secondY, .ref h_o_rootOf, .ref h_o_becomes, .ref h_o_comes, .ref h_o_next, .int o_x])), (h_o_all, .inl (ca 0, 350, .inl o_all_r))] sz) := by
  refine Met.ofW (cc := cX8_turnings) (maxL := 1) (ret := (some .int)) (by decide) rfl ?_
  intro p e s m args below meth c s₁ B hml hv
  obtain ⟨rfl, hsz, hP, hK, hD0, hE⟩ := hv
  have hx := B.exec
  have hb := B.bytes
  have hr := B.returns
  have hts := atoms_spec (ws := Cond.code yX8_turnings cX8_turnings 1 (some .int) :: ds_gw) B.pre
  have hg : ∀ {w : Cond}, w ∈ ds_gw → w.before _ s = true := fun h => hts _ (List.mem_cons_of_mem _ h)
  have hown : s.vm.findClass RX8 = some m.cls := findClass_of_methodNamed B.named
  have hlocks := B.notSynchronized
  subst hsz
  have hD := hD0.self (sz := s.heap.size)
  generalize hAe : va_A [(h_o, .inr (7, [.ref h_o_plans, .ref h_o_makers, .ref h_o_halves, .int o_raised, .ref h_o_all, .ref h_o_text, .ref h_o_saved, .ref h_o_undone, .int o_undos, .int o_reached, .int o_length, .int o_begin, .int o_letters, .int o_sort, .long o_word, .int o_wrongAt, .int o_badAt, .int o_bad, .ref h_o_told, .ref h_o_shift, .int o_firstX, .int o_firstY, .int o_secondX, .int o_secondY, .ref h_o_rootOf, .ref h_o_becomes, .ref h_o_comes, .ref h_o_next, .int o_x])), (h_o_all, .inl (ca 0, 350, .inl o_all_r))] s.heap.size = A at hD hE ⊢
  have hA : ∀ q : Nat, s.heap.size ≤ q → A q := fun q h => by rw [← hAe]; exact Or.inr h
  have hS : va_S A s.heap s.heap [] := va_S.rf
  have hl := lv_entry ([.ref h_o]) (n := 1) (Nat.le_of_ble_eq_true rfl)
  rw [lg_entry_eq]
  generalize (lg_sl ([.ref h_o]) ++ List.replicate (1 - (lg_sl ([.ref h_o])).length) Slot.unset).toArray = ls at hl ⊢
  have hl : lv_has ls 1 [(0, .ref h_o)] := hl
  obtain ⟨G0, eG0⟩ : ∃ G : Int32 → Prop, G = (fun r => r = res) := ⟨_, rfl⟩
  obtain ⟨rr, hrr⟩ : ∃ z, z = res := ⟨_, rfl⟩
  rw [← hrr] at hf
  have hG : G0 rr := by subst eG0; exact hrr
  unfold fX8_turnings at hf
  refine lv_aload_n hx hb dX8_turnings_0 rfl (lv_at hl 0 rfl) ?_
  refine va_get (D := (dC, dI)) (ci := 7) (v := .ref h_o_all) (C := RX8) (T := TX8) (N := 29) hx hb hts (fun w h => List.mem_cons_of_mem _ (kc_X8 w h)) hown hK hP 0 rfl rfl 4 (by decide) (hg kw_594) (fun _ h9 => h9) rfl dX8_turnings_1 ?_
  refine lv_iconst (v := 2) hx hb dX8_turnings_4 (by decide) ?_
  refine va_iald hx hb hK hP 1 0 rfl rfl (ds_in_ok (i := 2) (n := 350) (by decide)) dX8_turnings_5 ?_
  refine lv_iconst (v := 1) hx hb dX8_turnings_6 (by decide) ?_
  refine lv_icmp_ne (tgt := 15) hx hb dX8_turnings_7 (by decide) (fun c_7 => ?_) (fun c_7 => ?_)
  · replace hf := ds_f c_7 hf
    refine lv_bipush (v := 8) hx hb dX8_turnings_15 (by decide) ?_
    have hf := Option.some.inj hf
    subst hf
    rw [eG0] at hG
    have hG : _ = res := hG
    subst hG
    exact W.iret (v := (8 : Int32)) hx hb hr (fun t ht hW => ⟨⟨(8 : Int32), (), rfl, rfl, by rw [ht]; exact hP, hD⟩, hS.F ht⟩) hS.2.2 dX8_turnings_17
  · replace hf := ds_t c_7 hf
    refine lv_bipush (v := 12) hx hb dX8_turnings_10 (by decide) ?_
    refine lv_goto (tgt := 17) hx hb dX8_turnings_12 (by decide) ?_
    have hf := Option.some.inj hf
    subst hf
    rw [eG0] at hG
    have hG : _ = res := hG
    subst hG
    exact W.iret (v := (12 : Int32)) hx hb hr (fun t ht hW => ⟨⟨(12 : Int32), (), rfl, rfl, by rw [ht]; exact hP, hD⟩, hS.F ht⟩) hS.2.2 dX8_turnings_17
theorem dX8_turnX_0 : decode cX8_turnX 0 = .ok (.iconst 4, 1) := by decide +kernel
theorem dX8_turnX_1 : decode cX8_turnX 1 = .ok (.iload_n 1, 1) := by decide +kernel
theorem dX8_turnX_2 : decode cX8_turnX 2 = .ok (.imul, 1) := by decide +kernel
theorem dX8_turnX_3 : decode cX8_turnX 3 = .ok (.aload_n 0, 1) := by decide +kernel
theorem dX8_turnX_4 : decode cX8_turnX 4 = .ok (.getfield 19, 3) := by decide +kernel
theorem dX8_turnX_7 : decode cX8_turnX 7 = .ok (.iconst 2, 1) := by decide +kernel
theorem dX8_turnX_8 : decode cX8_turnX 8 = .ok (.iaload, 1) := by decide +kernel
theorem dX8_turnX_9 : decode cX8_turnX 9 = .ok (.iconst 1, 1) := by decide +kernel
theorem dX8_turnX_10 : decode cX8_turnX 10 = .ok (.if_icmp .ne 8, 3) := by decide +kernel
theorem dX8_turnX_13 : decode cX8_turnX 13 = .ok (.bipush 32, 2) := by decide +kernel
theorem dX8_turnX_15 : decode cX8_turnX 15 = .ok (.goto 4, 3) := by decide +kernel
theorem dX8_turnX_18 : decode cX8_turnX 18 = .ok (.iconst 0, 1) := by decide +kernel
theorem dX8_turnX_19 : decode cX8_turnX 19 = .ok (.iadd, 1) := by decide +kernel
theorem dX8_turnX_20 : decode cX8_turnX 20 = .ok (.istore 4, 2) := by decide +kernel
theorem dX8_turnX_22 : decode cX8_turnX 22 = .ok (.aload_n 0, 1) := by decide +kernel
theorem dX8_turnX_23 : decode cX8_turnX 23 = .ok (.getfield 7, 3) := by decide +kernel
theorem dX8_turnX_26 : decode cX8_turnX 26 = .ok (.iload 4, 2) := by decide +kernel
theorem dX8_turnX_28 : decode cX8_turnX 28 = .ok (.iaload, 1) := by decide +kernel
theorem dX8_turnX_29 : decode cX8_turnX 29 = .ok (.iload_n 2, 1) := by decide +kernel
theorem dX8_turnX_30 : decode cX8_turnX 30 = .ok (.imul, 1) := by decide +kernel
theorem dX8_turnX_31 : decode cX8_turnX 31 = .ok (.aload_n 0, 1) := by decide +kernel
theorem dX8_turnX_32 : decode cX8_turnX 32 = .ok (.getfield 7, 3) := by decide +kernel
theorem dX8_turnX_35 : decode cX8_turnX 35 = .ok (.iload 4, 2) := by decide +kernel
theorem dX8_turnX_37 : decode cX8_turnX 37 = .ok (.iconst 1, 1) := by decide +kernel
theorem dX8_turnX_38 : decode cX8_turnX 38 = .ok (.iadd, 1) := by decide +kernel
theorem dX8_turnX_39 : decode cX8_turnX 39 = .ok (.iaload, 1) := by decide +kernel
theorem dX8_turnX_40 : decode cX8_turnX 40 = .ok (.iload_n 3, 1) := by decide +kernel
theorem dX8_turnX_41 : decode cX8_turnX 41 = .ok (.imul, 1) := by decide +kernel
theorem dX8_turnX_42 : decode cX8_turnX 42 = .ok (.iadd, 1) := by decide +kernel
theorem dX8_turnX_43 : decode cX8_turnX 43 = .ok (.ireturn, 1) := by decide +kernel
def fX8_turnX_19 (o_plans_r : Nat → Int32) (p2 : Int32) (p3 : Int32) (s0 : Int32) (s1 : Int32) : Option (Int32) :=
  if ds_in (s1 + s0) 80 = true then if ds_in ((s1 + s0) + (1 : Int32)) 80 = true then some (((o_plans_r (s1 + s0).toNatClampNeg) * p2) + ((o_plans_r ((s1 + s0) + (1 : Int32)).toNatClampNeg) * p3)) else none else none
def fX8_turnX (o_all_r : Nat → Int32) (o_plans_r : Nat → Int32) (p1 : Int32) (p2 : Int32) (p3 : Int32) : Option (Int32) :=
  if (o_all_r (2 : Int32).toNatClampNeg) = (1 : Int32) then fX8_turnX_19 o_plans_r p2 p3 (32 : Int32) ((4 : Int32) * p1) else fX8_turnX_19 o_plans_r p2 p3 (0 : Int32) ((4 : Int32) * p1)
set_option maxHeartbeats 4000000 in
set_option maxRecDepth 100000 in
theorem c_X8_turnX (l : Launch) (dC : Nat → ClassId) (dI : Nat → Nat → Nat) (ca : Nat → ClassId) (sa : Nat → Nat) (h_o : Nat) (h_o_plans : Nat) (h_o_makers : Nat) (h_o_halves : Nat) (h_o_all : Nat) (h_o_text : Nat) (h_o_saved : Nat) (h_o_undone : Nat) (h_o_told : Nat) (h_o_shift : Nat) (h_o_rootOf : Nat) (h_o_becomes : Nat) (h_o_comes : Nat) (h_o_next : Nat) (sz : Nat) (o_raised : Int32) (o_undos : Int32) (o_reached : Int32) (o_length : Int32) (o_begin : Int32) (o_letters : Int32) (o_sort : Int32) (o_word : Int64) (o_wrongAt : Int32) (o_badAt : Int32) (o_bad : Int32) (o_firstX : Int32) (o_firstY : Int32) (o_secondX : Int32) (o_secondY : Int32) (o_x : Int32) (o_all_r : Nat → Int32) (o_plans_r : Nat → Int32) (p1 : Int32) (p2 : Int32) (p3 : Int32) (res : Int32) (hf : fX8_turnX o_all_r o_plans_r p1 p2 p3 = some res) : Met l yX8_turnX (Cond.code yX8_turnX cX8_turnX 5 (some .int) :: ds_gw) { frames := 0, cells := 0, slots := 0, locals := 0 } (va_Pc [.ref h_o, .int p1, .int p2, .int p3] (ds_Pre dC dI ca sa [(h_o, .inr (7, [.ref h_o_plans, .ref h_o_makers, .ref h_o_halves, .int o_raised, .ref h_o_all, .ref h_o_text, .ref h_o_saved, .ref h_o_undone, .int o_undos, .int o_reached, .int o_length, .int o_begin, .int o_letters, .int o_sort, .long o_word, .int o_wrongAt, .int o_badAt, .int o_bad, .ref h_o_told, .ref h_o_shift, .int o_firstX, .int o_firstY, .int o_secondX, .int o_secondY, .ref h_o_rootOf, .ref h_o_becomes, .ref h_o_comes, .ref h_o_next, .int o_x])), (h_o_all, .inl (ca 0, 350, .inl o_all_r)), (h_o_plans, .inl (ca 0, 80, .inl o_plans_r))] sz)) (va_Qi (fun r (_ : Unit) => r = res) (ds_B dC dI (va_A [(h_o, .inr (7, [.ref h_o_plans, .ref h_o_makers, .ref h_o_halves, .int o_raised, .ref h_o_all, .ref h_o_text, .ref h_o_saved, .ref h_o_undone, .int o_undos, .int o_reached, .int o_length, .int o_begin, .int o_letters, .int o_sort, .long o_word, .int o_wrongAt, .int o_badAt, .int o_bad, .ref h_o_told, .ref h_o_shift, .int o_firstX, .int o_firstY, .int o_secondX, .int o_secondY, .ref h_o_rootOf, .ref h_o_becomes, .ref h_o_comes, .ref h_o_next, .int o_x])), (h_o_all, .inl (ca 0, 350, .inl o_all_r)), (h_o_plans, .inl (ca 0, 80, .inl o_plans_r))] sz) [(h_o, .inr (7, [.ref h_o_plans, .ref h_o_makers, .ref h_o_halves, .int o_raised, .ref h_o_all, .ref h_o_text, .ref h_o_saved, .ref h_o_undone, .int o_undos, .int o_reached, .int o_length, .int o_begin, .int o_letters, .int o_sort, .long o_word, .int o_wrongAt, .int o_badAt, .int o_bad, .ref h_o_told, .ref h_o_shift, .int o_firstX, .int o_firstY, .int o_secondX, .int o_secondY, .ref h_o_rootOf, .ref h_o_becomes, .ref h_o_comes, .ref h_o_next, .int o_x])), (h_o_all, .inl (ca 0, 350, .inl o_all_r)), (h_o_plans, .inl (ca 0, 80, .inl o_plans_r))]) (va_A [(h_o, .inr (7, [.ref h_o_plans, .ref h_o_makers, .ref h_o_halves, .int o_raised, .ref h_o_all, .ref h_o_text, .ref h_o_saved, .ref h_o_undone, .int o_undos, .int o_reached, .int o_length, .int o_begin, .int o_letters, .int o_sort, .long o_word, .int o_wrongAt, .int o_badAt, .int o_bad, .ref h_o_told, .ref h_o_shift, .int o_firstX, .int o_firstY, .int o_secondX, .int o_secondY, .ref h_o_rootOf, .ref h_o_becomes, .ref h_o_comes, .ref h_o_next, .int o_x])), (h_o_all, .inl (ca 0, 350, .inl o_all_r)), (h_o_plans, .inl (ca 0, 80, .inl o_plans_r))] sz)) 0 0 (va_A [(h_o, .inr (7, [.ref h_o_plans, .ref h_o_makers, .ref h_o_halves, .int o_raised, .ref h_o_all, .ref h_o_text, .ref h_o_saved, .ref h_o_undone, .int o_undos, .int o_reached, .int o_length, .int o_begin, .int o_letters, .int o_sort, .long o_word, .int o_wrongAt, .int o_badAt, .int o_bad, .ref h_o_told, .ref h_o_shift, .int o_firstX, .int o_firstY, .int o_secondX, .int o_secondY, .ref h_o_rootOf, .ref h_o_becomes, .ref h_o_comes, .ref h_o_next, .int o_x])), (h_o_all, .inl (ca 0, 350, .inl o_all_r)), (h_o_plans, .inl (ca 0, 80, .inl o_plans_r))] sz) := by
  refine Met.ofW (cc := cX8_turnX) (maxL := 5) (ret := (some .int)) (by decide) rfl ?_
  intro p e s m args below meth c s₁ B hml hv
  obtain ⟨rfl, hsz, hP, hK, hD0, hE⟩ := hv
  have hx := B.exec
  have hb := B.bytes
  have hr := B.returns
  have hts := atoms_spec (ws := Cond.code yX8_turnX cX8_turnX 5 (some .int) :: ds_gw) B.pre
  have hg : ∀ {w : Cond}, w ∈ ds_gw → w.before _ s = true := fun h => hts _ (List.mem_cons_of_mem _ h)
  have hown : s.vm.findClass RX8 = some m.cls := findClass_of_methodNamed B.named
  have hlocks := B.notSynchronized
  subst hsz
  have hD := hD0.self (sz := s.heap.size)
  generalize hAe : va_A [(h_o, .inr (7, [.ref h_o_plans, .ref h_o_makers, .ref h_o_halves, .int o_raised, .ref h_o_all, .ref h_o_text, .ref h_o_saved, .ref h_o_undone, .int o_undos, .int o_reached, .int o_length, .int o_begin, .int o_letters, .int o_sort, .long o_word, .int o_wrongAt, .int o_badAt, .int o_bad, .ref h_o_told, .ref h_o_shift, .int o_firstX, .int o_firstY, .int o_secondX, .int o_secondY, .ref h_o_rootOf, .ref h_o_becomes, .ref h_o_comes, .ref h_o_next, .int o_x])), (h_o_all, .inl (ca 0, 350, .inl o_all_r)), (h_o_plans, .inl (ca 0, 80, .inl o_plans_r))] s.heap.size = A at hD hE ⊢
  have hA : ∀ q : Nat, s.heap.size ≤ q → A q := fun q h => by rw [← hAe]; exact Or.inr h
  have hS : va_S A s.heap s.heap [] := va_S.rf
  have hl := lv_entry ([.ref h_o, .int p1, .int p2, .int p3]) (n := 5) (Nat.le_of_ble_eq_true rfl)
  rw [lg_entry_eq]
  generalize (lg_sl ([.ref h_o, .int p1, .int p2, .int p3]) ++ List.replicate (5 - (lg_sl ([.ref h_o, .int p1, .int p2, .int p3])).length) Slot.unset).toArray = ls at hl ⊢
  have hl : lv_has ls 5 [(0, .ref h_o), (1, .int p1), (2, .int p2), (3, .int p3)] := hl
  obtain ⟨G0, eG0⟩ : ∃ G : Int32 → Prop, G = (fun r => r = res) := ⟨_, rfl⟩
  obtain ⟨rr, hrr⟩ : ∃ z, z = res := ⟨_, rfl⟩
  rw [← hrr] at hf
  have hG : G0 rr := by subst eG0; exact hrr
  refine ds_cap (fun WW h1 h2 => ?_)
  have J_19 : ∀ (s0 : Int32) (s1 : Int32) (rr : Int32) (hf : fX8_turnX_19 o_plans_r p2 p3 s0 s1 = some rr) (hG : G0 rr) (H : Heap) (locs : List Loc) (hP : va_P (dC, dI) vwCl [(h_o, .inr (7, [.ref h_o_plans, .ref h_o_makers, .ref h_o_halves, .int o_raised, .ref h_o_all, .ref h_o_text, .ref h_o_saved, .ref h_o_undone, .int o_undos, .int o_reached, .int o_length, .int o_begin, .int o_letters, .int o_sort, .long o_word, .int o_wrongAt, .int o_badAt, .int o_bad, .ref h_o_told, .ref h_o_shift, .int o_firstX, .int o_firstY, .int o_secondX, .int o_secondY, .ref h_o_rootOf, .ref h_o_becomes, .ref h_o_comes, .ref h_o_next, .int o_x])), (h_o_all, .inl (ca 0, 350, .inl o_all_r)), (h_o_plans, .inl (ca 0, 80, .inl o_plans_r))] H) (hD : va_D A [(h_o, .inr (7, [.ref h_o_plans, .ref h_o_makers, .ref h_o_halves, .int o_raised, .ref h_o_all, .ref h_o_text, .ref h_o_saved, .ref h_o_undone, .int o_undos, .int o_reached, .int o_length, .int o_begin, .int o_letters, .int o_sort, .long o_word, .int o_wrongAt, .int o_badAt, .int o_bad, .ref h_o_told, .ref h_o_shift, .int o_firstX, .int o_firstY, .int o_secondX, .int o_secondY, .ref h_o_rootOf, .ref h_o_becomes, .ref h_o_comes, .ref h_o_next, .int o_x])), (h_o_all, .inl (ca 0, 350, .inl o_all_r)), (h_o_plans, .inl (ca 0, 80, .inl o_plans_r))]) (hS : va_S A s.heap H locs) (ls : Array Slot) (hl : lv_has ls 5 [(0, .ref h_o), (2, .int p2), (3, .int p3)]), WW H locs (F0 m 19 ls [.int s0, .int s1]) := by
    intro s0 s1 rr hf hG H locs hP hD hS ls hl
    refine h2 ?_
    unfold fX8_turnX_19 at hf
    refine lv_iadd hx hb dX8_turnX_19 ?_
    refine lv_istore (lv' := [(4, .int (s1 + s0)), (0, .ref h_o), (2, .int p2), (3, .int p3)]) hx hb dX8_turnX_20 hl (by decide) rfl (fun ls hl => ?_)
    refine lv_aload_n hx hb dX8_turnX_22 rfl (lv_at hl 1 rfl) ?_
    refine va_get (D := (dC, dI)) (ci := 7) (v := .ref h_o_plans) (C := RX8) (T := TX8) (N := 29) hx hb hts (fun w h => List.mem_cons_of_mem _ (kc_X8 w h)) hown hK hP 0 rfl rfl 0 (by decide) (hg kw_603) (fun _ h9 => h9) rfl dX8_turnX_23 ?_
    refine lv_iload hx hb dX8_turnX_26 (lv_at hl 0 rfl) ?_
    obtain ⟨i_28, hf⟩ := ds_ci hf
    refine va_iald hx hb hK hP 2 0 rfl rfl i_28 dX8_turnX_28 ?_
    refine lv_iload_n hx hb dX8_turnX_29 rfl (lv_at hl 2 rfl) ?_
    refine lv_imul hx hb dX8_turnX_30 ?_
    refine lv_aload_n hx hb dX8_turnX_31 rfl (lv_at hl 1 rfl) ?_
    refine va_get (D := (dC, dI)) (ci := 7) (v := .ref h_o_plans) (C := RX8) (T := TX8) (N := 29) hx hb hts (fun w h => List.mem_cons_of_mem _ (kc_X8 w h)) hown hK hP 0 rfl rfl 0 (by decide) (hg kw_603) (fun _ h9 => h9) rfl dX8_turnX_32 ?_
    refine lv_iload hx hb dX8_turnX_35 (lv_at hl 0 rfl) ?_
    refine lv_iconst (v := 1) hx hb dX8_turnX_37 (by decide) ?_
    refine lv_iadd hx hb dX8_turnX_38 ?_
    obtain ⟨i_39, hf⟩ := ds_ci hf
    refine va_iald hx hb hK hP 2 0 rfl rfl i_39 dX8_turnX_39 ?_
    refine lv_iload_n hx hb dX8_turnX_40 rfl (lv_at hl 3 rfl) ?_
    refine lv_imul hx hb dX8_turnX_41 ?_
    refine lv_iadd hx hb dX8_turnX_42 ?_
    have hf := Option.some.inj hf
    subst hf
    rw [eG0] at hG
    have hG : _ = res := hG
    subst hG
    exact W.iret (v := (((o_plans_r (s1 + s0).toNatClampNeg) * p2) + ((o_plans_r ((s1 + s0) + (1 : Int32)).toNatClampNeg) * p3))) hx hb hr (fun t ht hW => ⟨⟨(((o_plans_r (s1 + s0).toNatClampNeg) * p2) + ((o_plans_r ((s1 + s0) + (1 : Int32)).toNatClampNeg) * p3)), (), rfl, rfl, by rw [ht]; exact hP, hD⟩, hS.F ht⟩) hS.2.2 dX8_turnX_43
  unfold fX8_turnX at hf
  refine lv_iconst (v := 4) hx hb dX8_turnX_0 (by decide) ?_
  refine lv_iload_n hx hb dX8_turnX_1 rfl (lv_at hl 1 rfl) ?_
  refine lv_imul hx hb dX8_turnX_2 ?_
  refine lv_aload_n hx hb dX8_turnX_3 rfl (lv_at hl 0 rfl) ?_
  refine va_get (D := (dC, dI)) (ci := 7) (v := .ref h_o_all) (C := RX8) (T := TX8) (N := 29) hx hb hts (fun w h => List.mem_cons_of_mem _ (kc_X8 w h)) hown hK hP 0 rfl rfl 4 (by decide) (hg kw_594) (fun _ h9 => h9) rfl dX8_turnX_4 ?_
  refine lv_iconst (v := 2) hx hb dX8_turnX_7 (by decide) ?_
  refine va_iald hx hb hK hP 1 0 rfl rfl (ds_in_ok (i := 2) (n := 350) (by decide)) dX8_turnX_8 ?_
  refine lv_iconst (v := 1) hx hb dX8_turnX_9 (by decide) ?_
  refine lv_icmp_ne (tgt := 18) hx hb dX8_turnX_10 (by decide) (fun c_10 => ?_) (fun c_10 => ?_)
  · replace hf := ds_f c_10 hf
    refine lv_iconst (v := 0) hx hb dX8_turnX_18 (by decide) ?_
    exact h1 (J_19 (0 : Int32) ((4 : Int32) * p1) _ hf hG _ _ hP hD hS _ (lv_sub hl [0, 2, 3] rfl))
  · replace hf := ds_t c_10 hf
    refine lv_bipush (v := 32) hx hb dX8_turnX_13 (by decide) ?_
    refine lv_goto (tgt := 19) hx hb dX8_turnX_15 (by decide) ?_
    exact h1 (J_19 (32 : Int32) ((4 : Int32) * p1) _ hf hG _ _ hP hD hS _ (lv_sub hl [0, 2, 3] rfl))
theorem dX8_turnY_0 : decode cX8_turnY 0 = .ok (.iconst 4, 1) := by decide +kernel
theorem dX8_turnY_1 : decode cX8_turnY 1 = .ok (.iload_n 1, 1) := by decide +kernel
theorem dX8_turnY_2 : decode cX8_turnY 2 = .ok (.imul, 1) := by decide +kernel
theorem dX8_turnY_3 : decode cX8_turnY 3 = .ok (.aload_n 0, 1) := by decide +kernel
theorem dX8_turnY_4 : decode cX8_turnY 4 = .ok (.getfield 19, 3) := by decide +kernel
theorem dX8_turnY_7 : decode cX8_turnY 7 = .ok (.iconst 2, 1) := by decide +kernel
theorem dX8_turnY_8 : decode cX8_turnY 8 = .ok (.iaload, 1) := by decide +kernel
theorem dX8_turnY_9 : decode cX8_turnY 9 = .ok (.iconst 1, 1) := by decide +kernel
theorem dX8_turnY_10 : decode cX8_turnY 10 = .ok (.if_icmp .ne 8, 3) := by decide +kernel
theorem dX8_turnY_13 : decode cX8_turnY 13 = .ok (.bipush 32, 2) := by decide +kernel
theorem dX8_turnY_15 : decode cX8_turnY 15 = .ok (.goto 4, 3) := by decide +kernel
theorem dX8_turnY_18 : decode cX8_turnY 18 = .ok (.iconst 0, 1) := by decide +kernel
theorem dX8_turnY_19 : decode cX8_turnY 19 = .ok (.iadd, 1) := by decide +kernel
theorem dX8_turnY_20 : decode cX8_turnY 20 = .ok (.istore 4, 2) := by decide +kernel
theorem dX8_turnY_22 : decode cX8_turnY 22 = .ok (.aload_n 0, 1) := by decide +kernel
theorem dX8_turnY_23 : decode cX8_turnY 23 = .ok (.getfield 7, 3) := by decide +kernel
theorem dX8_turnY_26 : decode cX8_turnY 26 = .ok (.iload 4, 2) := by decide +kernel
theorem dX8_turnY_28 : decode cX8_turnY 28 = .ok (.iconst 2, 1) := by decide +kernel
theorem dX8_turnY_29 : decode cX8_turnY 29 = .ok (.iadd, 1) := by decide +kernel
theorem dX8_turnY_30 : decode cX8_turnY 30 = .ok (.iaload, 1) := by decide +kernel
theorem dX8_turnY_31 : decode cX8_turnY 31 = .ok (.iload_n 2, 1) := by decide +kernel
theorem dX8_turnY_32 : decode cX8_turnY 32 = .ok (.imul, 1) := by decide +kernel
theorem dX8_turnY_33 : decode cX8_turnY 33 = .ok (.aload_n 0, 1) := by decide +kernel
theorem dX8_turnY_34 : decode cX8_turnY 34 = .ok (.getfield 7, 3) := by decide +kernel
theorem dX8_turnY_37 : decode cX8_turnY 37 = .ok (.iload 4, 2) := by decide +kernel
theorem dX8_turnY_39 : decode cX8_turnY 39 = .ok (.iconst 3, 1) := by decide +kernel
theorem dX8_turnY_40 : decode cX8_turnY 40 = .ok (.iadd, 1) := by decide +kernel
theorem dX8_turnY_41 : decode cX8_turnY 41 = .ok (.iaload, 1) := by decide +kernel
theorem dX8_turnY_42 : decode cX8_turnY 42 = .ok (.iload_n 3, 1) := by decide +kernel
theorem dX8_turnY_43 : decode cX8_turnY 43 = .ok (.imul, 1) := by decide +kernel
theorem dX8_turnY_44 : decode cX8_turnY 44 = .ok (.iadd, 1) := by decide +kernel
theorem dX8_turnY_45 : decode cX8_turnY 45 = .ok (.ireturn, 1) := by decide +kernel
def fX8_turnY_19 (o_plans_r : Nat → Int32) (p2 : Int32) (p3 : Int32) (s0 : Int32) (s1 : Int32) : Option (Int32) :=
  if ds_in ((s1 + s0) + (2 : Int32)) 80 = true then if ds_in ((s1 + s0) + (3 : Int32)) 80 = true then some (((o_plans_r ((s1 + s0) + (2 : Int32)).toNatClampNeg) * p2) + ((o_plans_r ((s1 + s0) + (3 : Int32)).toNatClampNeg) * p3)) else none else none
def fX8_turnY (o_all_r : Nat → Int32) (o_plans_r : Nat → Int32) (p1 : Int32) (p2 : Int32) (p3 : Int32) : Option (Int32) :=
  if (o_all_r (2 : Int32).toNatClampNeg) = (1 : Int32) then fX8_turnY_19 o_plans_r p2 p3 (32 : Int32) ((4 : Int32) * p1) else fX8_turnY_19 o_plans_r p2 p3 (0 : Int32) ((4 : Int32) * p1)
set_option maxHeartbeats 4000000 in
set_option maxRecDepth 100000 in
theorem c_X8_turnY (l : Launch) (dC : Nat → ClassId) (dI : Nat → Nat → Nat) (ca : Nat → ClassId) (sa : Nat → Nat) (h_o : Nat) (h_o_plans : Nat) (h_o_makers : Nat) (h_o_halves : Nat) (h_o_all : Nat) (h_o_text : Nat) (h_o_saved : Nat) (h_o_undone : Nat) (h_o_told : Nat) (h_o_shift : Nat) (h_o_rootOf : Nat) (h_o_becomes : Nat) (h_o_comes : Nat) (h_o_next : Nat) (sz : Nat) (o_raised : Int32) (o_undos : Int32) (o_reached : Int32) (o_length : Int32) (o_begin : Int32) (o_letters : Int32) (o_sort : Int32) (o_word : Int64) (o_wrongAt : Int32) (o_badAt : Int32) (o_bad : Int32) (o_firstX : Int32) (o_firstY : Int32) (o_secondX : Int32) (o_secondY : Int32) (o_x : Int32) (o_all_r : Nat → Int32) (o_plans_r : Nat → Int32) (p1 : Int32) (p2 : Int32) (p3 : Int32) (res : Int32) (hf : fX8_turnY o_all_r o_plans_r p1 p2 p3 = some res) : Met l yX8_turnY (Cond.code yX8_turnY cX8_turnY 5 (some .int) :: ds_gw) { frames := 0, cells := 0, slots := 0, locals := 0 } (va_Pc [.ref h_o, .int p1, .int p2, .int p3] (ds_Pre dC dI ca sa [(h_o, .inr (7, [.ref h_o_plans, .ref h_o_makers, .ref h_o_halves, .int o_raised, .ref h_o_all, .ref h_o_text, .ref h_o_saved, .ref h_o_undone, .int o_undos, .int o_reached, .int o_length, .int o_begin, .int o_letters, .int o_sort, .long o_word, .int o_wrongAt, .int o_badAt, .int o_bad, .ref h_o_told, .ref h_o_shift, .int o_firstX, .int o_firstY, .int o_secondX, .int o_secondY, .ref h_o_rootOf, .ref h_o_becomes, .ref h_o_comes, .ref h_o_next, .int o_x])), (h_o_all, .inl (ca 0, 350, .inl o_all_r)), (h_o_plans, .inl (ca 0, 80, .inl o_plans_r))] sz)) (va_Qi (fun r (_ : Unit) => r = res) (ds_B dC dI (va_A [(h_o, .inr (7, [.ref h_o_plans, .ref h_o_makers, .ref h_o_halves, .int o_raised, .ref h_o_all, .ref h_o_text, .ref h_o_saved, .ref h_o_undone, .int o_undos, .int o_reached, .int o_length, .int o_begin, .int o_letters, .int o_sort, .long o_word, .int o_wrongAt, .int o_badAt, .int o_bad, .ref h_o_told, .ref h_o_shift, .int o_firstX, .int o_firstY, .int o_secondX, .int o_secondY, .ref h_o_rootOf, .ref h_o_becomes, .ref h_o_comes, .ref h_o_next, .int o_x])), (h_o_all, .inl (ca 0, 350, .inl o_all_r)), (h_o_plans, .inl (ca 0, 80, .inl o_plans_r))] sz) [(h_o, .inr (7, [.ref h_o_plans, .ref h_o_makers, .ref h_o_halves, .int o_raised, .ref h_o_all, .ref h_o_text, .ref h_o_saved, .ref h_o_undone, .int o_undos, .int o_reached, .int o_length, .int o_begin, .int o_letters, .int o_sort, .long o_word, .int o_wrongAt, .int o_badAt, .int o_bad, .ref h_o_told, .ref h_o_shift, .int o_firstX, .int o_firstY, .int o_secondX, .int o_secondY, .ref h_o_rootOf, .ref h_o_becomes, .ref h_o_comes, .ref h_o_next, .int o_x])), (h_o_all, .inl (ca 0, 350, .inl o_all_r)), (h_o_plans, .inl (ca 0, 80, .inl o_plans_r))]) (va_A [(h_o, .inr (7, [.ref h_o_plans, .ref h_o_makers, .ref h_o_halves, .int o_raised, .ref h_o_all, .ref h_o_text, .ref h_o_saved, .ref h_o_undone, .int o_undos, .int o_reached, .int o_length, .int o_begin, .int o_letters, .int o_sort, .long o_word, .int o_wrongAt, .int o_badAt, .int o_bad, .ref h_o_told, .ref h_o_shift, .int o_firstX, .int o_firstY, .int o_secondX, .int o_secondY, .ref h_o_rootOf, .ref h_o_becomes, .ref h_o_comes, .ref h_o_next, .int o_x])), (h_o_all, .inl (ca 0, 350, .inl o_all_r)), (h_o_plans, .inl (ca 0, 80, .inl o_plans_r))] sz)) 0 0 (va_A [(h_o, .inr (7, [.ref h_o_plans, .ref h_o_makers, .ref h_o_halves, .int o_raised, .ref h_o_all, .ref h_o_text, .ref h_o_saved, .ref h_o_undone, .int o_undos, .int o_reached, .int o_length, .int o_begin, .int o_letters, .int o_sort, .long o_word, .int o_wrongAt, .int o_badAt, .int o_bad, .ref h_o_told, .ref h_o_shift, .int o_firstX, .int o_firstY, .int o_secondX, .int o_secondY, .ref h_o_rootOf, .ref h_o_becomes, .ref h_o_comes, .ref h_o_next, .int o_x])), (h_o_all, .inl (ca 0, 350, .inl o_all_r)), (h_o_plans, .inl (ca 0, 80, .inl o_plans_r))] sz) := by
  refine Met.ofW (cc := cX8_turnY) (maxL := 5) (ret := (some .int)) (by decide) rfl ?_
  intro p e s m args below meth c s₁ B hml hv
  obtain ⟨rfl, hsz, hP, hK, hD0, hE⟩ := hv
  have hx := B.exec
  have hb := B.bytes
  have hr := B.returns
  have hts := atoms_spec (ws := Cond.code yX8_turnY cX8_turnY 5 (some .int) :: ds_gw) B.pre
  have hg : ∀ {w : Cond}, w ∈ ds_gw → w.before _ s = true := fun h => hts _ (List.mem_cons_of_mem _ h)
  have hown : s.vm.findClass RX8 = some m.cls := findClass_of_methodNamed B.named
  have hlocks := B.notSynchronized
  subst hsz
  have hD := hD0.self (sz := s.heap.size)
  generalize hAe : va_A [(h_o, .inr (7, [.ref h_o_plans, .ref h_o_makers, .ref h_o_halves, .int o_raised, .ref h_o_all, .ref h_o_text, .ref h_o_saved, .ref h_o_undone, .int o_undos, .int o_reached, .int o_length, .int o_begin, .int o_letters, .int o_sort, .long o_word, .int o_wrongAt, .int o_badAt, .int o_bad, .ref h_o_told, .ref h_o_shift, .int o_firstX, .int o_firstY, .int o_secondX, .int o_secondY, .ref h_o_rootOf, .ref h_o_becomes, .ref h_o_comes, .ref h_o_next, .int o_x])), (h_o_all, .inl (ca 0, 350, .inl o_all_r)), (h_o_plans, .inl (ca 0, 80, .inl o_plans_r))] s.heap.size = A at hD hE ⊢
  have hA : ∀ q : Nat, s.heap.size ≤ q → A q := fun q h => by rw [← hAe]; exact Or.inr h
  have hS : va_S A s.heap s.heap [] := va_S.rf
  have hl := lv_entry ([.ref h_o, .int p1, .int p2, .int p3]) (n := 5) (Nat.le_of_ble_eq_true rfl)
  rw [lg_entry_eq]
  generalize (lg_sl ([.ref h_o, .int p1, .int p2, .int p3]) ++ List.replicate (5 - (lg_sl ([.ref h_o, .int p1, .int p2, .int p3])).length) Slot.unset).toArray = ls at hl ⊢
  have hl : lv_has ls 5 [(0, .ref h_o), (1, .int p1), (2, .int p2), (3, .int p3)] := hl
  obtain ⟨G0, eG0⟩ : ∃ G : Int32 → Prop, G = (fun r => r = res) := ⟨_, rfl⟩
  obtain ⟨rr, hrr⟩ : ∃ z, z = res := ⟨_, rfl⟩
  rw [← hrr] at hf
  have hG : G0 rr := by subst eG0; exact hrr
  refine ds_cap (fun WW h1 h2 => ?_)
  have J_19 : ∀ (s0 : Int32) (s1 : Int32) (rr : Int32) (hf : fX8_turnY_19 o_plans_r p2 p3 s0 s1 = some rr) (hG : G0 rr) (H : Heap) (locs : List Loc) (hP : va_P (dC, dI) vwCl [(h_o, .inr (7, [.ref h_o_plans, .ref h_o_makers, .ref h_o_halves, .int o_raised, .ref h_o_all, .ref h_o_text, .ref h_o_saved, .ref h_o_undone, .int o_undos, .int o_reached, .int o_length, .int o_begin, .int o_letters, .int o_sort, .long o_word, .int o_wrongAt, .int o_badAt, .int o_bad, .ref h_o_told, .ref h_o_shift, .int o_firstX, .int o_firstY, .int o_secondX, .int o_secondY, .ref h_o_rootOf, .ref h_o_becomes, .ref h_o_comes, .ref h_o_next, .int o_x])), (h_o_all, .inl (ca 0, 350, .inl o_all_r)), (h_o_plans, .inl (ca 0, 80, .inl o_plans_r))] H) (hD : va_D A [(h_o, .inr (7, [.ref h_o_plans, .ref h_o_makers, .ref h_o_halves, .int o_raised, .ref h_o_all, .ref h_o_text, .ref h_o_saved, .ref h_o_undone, .int o_undos, .int o_reached, .int o_length, .int o_begin, .int o_letters, .int o_sort, .long o_word, .int o_wrongAt, .int o_badAt, .int o_bad, .ref h_o_told, .ref h_o_shift, .int o_firstX, .int o_firstY, .int o_secondX, .int o_secondY, .ref h_o_rootOf, .ref h_o_becomes, .ref h_o_comes, .ref h_o_next, .int o_x])), (h_o_all, .inl (ca 0, 350, .inl o_all_r)), (h_o_plans, .inl (ca 0, 80, .inl o_plans_r))]) (hS : va_S A s.heap H locs) (ls : Array Slot) (hl : lv_has ls 5 [(0, .ref h_o), (2, .int p2), (3, .int p3)]), WW H locs (F0 m 19 ls [.int s0, .int s1]) := by
    intro s0 s1 rr hf hG H locs hP hD hS ls hl
    refine h2 ?_
    unfold fX8_turnY_19 at hf
    refine lv_iadd hx hb dX8_turnY_19 ?_
    refine lv_istore (lv' := [(4, .int (s1 + s0)), (0, .ref h_o), (2, .int p2), (3, .int p3)]) hx hb dX8_turnY_20 hl (by decide) rfl (fun ls hl => ?_)
    refine lv_aload_n hx hb dX8_turnY_22 rfl (lv_at hl 1 rfl) ?_
    refine va_get (D := (dC, dI)) (ci := 7) (v := .ref h_o_plans) (C := RX8) (T := TX8) (N := 29) hx hb hts (fun w h => List.mem_cons_of_mem _ (kc_X8 w h)) hown hK hP 0 rfl rfl 0 (by decide) (hg kw_603) (fun _ h9 => h9) rfl dX8_turnY_23 ?_
    refine lv_iload hx hb dX8_turnY_26 (lv_at hl 0 rfl) ?_
    refine lv_iconst (v := 2) hx hb dX8_turnY_28 (by decide) ?_
    refine lv_iadd hx hb dX8_turnY_29 ?_
    obtain ⟨i_30, hf⟩ := ds_ci hf
    refine va_iald hx hb hK hP 2 0 rfl rfl i_30 dX8_turnY_30 ?_
    refine lv_iload_n hx hb dX8_turnY_31 rfl (lv_at hl 2 rfl) ?_
    refine lv_imul hx hb dX8_turnY_32 ?_
    refine lv_aload_n hx hb dX8_turnY_33 rfl (lv_at hl 1 rfl) ?_
    refine va_get (D := (dC, dI)) (ci := 7) (v := .ref h_o_plans) (C := RX8) (T := TX8) (N := 29) hx hb hts (fun w h => List.mem_cons_of_mem _ (kc_X8 w h)) hown hK hP 0 rfl rfl 0 (by decide) (hg kw_603) (fun _ h9 => h9) rfl dX8_turnY_34 ?_
    refine lv_iload hx hb dX8_turnY_37 (lv_at hl 0 rfl) ?_
    refine lv_iconst (v := 3) hx hb dX8_turnY_39 (by decide) ?_
    refine lv_iadd hx hb dX8_turnY_40 ?_
    obtain ⟨i_41, hf⟩ := ds_ci hf
    refine va_iald hx hb hK hP 2 0 rfl rfl i_41 dX8_turnY_41 ?_
    refine lv_iload_n hx hb dX8_turnY_42 rfl (lv_at hl 3 rfl) ?_
    refine lv_imul hx hb dX8_turnY_43 ?_
    refine lv_iadd hx hb dX8_turnY_44 ?_
    have hf := Option.some.inj hf
    subst hf
    rw [eG0] at hG
    have hG : _ = res := hG
    subst hG
    exact W.iret (v := (((o_plans_r ((s1 + s0) + (2 : Int32)).toNatClampNeg) * p2) + ((o_plans_r ((s1 + s0) + (3 : Int32)).toNatClampNeg) * p3))) hx hb hr (fun t ht hW => ⟨⟨(((o_plans_r ((s1 + s0) + (2 : Int32)).toNatClampNeg) * p2) + ((o_plans_r ((s1 + s0) + (3 : Int32)).toNatClampNeg) * p3)), (), rfl, rfl, by rw [ht]; exact hP, hD⟩, hS.F ht⟩) hS.2.2 dX8_turnY_45
  unfold fX8_turnY at hf
  refine lv_iconst (v := 4) hx hb dX8_turnY_0 (by decide) ?_
  refine lv_iload_n hx hb dX8_turnY_1 rfl (lv_at hl 1 rfl) ?_
  refine lv_imul hx hb dX8_turnY_2 ?_
  refine lv_aload_n hx hb dX8_turnY_3 rfl (lv_at hl 0 rfl) ?_
  refine va_get (D := (dC, dI)) (ci := 7) (v := .ref h_o_all) (C := RX8) (T := TX8) (N := 29) hx hb hts (fun w h => List.mem_cons_of_mem _ (kc_X8 w h)) hown hK hP 0 rfl rfl 4 (by decide) (hg kw_594) (fun _ h9 => h9) rfl dX8_turnY_4 ?_
  refine lv_iconst (v := 2) hx hb dX8_turnY_7 (by decide) ?_
  refine va_iald hx hb hK hP 1 0 rfl rfl (ds_in_ok (i := 2) (n := 350) (by decide)) dX8_turnY_8 ?_
  refine lv_iconst (v := 1) hx hb dX8_turnY_9 (by decide) ?_
  refine lv_icmp_ne (tgt := 18) hx hb dX8_turnY_10 (by decide) (fun c_10 => ?_) (fun c_10 => ?_)
  · replace hf := ds_f c_10 hf
    refine lv_iconst (v := 0) hx hb dX8_turnY_18 (by decide) ?_
    exact h1 (J_19 (0 : Int32) ((4 : Int32) * p1) _ hf hG _ _ hP hD hS _ (lv_sub hl [0, 2, 3] rfl))
  · replace hf := ds_t c_10 hf
    refine lv_bipush (v := 32) hx hb dX8_turnY_13 (by decide) ?_
    refine lv_goto (tgt := 19) hx hb dX8_turnY_15 (by decide) ?_
    exact h1 (J_19 (32 : Int32) ((4 : Int32) * p1) _ hf hG _ _ hP hD hS _ (lv_sub hl [0, 2, 3] rfl))
theorem dX8_isFlip_0 : decode cX8_isFlip 0 = .ok (.iload_n 1, 1) := by decide +kernel
theorem dX8_isFlip_1 : decode cX8_isFlip 1 = .ok (.aload_n 0, 1) := by decide +kernel
theorem dX8_isFlip_2 : decode cX8_isFlip 2 = .ok (.invokevirtual 62, 3) := by decide +kernel
theorem dX8_isFlip_5 : decode cX8_isFlip 5 = .ok (.iconst 2, 1) := by decide +kernel
theorem dX8_isFlip_6 : decode cX8_isFlip 6 = .ok (.idiv, 1) := by decide +kernel
theorem dX8_isFlip_7 : decode cX8_isFlip 7 = .ok (.if_icmp .lt 7, 3) := by decide +kernel
theorem dX8_isFlip_10 : decode cX8_isFlip 10 = .ok (.iconst 1, 1) := by decide +kernel
theorem dX8_isFlip_11 : decode cX8_isFlip 11 = .ok (.goto 4, 3) := by decide +kernel
theorem dX8_isFlip_14 : decode cX8_isFlip 14 = .ok (.iconst 0, 1) := by decide +kernel
theorem dX8_isFlip_15 : decode cX8_isFlip 15 = .ok (.ireturn, 1) := by decide +kernel
def fX8_isFlip (o_all_r : Nat → Int32) (p1 : Int32) : Option (Int32) :=
  Option.bind (fX8_turnings o_all_r) fun q2 => if p1 < (q2 / (2 : Int32)) then some (0 : Int32) else some (1 : Int32)
set_option maxHeartbeats 4000000 in
set_option maxRecDepth 100000 in
theorem c_X8_isFlip (l : Launch) (dC : Nat → ClassId) (dI : Nat → Nat → Nat) (ca : Nat → ClassId) (sa : Nat → Nat) (h_o : Nat) (h_o_plans : Nat) (h_o_makers : Nat) (h_o_halves : Nat) (h_o_all : Nat) (h_o_text : Nat) (h_o_saved : Nat) (h_o_undone : Nat) (h_o_told : Nat) (h_o_shift : Nat) (h_o_rootOf : Nat) (h_o_becomes : Nat) (h_o_comes : Nat) (h_o_next : Nat) (sz : Nat) (o_raised : Int32) (o_undos : Int32) (o_reached : Int32) (o_length : Int32) (o_begin : Int32) (o_letters : Int32) (o_sort : Int32) (o_word : Int64) (o_wrongAt : Int32) (o_badAt : Int32) (o_bad : Int32) (o_firstX : Int32) (o_firstY : Int32) (o_secondX : Int32) (o_secondY : Int32) (o_x : Int32) (o_all_r : Nat → Int32) (p1 : Int32) (res : Int32) (hf : fX8_isFlip o_all_r p1 = some res) : Met l yX8_isFlip (Cond.code yX8_isFlip cX8_isFlip 2 (some .boolean) :: ds_gw) { frames := 1, cells := 0, slots := 0, locals := 20 } (va_Pc [.ref h_o, .int p1] (ds_Pre dC dI ca sa [(h_o, .inr (7, [.ref h_o_plans, .ref h_o_makers, .ref h_o_halves, .int o_raised, .ref h_o_all, .ref h_o_text, .ref h_o_saved, .ref h_o_undone, .int o_undos, .int o_reached, .int o_length, .int o_begin, .int o_letters, .int o_sort, .long o_word, .int o_wrongAt, .int o_badAt, .int o_bad, .ref h_o_told, .ref h_o_shift, .int o_firstX, .int o_firstY, .int o_secondX, .int o_secondY, .ref h_o_rootOf, .ref h_o_becomes, .ref h_o_comes, .ref h_o_next, .int o_x])), (h_o_all, .inl (ca 0, 350, .inl o_all_r))] sz)) (va_Qi (fun r (_ : Unit) => r = res) (ds_B dC dI (va_A [(h_o, .inr (7, [.ref h_o_plans, .ref h_o_makers, .ref h_o_halves, .int o_raised, .ref h_o_all, .ref h_o_text, .ref h_o_saved, .ref h_o_undone, .int o_undos, .int o_reached, .int o_length, .int o_begin, .int o_letters, .int o_sort, .long o_word, .int o_wrongAt, .int o_badAt, .int o_bad, .ref h_o_told, .ref h_o_shift, .int o_firstX, .int o_firstY, .int o_secondX, .int o_secondY, .ref h_o_rootOf, .ref h_o_becomes, .ref h_o_comes, .ref h_o_next, .int o_x])), (h_o_all, .inl (ca 0, 350, .inl o_all_r))] sz) [(h_o, .inr (7, [.ref h_o_plans, .ref h_o_makers, .ref h_o_halves, .int o_raised, .ref h_o_all, .ref h_o_text, .ref h_o_saved, .ref h_o_undone, .int o_undos, .int o_reached, .int o_length, .int o_begin, .int o_letters, .int o_sort, .long o_word, .int o_wrongAt, .int o_badAt, .int o_bad, .ref h_o_told, .ref h_o_shift, .int o_firstX, .int o_firstY, .int o_secondX, .int o_secondY, .ref h_o_rootOf, .ref h_o_becomes, .ref h_o_comes, .ref h_o_next, .int o_x])), (h_o_all, .inl (ca 0, 350, .inl o_all_r))]) (va_A [(h_o, .inr (7, [.ref h_o_plans, .ref h_o_makers, .ref h_o_halves, .int o_raised, .ref h_o_all, .ref h_o_text, .ref h_o_saved, .ref h_o_undone, .int o_undos, .int o_reached, .int o_length, .int o_begin, .int o_letters, .int o_sort, .long o_word, .int o_wrongAt, .int o_badAt, .int o_bad, .ref h_o_told, .ref h_o_shift, .int o_firstX, .int o_firstY, .int o_secondX, .int o_secondY, .ref h_o_rootOf, .ref h_o_becomes, .ref h_o_comes, .ref h_o_next, .int o_x])), (h_o_all, .inl (ca 0, 350, .inl o_all_r))] sz)) 0 0 (va_A [(h_o, .inr (7, [.ref h_o_plans, .ref h_o_makers, .ref h_o_halves, .int o_raised, .ref h_o_all, .ref h_o_text, .ref h_o_saved, .ref h_o_undone, .int o_undos, .int o_reached, .int o_length, .int o_begin, .int o_letters, .int o_sort, .long o_word, .int o_wrongAt, .int o_badAt, .int o_bad, .ref h_o_told, .ref h_o_shift, .int o_firstX, .int o_firstY, .int o_secondX, .int o_secondY, .ref h_o_rootOf, .ref h_o_becomes, .ref h_o_comes, .ref h_o_next, .int o_x])), (h_o_all, .inl (ca 0, 350, .inl o_all_r))] sz) := by
  refine Met.ofW (cc := cX8_isFlip) (maxL := 2) (ret := (some .boolean)) (by decide) rfl ?_
  intro p e s m args below meth c s₁ B hml hv
  obtain ⟨rfl, hsz, hP, hK, hD0, hE⟩ := hv
  have hx := B.exec
  have hb := B.bytes
  have hr := B.returns
  have hts := atoms_spec (ws := Cond.code yX8_isFlip cX8_isFlip 2 (some .boolean) :: ds_gw) B.pre
  have hg : ∀ {w : Cond}, w ∈ ds_gw → w.before _ s = true := fun h => hts _ (List.mem_cons_of_mem _ h)
  have hown : s.vm.findClass RX8 = some m.cls := findClass_of_methodNamed B.named
  have hlocks := B.notSynchronized
  subst hsz
  have hD := hD0.self (sz := s.heap.size)
  generalize hAe : va_A [(h_o, .inr (7, [.ref h_o_plans, .ref h_o_makers, .ref h_o_halves, .int o_raised, .ref h_o_all, .ref h_o_text, .ref h_o_saved, .ref h_o_undone, .int o_undos, .int o_reached, .int o_length, .int o_begin, .int o_letters, .int o_sort, .long o_word, .int o_wrongAt, .int o_badAt, .int o_bad, .ref h_o_told, .ref h_o_shift, .int o_firstX, .int o_firstY, .int o_secondX, .int o_secondY, .ref h_o_rootOf, .ref h_o_becomes, .ref h_o_comes, .ref h_o_next, .int o_x])), (h_o_all, .inl (ca 0, 350, .inl o_all_r))] s.heap.size = A at hD hE ⊢
  have hA : ∀ q : Nat, s.heap.size ≤ q → A q := fun q h => by rw [← hAe]; exact Or.inr h
  have hS : va_S A s.heap s.heap [] := va_S.rf
  have hl := lv_entry ([.ref h_o, .int p1]) (n := 2) (Nat.le_of_ble_eq_true rfl)
  rw [lg_entry_eq]
  generalize (lg_sl ([.ref h_o, .int p1]) ++ List.replicate (2 - (lg_sl ([.ref h_o, .int p1])).length) Slot.unset).toArray = ls at hl ⊢
  have hl : lv_has ls 2 [(0, .ref h_o), (1, .int p1)] := hl
  obtain ⟨G0, eG0⟩ : ∃ G : Int32 → Prop, G = (fun r => r = res) := ⟨_, rfl⟩
  obtain ⟨rr, hrr⟩ : ∃ z, z = res := ⟨_, rfl⟩
  rw [← hrr] at hf
  have hG : G0 rr := by subst eG0; exact hrr
  unfold fX8_isFlip at hf
  refine lv_iload_n hx hb dX8_isFlip_0 rfl (lv_at hl 1 rfl) ?_
  refine lv_aload_n hx hb dX8_isFlip_1 rfl (lv_at hl 0 rfl) ?_
  obtain ⟨q2, hq2, hf⟩ := ds_ob hf
  refine ds_calli (wr := []) (va_runV (As := []) (rest := [.int p1]) ⟨hx, hb, hml, hown, hts⟩ (c_X8_turnings l dC dI ca sa h_o h_o_plans h_o_makers h_o_halves h_o_all h_o_text h_o_saved h_o_undone h_o_told h_o_shift h_o_rootOf h_o_becomes h_o_comes h_o_next s.heap.size o_raised o_undos o_reached o_length o_begin o_letters o_sort o_word o_wrongAt o_badAt o_bad o_firstX o_firstY o_secondX o_secondY o_x o_all_r  q2 hq2) (cwV 0 hts (ds_gV kw_604 kw_605 kw_606 kw_597 kw_607) rfl rfl rfl (by decide +kernel) ⟨Nat.le_of_ble_eq_true rfl, Nat.le_of_ble_eq_true rfl⟩) ⟨ds_blind, va_recv hK hP (ci := 7) (q0 := 0) rfl rfl, ds_at hP hD hK hE hS hA [0, 1] rfl rfl _⟩ rfl rfl hl.1 rfl (lv_room (Nat.le_of_ble_eq_true rfl)) dX8_isFlip_2 ⟨Nat.zero_le _, Nat.zero_le _⟩) hP hD hS hA [0, 1] [] rfl rfl rfl (by decide) (fun H locs hP hD hS => ?_)
  have hP : va_P (dC, dI) vwCl [(h_o, .inr (7, [.ref h_o_plans, .ref h_o_makers, .ref h_o_halves, .int o_raised, .ref h_o_all, .ref h_o_text, .ref h_o_saved, .ref h_o_undone, .int o_undos, .int o_reached, .int o_length, .int o_begin, .int o_letters, .int o_sort, .long o_word, .int o_wrongAt, .int o_badAt, .int o_bad, .ref h_o_told, .ref h_o_shift, .int o_firstX, .int o_firstY, .int o_secondX, .int o_secondY, .ref h_o_rootOf, .ref h_o_becomes, .ref h_o_comes, .ref h_o_next, .int o_x])), (h_o_all, .inl (ca 0, 350, .inl o_all_r))] H := hP
  have hD : va_D A [(h_o, .inr (7, [.ref h_o_plans, .ref h_o_makers, .ref h_o_halves, .int o_raised, .ref h_o_all, .ref h_o_text, .ref h_o_saved, .ref h_o_undone, .int o_undos, .int o_reached, .int o_length, .int o_begin, .int o_letters, .int o_sort, .long o_word, .int o_wrongAt, .int o_badAt, .int o_bad, .ref h_o_told, .ref h_o_shift, .int o_firstX, .int o_firstY, .int o_secondX, .int o_secondY, .ref h_o_rootOf, .ref h_o_becomes, .ref h_o_comes, .ref h_o_next, .int o_x])), (h_o_all, .inl (ca 0, 350, .inl o_all_r))] := hD
  refine lv_iconst (v := 2) hx hb dX8_isFlip_5 (by decide) ?_
  refine lv_idiv hx hb dX8_isFlip_6 (by decide) ?_
  refine lv_icmp_lt (tgt := 14) hx hb dX8_isFlip_7 (by decide) (fun c_7 => ?_) (fun c_7 => ?_)
  · replace hf := ds_t c_7 hf
    refine lv_iconst (v := 0) hx hb dX8_isFlip_14 (by decide) ?_
    have hf := Option.some.inj hf
    subst hf
    rw [eG0] at hG
    have hG : _ = res := hG
    subst hG
    exact W.zret (v := (0 : Int32)) (ty := .boolean) hx hb hr rfl (fun t ht hW => ⟨⟨(0 : Int32), (), rfl, rfl, by rw [ht]; exact hP, hD⟩, hS.F ht⟩) hS.2.2 dX8_isFlip_15
  · replace hf := ds_f c_7 hf
    refine lv_iconst (v := 1) hx hb dX8_isFlip_10 (by decide) ?_
    refine lv_goto (tgt := 15) hx hb dX8_isFlip_11 (by decide) ?_
    have hf := Option.some.inj hf
    subst hf
    rw [eG0] at hG
    have hG : _ = res := hG
    subst hG
    exact W.zret (v := (1 : Int32)) (ty := .boolean) hx hb hr rfl (fun t ht hW => ⟨⟨(1 : Int32), (), rfl, rfl, by rw [ht]; exact hP, hD⟩, hS.F ht⟩) hS.2.2 dX8_isFlip_15
theorem dX8_tell_0 : decode cX8_tell 0 = .ok (.aload_n 0, 1) := by decide +kernel
theorem dX8_tell_1 : decode cX8_tell 1 = .ok (.iconst 0, 1) := by decide +kernel
theorem dX8_tell_2 : decode cX8_tell 2 = .ok (.putfield 51, 3) := by decide +kernel
theorem dX8_tell_5 : decode cX8_tell 5 = .ok (.iconst 0, 1) := by decide +kernel
theorem dX8_tell_6 : decode cX8_tell 6 = .ok (.istore_n 3, 1) := by decide +kernel
theorem dX8_tell_7 : decode cX8_tell 7 = .ok (.iload_n 3, 1) := by decide +kernel
theorem dX8_tell_8 : decode cX8_tell 8 = .ok (.bipush 8, 2) := by decide +kernel
theorem dX8_tell_10 : decode cX8_tell 10 = .ok (.if_icmp .ge 27, 3) := by decide +kernel
theorem dX8_tell_13 : decode cX8_tell 13 = .ok (.lload_n 1, 1) := by decide +kernel
theorem dX8_tell_14 : decode cX8_tell 14 = .ok (.bipush 56, 2) := by decide +kernel
theorem dX8_tell_16 : decode cX8_tell 16 = .ok (.bipush 8, 2) := by decide +kernel
theorem dX8_tell_18 : decode cX8_tell 18 = .ok (.iload_n 3, 1) := by decide +kernel
theorem dX8_tell_19 : decode cX8_tell 19 = .ok (.imul, 1) := by decide +kernel
theorem dX8_tell_20 : decode cX8_tell 20 = .ok (.isub, 1) := by decide +kernel
theorem dX8_tell_21 : decode cX8_tell 21 = .ok (.lshr, 1) := by decide +kernel
theorem dX8_tell_22 : decode cX8_tell 22 = .ok (.ldc2_w 66, 3) := by decide +kernel
theorem dX8_tell_25 : decode cX8_tell 25 = .ok (.land, 1) := by decide +kernel
theorem dX8_tell_26 : decode cX8_tell 26 = .ok (.lconst 0, 1) := by decide +kernel
theorem dX8_tell_27 : decode cX8_tell 27 = .ok (.lcmp, 1) := by decide +kernel
theorem dX8_tell_28 : decode cX8_tell 28 = .ok (.ifCond .eq 9, 3) := by decide +kernel
theorem dX8_tell_31 : decode cX8_tell 31 = .ok (.iinc 3 1, 3) := by decide +kernel
theorem dX8_tell_34 : decode cX8_tell 34 = .ok (.goto (-27), 3) := by decide +kernel
theorem dX8_tell_37 : decode cX8_tell 37 = .ok (.aload_n 0, 1) := by decide +kernel
theorem dX8_tell_38 : decode cX8_tell 38 = .ok (.getfield 19, 3) := by decide +kernel
theorem dX8_tell_41 : decode cX8_tell 41 = .ok (.bipush 67, 2) := by decide +kernel
theorem dX8_tell_43 : decode cX8_tell 43 = .ok (.iaload, 1) := by decide +kernel
theorem dX8_tell_44 : decode cX8_tell 44 = .ok (.iload_n 3, 1) := by decide +kernel
theorem dX8_tell_45 : decode cX8_tell 45 = .ok (.iadd, 1) := by decide +kernel
theorem dX8_tell_46 : decode cX8_tell 46 = .ok (.sipush 200, 3) := by decide +kernel
theorem dX8_tell_49 : decode cX8_tell 49 = .ok (.if_icmp .le 5, 3) := by decide +kernel
theorem dX8_tell_52 : decode cX8_tell 52 = .ok (.iconst (-1), 1) := by decide +kernel
theorem dX8_tell_53 : decode cX8_tell 53 = .ok (.ireturn, 1) := by decide +kernel
theorem dX8_tell_54 : decode cX8_tell 54 = .ok (.iconst 0, 1) := by decide +kernel
theorem dX8_tell_55 : decode cX8_tell 55 = .ok (.istore 4, 2) := by decide +kernel
theorem dX8_tell_57 : decode cX8_tell 57 = .ok (.iload 4, 2) := by decide +kernel
theorem dX8_tell_59 : decode cX8_tell 59 = .ok (.iload_n 3, 1) := by decide +kernel
theorem dX8_tell_60 : decode cX8_tell 60 = .ok (.if_icmp .ge 44, 3) := by decide +kernel
theorem dX8_tell_63 : decode cX8_tell 63 = .ok (.aload_n 0, 1) := by decide +kernel
theorem dX8_tell_64 : decode cX8_tell 64 = .ok (.getfield 22, 3) := by decide +kernel
theorem dX8_tell_67 : decode cX8_tell 67 = .ok (.aload_n 0, 1) := by decide +kernel
theorem dX8_tell_68 : decode cX8_tell 68 = .ok (.getfield 19, 3) := by decide +kernel
theorem dX8_tell_71 : decode cX8_tell 71 = .ok (.bipush 67, 2) := by decide +kernel
theorem dX8_tell_73 : decode cX8_tell 73 = .ok (.iaload, 1) := by decide +kernel
theorem dX8_tell_74 : decode cX8_tell 74 = .ok (.lload_n 1, 1) := by decide +kernel
theorem dX8_tell_75 : decode cX8_tell 75 = .ok (.bipush 56, 2) := by decide +kernel
theorem dX8_tell_77 : decode cX8_tell 77 = .ok (.bipush 8, 2) := by decide +kernel
theorem dX8_tell_79 : decode cX8_tell 79 = .ok (.iload 4, 2) := by decide +kernel
theorem dX8_tell_81 : decode cX8_tell 81 = .ok (.imul, 1) := by decide +kernel
theorem dX8_tell_82 : decode cX8_tell 82 = .ok (.isub, 1) := by decide +kernel
theorem dX8_tell_83 : decode cX8_tell 83 = .ok (.lshr, 1) := by decide +kernel
theorem dX8_tell_84 : decode cX8_tell 84 = .ok (.l2i, 1) := by decide +kernel
theorem dX8_tell_85 : decode cX8_tell 85 = .ok (.i2b, 1) := by decide +kernel
theorem dX8_tell_86 : decode cX8_tell 86 = .ok (.bastore, 1) := by decide +kernel
theorem dX8_tell_87 : decode cX8_tell 87 = .ok (.aload_n 0, 1) := by decide +kernel
theorem dX8_tell_88 : decode cX8_tell 88 = .ok (.getfield 19, 3) := by decide +kernel
theorem dX8_tell_91 : decode cX8_tell 91 = .ok (.bipush 67, 2) := by decide +kernel
theorem dX8_tell_93 : decode cX8_tell 93 = .ok (.dup2, 1) := by decide +kernel
theorem dX8_tell_94 : decode cX8_tell 94 = .ok (.iaload, 1) := by decide +kernel
theorem dX8_tell_95 : decode cX8_tell 95 = .ok (.iconst 1, 1) := by decide +kernel
theorem dX8_tell_96 : decode cX8_tell 96 = .ok (.iadd, 1) := by decide +kernel
theorem dX8_tell_97 : decode cX8_tell 97 = .ok (.iastore, 1) := by decide +kernel
theorem dX8_tell_98 : decode cX8_tell 98 = .ok (.iinc 4 1, 3) := by decide +kernel
theorem dX8_tell_101 : decode cX8_tell 101 = .ok (.goto (-44), 3) := by decide +kernel
theorem dX8_tell_104 : decode cX8_tell 104 = .ok (.aload_n 0, 1) := by decide +kernel
theorem dX8_tell_105 : decode cX8_tell 105 = .ok (.getfield 19, 3) := by decide +kernel
theorem dX8_tell_108 : decode cX8_tell 108 = .ok (.bipush 67, 2) := by decide +kernel
theorem dX8_tell_110 : decode cX8_tell 110 = .ok (.iaload, 1) := by decide +kernel
theorem dX8_tell_111 : decode cX8_tell 111 = .ok (.ireturn, 1) := by decide +kernel
def fX8_tell_104 (o_raised : Int32) (o_all_r : Nat → Int32) (o_text_r : Nat → Int32) : Option (Int32 × Int32 × (Nat → Int32) × (Nat → Int32)) :=
  some ((o_all_r (67 : Int32).toNatClampNeg), o_raised, o_all_r, o_text_r)
def fX8_tell_57_b (o_raised : Int32) (p1 : Int64) (v3 : Int32) (v4 : Int32) (o_all_r : Nat → Int32) (o_text_r : Nat → Int32) : Option ((Int32 × (Nat → Int32) × (Nat → Int32)) ⊕ (Int32 × Int32 × (Nat → Int32) × (Nat → Int32))) :=
  if v3 ≤ v4 then Option.bind (fX8_tell_104 o_raised o_all_r o_text_r) fun z => some (.inr z) else if ds_in (o_all_r (67 : Int32).toNatClampNeg) 1000 = true then Option.bind (some (((ds_lshr p1 ((56 : Int32) - ((8 : Int32) * v4))).toInt32).toInt8.toInt32)) fun x86 => some (.inl ((v4 + 1), (upd o_all_r ((67 : Int32).toNatClampNeg) ((o_all_r (67 : Int32).toNatClampNeg) + (1 : Int32))), (upd o_text_r ((o_all_r (67 : Int32).toNatClampNeg).toNatClampNeg) (vp_nar .byte x86)))) else none
def fX8_tell_57 (o_raised : Int32) (p1 : Int64) (v3 : Int32) (v4 : Int32) (o_all_r : Nat → Int32) (o_text_r : Nat → Int32) : Option (Int32 × Int32 × (Nat → Int32) × (Nat → Int32)) := ds_it (fun s => fX8_tell_57_b o_raised p1 v3 s.1 s.2.1 s.2.2) 1000 (v4, o_all_r, o_text_r)
def fX8_tell_37 (o_raised : Int32) (o_all_r : Nat → Int32) (o_text_r : Nat → Int32) (p1 : Int64) (v3 : Int32) : Option (Int32 × Int32 × (Nat → Int32) × (Nat → Int32)) :=
  if ((o_all_r (67 : Int32).toNatClampNeg) + v3) ≤ (200 : Int32) then fX8_tell_57 o_raised p1 v3 (0 : Int32) o_all_r o_text_r else some ((-1 : Int32), o_raised, o_all_r, o_text_r)
def fX8_tell_7_b (o_raised : Int32) (o_all_r : Nat → Int32) (o_text_r : Nat → Int32) (p1 : Int64) (v3 : Int32) : Option ((Int32) ⊕ (Int32 × Int32 × (Nat → Int32) × (Nat → Int32))) :=
  if (8 : Int32) ≤ v3 then Option.bind (fX8_tell_37 o_raised o_all_r o_text_r p1 v3) fun z => some (.inr z) else if (lg_cmp ((ds_lshr p1 ((56 : Int32) - ((8 : Int32) * v3))) &&& (255 : Int64)) (0 : Int64)) = 0 then Option.bind (fX8_tell_37 o_raised o_all_r o_text_r p1 v3) fun z => some (.inr z) else some (.inl (v3 + 1))
def fX8_tell_7 (o_raised : Int32) (o_all_r : Nat → Int32) (o_text_r : Nat → Int32) (p1 : Int64) (v3 : Int32) : Option (Int32 × Int32 × (Nat → Int32) × (Nat → Int32)) := ds_it (fun s => fX8_tell_7_b o_raised o_all_r o_text_r p1 s) 1000 v3
def fX8_tell (o_all_r : Nat → Int32) (o_text_r : Nat → Int32) (p1 : Int64) : Option (Int32 × Int32 × (Nat → Int32) × (Nat → Int32)) :=
  fX8_tell_7 (0 : Int32) o_all_r o_text_r p1 (0 : Int32)
set_option maxHeartbeats 4000000 in
set_option maxRecDepth 100000 in
theorem c_X8_tell (l : Launch) (dC : Nat → ClassId) (dI : Nat → Nat → Nat) (ca : Nat → ClassId) (sa : Nat → Nat) (h_o : Nat) (h_o_plans : Nat) (h_o_makers : Nat) (h_o_halves : Nat) (h_o_all : Nat) (h_o_text : Nat) (h_o_saved : Nat) (h_o_undone : Nat) (h_o_told : Nat) (h_o_shift : Nat) (h_o_rootOf : Nat) (h_o_becomes : Nat) (h_o_comes : Nat) (h_o_next : Nat) (sz : Nat) (o_raised : Int32) (o_undos : Int32) (o_reached : Int32) (o_length : Int32) (o_begin : Int32) (o_letters : Int32) (o_sort : Int32) (o_word : Int64) (o_wrongAt : Int32) (o_badAt : Int32) (o_bad : Int32) (o_firstX : Int32) (o_firstY : Int32) (o_secondX : Int32) (o_secondY : Int32) (o_x : Int32) (o_all_r : Nat → Int32) (o_text_r : Nat → Int32) (p1 : Int64) (res : Int32 × Int32 × (Nat → Int32) × (Nat → Int32)) (hf : fX8_tell o_all_r o_text_r p1 = some res) : Met l yX8_tell (Cond.code yX8_tell cX8_tell 5 (some .int) :: ds_gw) { frames := 0, cells := 0, slots := 0, locals := 0 } (va_Pc [.ref h_o, .long p1] (ds_Pre dC dI ca sa [(h_o, .inr (7, [.ref h_o_plans, .ref h_o_makers, .ref h_o_halves, .int o_raised, .ref h_o_all, .ref h_o_text, .ref h_o_saved, .ref h_o_undone, .int o_undos, .int o_reached, .int o_length, .int o_begin, .int o_letters, .int o_sort, .long o_word, .int o_wrongAt, .int o_badAt, .int o_bad, .ref h_o_told, .ref h_o_shift, .int o_firstX, .int o_firstY, .int o_secondX, .int o_secondY, .ref h_o_rootOf, .ref h_o_becomes, .ref h_o_comes, .ref h_o_next, .int o_x])), (h_o_all, .inl (ca 0, 350, .inl o_all_r)), (h_o_text, .inl (ca 2, 1000, .inl o_text_r))] sz)) (va_Qi (fun r (_ : Unit) => r = res.1) (ds_B dC dI (va_A [(h_o, .inr (7, [.ref h_o_plans, .ref h_o_makers, .ref h_o_halves, .int o_raised, .ref h_o_all, .ref h_o_text, .ref h_o_saved, .ref h_o_undone, .int o_undos, .int o_reached, .int o_length, .int o_begin, .int o_letters, .int o_sort, .long o_word, .int o_wrongAt, .int o_badAt, .int o_bad, .ref h_o_told, .ref h_o_shift, .int o_firstX, .int o_firstY, .int o_secondX, .int o_secondY, .ref h_o_rootOf, .ref h_o_becomes, .ref h_o_comes, .ref h_o_next, .int o_x])), (h_o_all, .inl (ca 0, 350, .inl o_all_r)), (h_o_text, .inl (ca 2, 1000, .inl o_text_r))] sz) [(h_o, .inr (7, [.ref h_o_plans, .ref h_o_makers, .ref h_o_halves, .int res.2.1, .ref h_o_all, .ref h_o_text, .ref h_o_saved, .ref h_o_undone, .int o_undos, .int o_reached, .int o_length, .int o_begin, .int o_letters, .int o_sort, .long o_word, .int o_wrongAt, .int o_badAt, .int o_bad, .ref h_o_told, .ref h_o_shift, .int o_firstX, .int o_firstY, .int o_secondX, .int o_secondY, .ref h_o_rootOf, .ref h_o_becomes, .ref h_o_comes, .ref h_o_next, .int o_x])), (h_o_all, .inl (ca 0, 350, .inl res.2.2.1)), (h_o_text, .inl (ca 2, 1000, .inl res.2.2.2))]) (va_A [(h_o, .inr (7, [.ref h_o_plans, .ref h_o_makers, .ref h_o_halves, .int o_raised, .ref h_o_all, .ref h_o_text, .ref h_o_saved, .ref h_o_undone, .int o_undos, .int o_reached, .int o_length, .int o_begin, .int o_letters, .int o_sort, .long o_word, .int o_wrongAt, .int o_badAt, .int o_bad, .ref h_o_told, .ref h_o_shift, .int o_firstX, .int o_firstY, .int o_secondX, .int o_secondY, .ref h_o_rootOf, .ref h_o_becomes, .ref h_o_comes, .ref h_o_next, .int o_x])), (h_o_all, .inl (ca 0, 350, .inl o_all_r)), (h_o_text, .inl (ca 2, 1000, .inl o_text_r))] sz)) 0 0 (va_A [(h_o, .inr (7, [.ref h_o_plans, .ref h_o_makers, .ref h_o_halves, .int o_raised, .ref h_o_all, .ref h_o_text, .ref h_o_saved, .ref h_o_undone, .int o_undos, .int o_reached, .int o_length, .int o_begin, .int o_letters, .int o_sort, .long o_word, .int o_wrongAt, .int o_badAt, .int o_bad, .ref h_o_told, .ref h_o_shift, .int o_firstX, .int o_firstY, .int o_secondX, .int o_secondY, .ref h_o_rootOf, .ref h_o_becomes, .ref h_o_comes, .ref h_o_next, .int o_x])), (h_o_all, .inl (ca 0, 350, .inl o_all_r)), (h_o_text, .inl (ca 2, 1000, .inl o_text_r))] sz) := by
  refine Met.ofW (cc := cX8_tell) (maxL := 5) (ret := (some .int)) (by decide) rfl ?_
  intro p e s m args below meth c s₁ B hml hv
  obtain ⟨rfl, hsz, hP, hK, hD0, hE⟩ := hv
  have hx := B.exec
  have hb := B.bytes
  have hr := B.returns
  have hts := atoms_spec (ws := Cond.code yX8_tell cX8_tell 5 (some .int) :: ds_gw) B.pre
  have hg : ∀ {w : Cond}, w ∈ ds_gw → w.before _ s = true := fun h => hts _ (List.mem_cons_of_mem _ h)
  have hown : s.vm.findClass RX8 = some m.cls := findClass_of_methodNamed B.named
  have hlocks := B.notSynchronized
  subst hsz
  have hD := hD0.self (sz := s.heap.size)
  generalize hAe : va_A [(h_o, .inr (7, [.ref h_o_plans, .ref h_o_makers, .ref h_o_halves, .int o_raised, .ref h_o_all, .ref h_o_text, .ref h_o_saved, .ref h_o_undone, .int o_undos, .int o_reached, .int o_length, .int o_begin, .int o_letters, .int o_sort, .long o_word, .int o_wrongAt, .int o_badAt, .int o_bad, .ref h_o_told, .ref h_o_shift, .int o_firstX, .int o_firstY, .int o_secondX, .int o_secondY, .ref h_o_rootOf, .ref h_o_becomes, .ref h_o_comes, .ref h_o_next, .int o_x])), (h_o_all, .inl (ca 0, 350, .inl o_all_r)), (h_o_text, .inl (ca 2, 1000, .inl o_text_r))] s.heap.size = A at hD hE ⊢
  have hA : ∀ q : Nat, s.heap.size ≤ q → A q := fun q h => by rw [← hAe]; exact Or.inr h
  have hS : va_S A s.heap s.heap [] := va_S.rf
  have hl := lv_entry ([.ref h_o, .long p1]) (n := 5) (Nat.le_of_ble_eq_true rfl)
  rw [lg_entry_eq]
  generalize (lg_sl ([.ref h_o, .long p1]) ++ List.replicate (5 - (lg_sl ([.ref h_o, .long p1])).length) Slot.unset).toArray = ls at hl ⊢
  have hl : lv_has ls 5 [(0, .ref h_o), (1, .long p1)] := hl
  obtain ⟨G0, eG0⟩ : ∃ G : (Int32 × Int32 × (Nat → Int32) × (Nat → Int32)) → Prop, G = (fun r => r = res) := ⟨_, rfl⟩
  obtain ⟨rr, hrr⟩ : ∃ z, z = res := ⟨_, rfl⟩
  rw [← hrr] at hf
  have hG : G0 rr := by subst eG0; exact hrr
  refine ds_cap (fun WW h1 h2 => ?_)
  have J_104 : ∀ (o_raised : Int32) (o_all_r : Nat → Int32) (o_text_r : Nat → Int32) (rr : Int32 × Int32 × (Nat → Int32) × (Nat → Int32)) (hf : fX8_tell_104 o_raised o_all_r o_text_r = some rr) (hG : G0 rr) (H : Heap) (locs : List Loc) (hP : va_P (dC, dI) vwCl [(h_o, .inr (7, [.ref h_o_plans, .ref h_o_makers, .ref h_o_halves, .int o_raised, .ref h_o_all, .ref h_o_text, .ref h_o_saved, .ref h_o_undone, .int o_undos, .int o_reached, .int o_length, .int o_begin, .int o_letters, .int o_sort, .long o_word, .int o_wrongAt, .int o_badAt, .int o_bad, .ref h_o_told, .ref h_o_shift, .int o_firstX, .int o_firstY, .int o_secondX, .int o_secondY, .ref h_o_rootOf, .ref h_o_becomes, .ref h_o_comes, .ref h_o_next, .int o_x])), (h_o_all, .inl (ca 0, 350, .inl o_all_r)), (h_o_text, .inl (ca 2, 1000, .inl o_text_r))] H) (hD : va_D A [(h_o, .inr (7, [.ref h_o_plans, .ref h_o_makers, .ref h_o_halves, .int o_raised, .ref h_o_all, .ref h_o_text, .ref h_o_saved, .ref h_o_undone, .int o_undos, .int o_reached, .int o_length, .int o_begin, .int o_letters, .int o_sort, .long o_word, .int o_wrongAt, .int o_badAt, .int o_bad, .ref h_o_told, .ref h_o_shift, .int o_firstX, .int o_firstY, .int o_secondX, .int o_secondY, .ref h_o_rootOf, .ref h_o_becomes, .ref h_o_comes, .ref h_o_next, .int o_x])), (h_o_all, .inl (ca 0, 350, .inl o_all_r)), (h_o_text, .inl (ca 2, 1000, .inl o_text_r))]) (hS : va_S A s.heap H locs) (ls : Array Slot) (hl : lv_has ls 5 [(0, .ref h_o)]), WW H locs (F0 m 104 ls []) := by
    intro o_raised o_all_r o_text_r rr hf hG H locs hP hD hS ls hl
    refine h2 ?_
    unfold fX8_tell_104 at hf
    refine lv_aload_n hx hb dX8_tell_104 rfl (lv_at hl 0 rfl) ?_
    refine va_get (D := (dC, dI)) (ci := 7) (v := .ref h_o_all) (C := RX8) (T := TX8) (N := 29) hx hb hts (fun w h => List.mem_cons_of_mem _ (kc_X8 w h)) hown hK hP 0 rfl rfl 4 (by decide) (hg kw_594) (fun _ h9 => h9) rfl dX8_tell_105 ?_
    refine lv_bipush (v := 67) hx hb dX8_tell_108 (by decide) ?_
    refine va_iald hx hb hK hP 1 0 rfl rfl (ds_in_ok (i := 67) (n := 350) (by decide)) dX8_tell_110 ?_
    have hf := Option.some.inj hf
    subst hf
    rw [eG0] at hG
    have hG : _ = res := hG
    subst hG
    exact W.iret (v := (o_all_r (67 : Int32).toNatClampNeg)) hx hb hr (fun t ht hW => ⟨⟨(o_all_r (67 : Int32).toNatClampNeg), (), rfl, rfl, by rw [ht]; exact hP, hD⟩, hS.F ht⟩) hS.2.2 dX8_tell_111
  have J_57 : ∀ (v3 : Int32) (o_raised : Int32) (n : Nat) (v4 : Int32) (o_all_r : Nat → Int32) (o_text_r : Nat → Int32) (rr : Int32 × Int32 × (Nat → Int32) × (Nat → Int32)) (hf : ds_it (fun s => fX8_tell_57_b o_raised p1 v3 s.1 s.2.1 s.2.2) n (v4, o_all_r, o_text_r) = some rr) (hG : G0 rr) (H : Heap) (locs : List Loc) (hP : va_P (dC, dI) vwCl [(h_o, .inr (7, [.ref h_o_plans, .ref h_o_makers, .ref h_o_halves, .int o_raised, .ref h_o_all, .ref h_o_text, .ref h_o_saved, .ref h_o_undone, .int o_undos, .int o_reached, .int o_length, .int o_begin, .int o_letters, .int o_sort, .long o_word, .int o_wrongAt, .int o_badAt, .int o_bad, .ref h_o_told, .ref h_o_shift, .int o_firstX, .int o_firstY, .int o_secondX, .int o_secondY, .ref h_o_rootOf, .ref h_o_becomes, .ref h_o_comes, .ref h_o_next, .int o_x])), (h_o_all, .inl (ca 0, 350, .inl o_all_r)), (h_o_text, .inl (ca 2, 1000, .inl o_text_r))] H) (hD : va_D A [(h_o, .inr (7, [.ref h_o_plans, .ref h_o_makers, .ref h_o_halves, .int o_raised, .ref h_o_all, .ref h_o_text, .ref h_o_saved, .ref h_o_undone, .int o_undos, .int o_reached, .int o_length, .int o_begin, .int o_letters, .int o_sort, .long o_word, .int o_wrongAt, .int o_badAt, .int o_bad, .ref h_o_told, .ref h_o_shift, .int o_firstX, .int o_firstY, .int o_secondX, .int o_secondY, .ref h_o_rootOf, .ref h_o_becomes, .ref h_o_comes, .ref h_o_next, .int o_x])), (h_o_all, .inl (ca 0, 350, .inl o_all_r)), (h_o_text, .inl (ca 2, 1000, .inl o_text_r))]) (hS : va_S A s.heap H locs) (ls : Array Slot) (hl : lv_has ls 5 [(0, .ref h_o), (1, .long p1), (3, .int v3), (4, .int v4)]), WW H locs (F0 m 57 ls []) := by
    intro v3 o_raised n
    induction n with
    | zero => intro v4 o_all_r o_text_r rr hf; exact (ds_it_zero hf).elim
    | succ n ih57 =>
      intro v4 o_all_r o_text_r rr hf hG H locs hP hD hS ls hl
      refine h2 ?_
      obtain ⟨rr, hf, hG⟩ := ds_it_succ hf hG
      replace hf : fX8_tell_57_b o_raised p1 v3 v4 o_all_r o_text_r = some rr := hf
      obtain ⟨G1, eG1⟩ : ∃ G : ((Int32 × (Nat → Int32) × (Nat → Int32)) ⊕ (Int32 × Int32 × (Nat → Int32) × (Nat → Int32))) → Prop, G = ds_G (fun s' => ∃ r', ds_it (fun s => fX8_tell_57_b o_raised p1 v3 s.1 s.2.1 s.2.2) n s' = some r' ∧ G0 r') G0 := ⟨_, rfl⟩
      rw [← eG1] at hG
      unfold fX8_tell_57_b at hf
      refine lv_iload hx hb dX8_tell_57 (lv_at hl 3 rfl) ?_
      refine lv_iload_n hx hb dX8_tell_59 rfl (lv_at hl 2 rfl) ?_
      refine lv_icmp_ge (tgt := 104) hx hb dX8_tell_60 (by decide) (fun c_60 => ?_) (fun c_60 => ?_)
      · replace hf := ds_t c_60 hf
        obtain ⟨rr, hr_0, hf⟩ := ds_ob hf
        have hf := Option.some.inj hf
        subst hf
        rw [eG1] at hG
        replace hG : G0 rr := hG
        have hf := hr_0
        exact h1 (J_104 o_raised o_all_r o_text_r _ hf hG _ _ hP hD hS _ (lv_sub hl [0] rfl))
      · replace hf := ds_f c_60 hf
        refine lv_aload_n hx hb dX8_tell_63 rfl (lv_at hl 0 rfl) ?_
        refine va_get (D := (dC, dI)) (ci := 7) (v := .ref h_o_text) (C := RX8) (T := TX8) (N := 29) hx hb hts (fun w h => List.mem_cons_of_mem _ (kc_X8 w h)) hown hK hP 0 rfl rfl 5 (by decide) (hg kw_608) (fun _ h9 => h9) rfl dX8_tell_64 ?_
        refine lv_aload_n hx hb dX8_tell_67 rfl (lv_at hl 0 rfl) ?_
        refine va_get (D := (dC, dI)) (ci := 7) (v := .ref h_o_all) (C := RX8) (T := TX8) (N := 29) hx hb hts (fun w h => List.mem_cons_of_mem _ (kc_X8 w h)) hown hK hP 0 rfl rfl 4 (by decide) (hg kw_594) (fun _ h9 => h9) rfl dX8_tell_68 ?_
        refine lv_bipush (v := 67) hx hb dX8_tell_71 (by decide) ?_
        refine va_iald hx hb hK hP 1 0 rfl rfl (ds_in_ok (i := 67) (n := 350) (by decide)) dX8_tell_73 ?_
        refine lv_lload_n hx hb dX8_tell_74 rfl (lv_at hl 1 rfl) ?_
        refine lv_bipush (v := 56) hx hb dX8_tell_75 (by decide) ?_
        refine lv_bipush (v := 8) hx hb dX8_tell_77 (by decide) ?_
        refine lv_iload hx hb dX8_tell_79 (lv_at hl 3 rfl) ?_
        refine lv_imul hx hb dX8_tell_81 ?_
        refine lv_isub hx hb dX8_tell_82 ?_
        refine lv_lshr (v := (ds_lshr p1 ((56 : Int32) - ((8 : Int32) * v4)))) hx hb dX8_tell_83 rfl ?_
        refine lv_l2i (v := (ds_lshr p1 ((56 : Int32) - ((8 : Int32) * v4))).toInt32) hx hb dX8_tell_84 rfl ?_
        refine lv_i2b (v := ((ds_lshr p1 ((56 : Int32) - ((8 : Int32) * v4))).toInt32).toInt8.toInt32) hx hb dX8_tell_85 rfl ?_
        obtain ⟨i_86, hf⟩ := ds_ci hf
        obtain ⟨x86, hx_86, hf⟩ := ds_ob hf
        refine ds_nmi hx_86 ?_
        refine va_bast hx hb hK hP hD hS 2 2 rfl rfl i_86 dX8_tell_86 (fun H locs hP hD hS => ?_)
        have hP : va_P (dC, dI) vwCl [(h_o, .inr (7, [.ref h_o_plans, .ref h_o_makers, .ref h_o_halves, .int o_raised, .ref h_o_all, .ref h_o_text, .ref h_o_saved, .ref h_o_undone, .int o_undos, .int o_reached, .int o_length, .int o_begin, .int o_letters, .int o_sort, .long o_word, .int o_wrongAt, .int o_badAt, .int o_bad, .ref h_o_told, .ref h_o_shift, .int o_firstX, .int o_firstY, .int o_secondX, .int o_secondY, .ref h_o_rootOf, .ref h_o_becomes, .ref h_o_comes, .ref h_o_next, .int o_x])), (h_o_all, .inl (ca 0, 350, .inl o_all_r)), (h_o_text, .inl (ca 2, 1000, .inl (upd o_text_r ((o_all_r (67 : Int32).toNatClampNeg).toNatClampNeg) (vp_nar .byte x86))))] H := hP
        have hD : va_D A [(h_o, .inr (7, [.ref h_o_plans, .ref h_o_makers, .ref h_o_halves, .int o_raised, .ref h_o_all, .ref h_o_text, .ref h_o_saved, .ref h_o_undone, .int o_undos, .int o_reached, .int o_length, .int o_begin, .int o_letters, .int o_sort, .long o_word, .int o_wrongAt, .int o_badAt, .int o_bad, .ref h_o_told, .ref h_o_shift, .int o_firstX, .int o_firstY, .int o_secondX, .int o_secondY, .ref h_o_rootOf, .ref h_o_becomes, .ref h_o_comes, .ref h_o_next, .int o_x])), (h_o_all, .inl (ca 0, 350, .inl o_all_r)), (h_o_text, .inl (ca 2, 1000, .inl (upd o_text_r ((o_all_r (67 : Int32).toNatClampNeg).toNatClampNeg) (vp_nar .byte x86))))] := hD
        refine lv_aload_n hx hb dX8_tell_87 rfl (lv_at hl 0 rfl) ?_
        refine va_get (D := (dC, dI)) (ci := 7) (v := .ref h_o_all) (C := RX8) (T := TX8) (N := 29) hx hb hts (fun w h => List.mem_cons_of_mem _ (kc_X8 w h)) hown hK hP 0 rfl rfl 4 (by decide) (hg kw_594) (fun _ h9 => h9) rfl dX8_tell_88 ?_
        refine lv_bipush (v := 67) hx hb dX8_tell_91 (by decide) ?_
        refine lv_dup2_11 hx hb dX8_tell_93 rfl rfl ?_
        refine va_iald hx hb hK hP 1 0 rfl rfl (ds_in_ok (i := 67) (n := 350) (by decide)) dX8_tell_94 ?_
        refine lv_iconst (v := 1) hx hb dX8_tell_95 (by decide) ?_
        refine lv_iadd hx hb dX8_tell_96 ?_
        refine va_iast hx hb hK hP hD hS 1 0 rfl rfl (ds_in_ok (i := 67) (n := 350) (by decide)) dX8_tell_97 (fun H locs hP hD hS => ?_)
        have hP : va_P (dC, dI) vwCl [(h_o, .inr (7, [.ref h_o_plans, .ref h_o_makers, .ref h_o_halves, .int o_raised, .ref h_o_all, .ref h_o_text, .ref h_o_saved, .ref h_o_undone, .int o_undos, .int o_reached, .int o_length, .int o_begin, .int o_letters, .int o_sort, .long o_word, .int o_wrongAt, .int o_badAt, .int o_bad, .ref h_o_told, .ref h_o_shift, .int o_firstX, .int o_firstY, .int o_secondX, .int o_secondY, .ref h_o_rootOf, .ref h_o_becomes, .ref h_o_comes, .ref h_o_next, .int o_x])), (h_o_all, .inl (ca 0, 350, .inl (upd o_all_r ((67 : Int32).toNatClampNeg) ((o_all_r (67 : Int32).toNatClampNeg) + (1 : Int32))))), (h_o_text, .inl (ca 2, 1000, .inl (upd o_text_r ((o_all_r (67 : Int32).toNatClampNeg).toNatClampNeg) (vp_nar .byte x86))))] H := hP
        have hD : va_D A [(h_o, .inr (7, [.ref h_o_plans, .ref h_o_makers, .ref h_o_halves, .int o_raised, .ref h_o_all, .ref h_o_text, .ref h_o_saved, .ref h_o_undone, .int o_undos, .int o_reached, .int o_length, .int o_begin, .int o_letters, .int o_sort, .long o_word, .int o_wrongAt, .int o_badAt, .int o_bad, .ref h_o_told, .ref h_o_shift, .int o_firstX, .int o_firstY, .int o_secondX, .int o_secondY, .ref h_o_rootOf, .ref h_o_becomes, .ref h_o_comes, .ref h_o_next, .int o_x])), (h_o_all, .inl (ca 0, 350, .inl (upd o_all_r ((67 : Int32).toNatClampNeg) ((o_all_r (67 : Int32).toNatClampNeg) + (1 : Int32))))), (h_o_text, .inl (ca 2, 1000, .inl (upd o_text_r ((o_all_r (67 : Int32).toNatClampNeg).toNatClampNeg) (vp_nar .byte x86))))] := hD
        refine lv_iinc (v := (v4 + 1)) (lv' := [(4, .int (v4 + 1)), (0, .ref h_o), (1, .long p1), (3, .int v3)]) hx hb dX8_tell_98 hl (k := 3) rfl rfl (by decide) rfl (fun ls hl => ?_)
        refine lv_goto (tgt := 57) hx hb dX8_tell_101 (by decide) ?_
        have hf := Option.some.inj hf
        subst hf
        rw [eG1] at hG
        obtain ⟨rr, hf, hG⟩ := hG
        exact h1 (ih57 (v4 + 1) (upd o_all_r ((67 : Int32).toNatClampNeg) ((o_all_r (67 : Int32).toNatClampNeg) + (1 : Int32))) (upd o_text_r ((o_all_r (67 : Int32).toNatClampNeg).toNatClampNeg) (vp_nar .byte x86)) rr hf hG _ _ hP hD hS _ (lv_sub hl [1, 2, 3, 0] rfl))
  have J_37 : ∀ (v3 : Int32) (o_raised : Int32) (o_all_r : Nat → Int32) (o_text_r : Nat → Int32) (rr : Int32 × Int32 × (Nat → Int32) × (Nat → Int32)) (hf : fX8_tell_37 o_raised o_all_r o_text_r p1 v3 = some rr) (hG : G0 rr) (H : Heap) (locs : List Loc) (hP : va_P (dC, dI) vwCl [(h_o, .inr (7, [.ref h_o_plans, .ref h_o_makers, .ref h_o_halves, .int o_raised, .ref h_o_all, .ref h_o_text, .ref h_o_saved, .ref h_o_undone, .int o_undos, .int o_reached, .int o_length, .int o_begin, .int o_letters, .int o_sort, .long o_word, .int o_wrongAt, .int o_badAt, .int o_bad, .ref h_o_told, .ref h_o_shift, .int o_firstX, .int o_firstY, .int o_secondX, .int o_secondY, .ref h_o_rootOf, .ref h_o_becomes, .ref h_o_comes, .ref h_o_next, .int o_x])), (h_o_all, .inl (ca 0, 350, .inl o_all_r)), (h_o_text, .inl (ca 2, 1000, .inl o_text_r))] H) (hD : va_D A [(h_o, .inr (7, [.ref h_o_plans, .ref h_o_makers, .ref h_o_halves, .int o_raised, .ref h_o_all, .ref h_o_text, .ref h_o_saved, .ref h_o_undone, .int o_undos, .int o_reached, .int o_length, .int o_begin, .int o_letters, .int o_sort, .long o_word, .int o_wrongAt, .int o_badAt, .int o_bad, .ref h_o_told, .ref h_o_shift, .int o_firstX, .int o_firstY, .int o_secondX, .int o_secondY, .ref h_o_rootOf, .ref h_o_becomes, .ref h_o_comes, .ref h_o_next, .int o_x])), (h_o_all, .inl (ca 0, 350, .inl o_all_r)), (h_o_text, .inl (ca 2, 1000, .inl o_text_r))]) (hS : va_S A s.heap H locs) (ls : Array Slot) (hl : lv_has ls 5 [(0, .ref h_o), (1, .long p1), (3, .int v3)]), WW H locs (F0 m 37 ls []) := by
    intro v3 o_raised o_all_r o_text_r rr hf hG H locs hP hD hS ls hl
    refine h2 ?_
    unfold fX8_tell_37 at hf
    refine lv_aload_n hx hb dX8_tell_37 rfl (lv_at hl 0 rfl) ?_
    refine va_get (D := (dC, dI)) (ci := 7) (v := .ref h_o_all) (C := RX8) (T := TX8) (N := 29) hx hb hts (fun w h => List.mem_cons_of_mem _ (kc_X8 w h)) hown hK hP 0 rfl rfl 4 (by decide) (hg kw_594) (fun _ h9 => h9) rfl dX8_tell_38 ?_
    refine lv_bipush (v := 67) hx hb dX8_tell_41 (by decide) ?_
    refine va_iald hx hb hK hP 1 0 rfl rfl (ds_in_ok (i := 67) (n := 350) (by decide)) dX8_tell_43 ?_
    refine lv_iload_n hx hb dX8_tell_44 rfl (lv_at hl 2 rfl) ?_
    refine lv_iadd hx hb dX8_tell_45 ?_
    refine lv_sipush (v := 200) hx hb dX8_tell_46 (by decide) ?_
    refine lv_icmp_le (tgt := 54) hx hb dX8_tell_49 (by decide) (fun c_49 => ?_) (fun c_49 => ?_)
    · replace hf := ds_t c_49 hf
      refine lv_iconst (v := 0) hx hb dX8_tell_54 (by decide) ?_
      refine lv_istore (lv' := [(4, .int (0 : Int32)), (0, .ref h_o), (1, .long p1), (3, .int v3)]) hx hb dX8_tell_55 hl (by decide) rfl (fun ls hl => ?_)
      exact h1 (J_57 v3 o_raised 1000 (0 : Int32) o_all_r o_text_r _ hf hG _ _ hP hD hS _ (lv_sub hl [1, 2, 3, 0] rfl))
    · replace hf := ds_f c_49 hf
      refine lv_iconst (v := -1) hx hb dX8_tell_52 (by decide) ?_
      have hf := Option.some.inj hf
      subst hf
      rw [eG0] at hG
      have hG : _ = res := hG
      subst hG
      exact W.iret (v := (-1 : Int32)) hx hb hr (fun t ht hW => ⟨⟨(-1 : Int32), (), rfl, rfl, by rw [ht]; exact hP, hD⟩, hS.F ht⟩) hS.2.2 dX8_tell_53
  have J_7 : ∀ (o_raised : Int32) (o_all_r : Nat → Int32) (o_text_r : Nat → Int32) (n : Nat) (v3 : Int32) (rr : Int32 × Int32 × (Nat → Int32) × (Nat → Int32)) (hf : ds_it (fun s => fX8_tell_7_b o_raised o_all_r o_text_r p1 s) n v3 = some rr) (hG : G0 rr) (H : Heap) (locs : List Loc) (hP : va_P (dC, dI) vwCl [(h_o, .inr (7, [.ref h_o_plans, .ref h_o_makers, .ref h_o_halves, .int o_raised, .ref h_o_all, .ref h_o_text, .ref h_o_saved, .ref h_o_undone, .int o_undos, .int o_reached, .int o_length, .int o_begin, .int o_letters, .int o_sort, .long o_word, .int o_wrongAt, .int o_badAt, .int o_bad, .ref h_o_told, .ref h_o_shift, .int o_firstX, .int o_firstY, .int o_secondX, .int o_secondY, .ref h_o_rootOf, .ref h_o_becomes, .ref h_o_comes, .ref h_o_next, .int o_x])), (h_o_all, .inl (ca 0, 350, .inl o_all_r)), (h_o_text, .inl (ca 2, 1000, .inl o_text_r))] H) (hD : va_D A [(h_o, .inr (7, [.ref h_o_plans, .ref h_o_makers, .ref h_o_halves, .int o_raised, .ref h_o_all, .ref h_o_text, .ref h_o_saved, .ref h_o_undone, .int o_undos, .int o_reached, .int o_length, .int o_begin, .int o_letters, .int o_sort, .long o_word, .int o_wrongAt, .int o_badAt, .int o_bad, .ref h_o_told, .ref h_o_shift, .int o_firstX, .int o_firstY, .int o_secondX, .int o_secondY, .ref h_o_rootOf, .ref h_o_becomes, .ref h_o_comes, .ref h_o_next, .int o_x])), (h_o_all, .inl (ca 0, 350, .inl o_all_r)), (h_o_text, .inl (ca 2, 1000, .inl o_text_r))]) (hS : va_S A s.heap H locs) (ls : Array Slot) (hl : lv_has ls 5 [(0, .ref h_o), (1, .long p1), (3, .int v3)]), WW H locs (F0 m 7 ls []) := by
    intro o_raised o_all_r o_text_r n
    induction n with
    | zero => intro v3 rr hf; exact (ds_it_zero hf).elim
    | succ n ih7 =>
      intro v3 rr hf hG H locs hP hD hS ls hl
      refine h2 ?_
      obtain ⟨rr, hf, hG⟩ := ds_it_succ hf hG
      replace hf : fX8_tell_7_b o_raised o_all_r o_text_r p1 v3 = some rr := hf
      obtain ⟨G1, eG1⟩ : ∃ G : ((Int32) ⊕ (Int32 × Int32 × (Nat → Int32) × (Nat → Int32))) → Prop, G = ds_G (fun s' => ∃ r', ds_it (fun s => fX8_tell_7_b o_raised o_all_r o_text_r p1 s) n s' = some r' ∧ G0 r') G0 := ⟨_, rfl⟩
      rw [← eG1] at hG
      unfold fX8_tell_7_b at hf
      refine lv_iload_n hx hb dX8_tell_7 rfl (lv_at hl 2 rfl) ?_
      refine lv_bipush (v := 8) hx hb dX8_tell_8 (by decide) ?_
      refine lv_icmp_ge (tgt := 37) hx hb dX8_tell_10 (by decide) (fun c_10 => ?_) (fun c_10 => ?_)
      · replace hf := ds_t c_10 hf
        obtain ⟨rr, hr_0, hf⟩ := ds_ob hf
        have hf := Option.some.inj hf
        subst hf
        rw [eG1] at hG
        replace hG : G0 rr := hG
        have hf := hr_0
        exact h1 (J_37 v3 o_raised o_all_r o_text_r _ hf hG _ _ hP hD hS _ (lv_sub hl [0, 1, 2] rfl))
      · replace hf := ds_f c_10 hf
        refine lv_lload_n hx hb dX8_tell_13 rfl (lv_at hl 1 rfl) ?_
        refine lv_bipush (v := 56) hx hb dX8_tell_14 (by decide) ?_
        refine lv_bipush (v := 8) hx hb dX8_tell_16 (by decide) ?_
        refine lv_iload_n hx hb dX8_tell_18 rfl (lv_at hl 2 rfl) ?_
        refine lv_imul hx hb dX8_tell_19 ?_
        refine lv_isub hx hb dX8_tell_20 ?_
        refine lv_lshr (v := (ds_lshr p1 ((56 : Int32) - ((8 : Int32) * v3)))) hx hb dX8_tell_21 rfl ?_
        refine lv_ldc2 (own := RX8) (v := 255) hx hb hown (hg kw_609) dX8_tell_22 ?_
        refine lv_land hx hb dX8_tell_25 ?_
        refine lv_lconst (v := 0) hx hb dX8_tell_26 (by decide) ?_
        refine W.lcmp hx hb dX8_tell_27 ?_
        refine lv_if_eq (tgt := 37) hx hb dX8_tell_28 (by decide) (fun c_28 => ?_) (fun c_28 => ?_)
        · replace hf := ds_t c_28 hf
          obtain ⟨rr, hr_0, hf⟩ := ds_ob hf
          have hf := Option.some.inj hf
          subst hf
          rw [eG1] at hG
          replace hG : G0 rr := hG
          have hf := hr_0
          exact h1 (J_37 v3 o_raised o_all_r o_text_r _ hf hG _ _ hP hD hS _ (lv_sub hl [0, 1, 2] rfl))
        · replace hf := ds_f c_28 hf
          refine lv_iinc (v := (v3 + 1)) (lv' := [(3, .int (v3 + 1)), (0, .ref h_o), (1, .long p1)]) hx hb dX8_tell_31 hl (k := 2) rfl rfl (by decide) rfl (fun ls hl => ?_)
          refine lv_goto (tgt := 7) hx hb dX8_tell_34 (by decide) ?_
          have hf := Option.some.inj hf
          subst hf
          rw [eG1] at hG
          obtain ⟨rr, hf, hG⟩ := hG
          exact h1 (ih7 (v3 + 1) rr hf hG _ _ hP hD hS _ (lv_sub hl [1, 2, 0] rfl))
  unfold fX8_tell at hf
  refine lv_aload_n hx hb dX8_tell_0 rfl (lv_at hl 0 rfl) ?_
  refine lv_iconst (v := 0) hx hb dX8_tell_1 (by decide) ?_
  refine va_put (D := (dC, dI)) (ci := 7) (v := .int (0 : Int32)) (ty := tyX8 3) (C := RX8) (T := TX8) (N := 29) hx hb hts (fun w h => List.mem_cons_of_mem _ (kc_X8 w h)) tyX8 tyX8_ok nmX8 hown hK hP hD hS 0 rfl rfl 3 (by decide) (hg kw_564) (fun _ h9 => h9) rfl (by decide +kernel) rfl rfl (Nat.le_of_ble_eq_true rfl) dX8_tell_2 (fun H locs hP hD hS => ?_)
  have hP : va_P (dC, dI) vwCl [(h_o, .inr (7, [.ref h_o_plans, .ref h_o_makers, .ref h_o_halves, .int (0 : Int32), .ref h_o_all, .ref h_o_text, .ref h_o_saved, .ref h_o_undone, .int o_undos, .int o_reached, .int o_length, .int o_begin, .int o_letters, .int o_sort, .long o_word, .int o_wrongAt, .int o_badAt, .int o_bad, .ref h_o_told, .ref h_o_shift, .int o_firstX, .int o_firstY, .int o_secondX, .int o_secondY, .ref h_o_rootOf, .ref h_o_becomes, .ref h_o_comes, .ref h_o_next, .int o_x])), (h_o_all, .inl (ca 0, 350, .inl o_all_r)), (h_o_text, .inl (ca 2, 1000, .inl o_text_r))] H := hP
  have hD : va_D A [(h_o, .inr (7, [.ref h_o_plans, .ref h_o_makers, .ref h_o_halves, .int (0 : Int32), .ref h_o_all, .ref h_o_text, .ref h_o_saved, .ref h_o_undone, .int o_undos, .int o_reached, .int o_length, .int o_begin, .int o_letters, .int o_sort, .long o_word, .int o_wrongAt, .int o_badAt, .int o_bad, .ref h_o_told, .ref h_o_shift, .int o_firstX, .int o_firstY, .int o_secondX, .int o_secondY, .ref h_o_rootOf, .ref h_o_becomes, .ref h_o_comes, .ref h_o_next, .int o_x])), (h_o_all, .inl (ca 0, 350, .inl o_all_r)), (h_o_text, .inl (ca 2, 1000, .inl o_text_r))] := hD
  refine lv_iconst (v := 0) hx hb dX8_tell_5 (by decide) ?_
  refine lv_istore_n (lv' := [(3, .int (0 : Int32)), (0, .ref h_o), (1, .long p1)]) hx hb dX8_tell_6 rfl hl (by decide) rfl (fun ls hl => ?_)
  exact h1 (J_7 (0 : Int32) o_all_r o_text_r 1000 (0 : Int32) _ hf hG _ _ hP hD hS _ (lv_sub hl [1, 2, 0] rfl))
theorem dX8_see_0 : decode cX8_see 0 = .ok (.aload_n 0, 1) := by decide +kernel
theorem dX8_see_1 : decode cX8_see 1 = .ok (.getfield 68, 3) := by decide +kernel
theorem dX8_see_4 : decode cX8_see 4 = .ok (.aload_n 0, 1) := by decide +kernel
theorem dX8_see_5 : decode cX8_see 5 = .ok (.getfield 71, 3) := by decide +kernel
theorem dX8_see_8 : decode cX8_see 8 = .ok (.if_icmp .ge 19, 3) := by decide +kernel
theorem dX8_see_11 : decode cX8_see 11 = .ok (.aload_n 0, 1) := by decide +kernel
theorem dX8_see_12 : decode cX8_see 12 = .ok (.getfield 22, 3) := by decide +kernel
theorem dX8_see_15 : decode cX8_see 15 = .ok (.aload_n 0, 1) := by decide +kernel
theorem dX8_see_16 : decode cX8_see 16 = .ok (.getfield 68, 3) := by decide +kernel
theorem dX8_see_19 : decode cX8_see 19 = .ok (.baload, 1) := by decide +kernel
theorem dX8_see_20 : decode cX8_see 20 = .ok (.sipush 255, 3) := by decide +kernel
theorem dX8_see_23 : decode cX8_see 23 = .ok (.iand, 1) := by decide +kernel
theorem dX8_see_24 : decode cX8_see 24 = .ok (.goto 4, 3) := by decide +kernel
theorem dX8_see_27 : decode cX8_see 27 = .ok (.iconst (-1), 1) := by decide +kernel
theorem dX8_see_28 : decode cX8_see 28 = .ok (.ireturn, 1) := by decide +kernel
def fX8_see (o_reached : Int32) (o_length : Int32) (o_text_r : Nat → Int32) : Option (Int32) :=
  if o_length ≤ o_reached then some (-1 : Int32) else if ds_in o_reached 1000 = true then some ((o_text_r o_reached.toNatClampNeg) &&& (255 : Int32)) else none
set_option maxHeartbeats 4000000 in
set_option maxRecDepth 100000 in
theorem c_X8_see (l : Launch) (dC : Nat → ClassId) (dI : Nat → Nat → Nat) (ca : Nat → ClassId) (sa : Nat → Nat) (h_o : Nat) (h_o_plans : Nat) (h_o_makers : Nat) (h_o_halves : Nat) (h_o_all : Nat) (h_o_text : Nat) (h_o_saved : Nat) (h_o_undone : Nat) (h_o_told : Nat) (h_o_shift : Nat) (h_o_rootOf : Nat) (h_o_becomes : Nat) (h_o_comes : Nat) (h_o_next : Nat) (sz : Nat) (o_raised : Int32) (o_undos : Int32) (o_reached : Int32) (o_length : Int32) (o_begin : Int32) (o_letters : Int32) (o_sort : Int32) (o_word : Int64) (o_wrongAt : Int32) (o_badAt : Int32) (o_bad : Int32) (o_firstX : Int32) (o_firstY : Int32) (o_secondX : Int32) (o_secondY : Int32) (o_x : Int32) (o_text_r : Nat → Int32) (res : Int32) (hf : fX8_see o_reached o_length o_text_r = some res) : Met l yX8_see (Cond.code yX8_see cX8_see 1 (some .int) :: ds_gw) { frames := 0, cells := 0, slots := 0, locals := 0 } (va_Pc [.ref h_o] (ds_Pre dC dI ca sa [(h_o, .inr (7, [.ref h_o_plans, .ref h_o_makers, .ref h_o_halves, .int o_raised, .ref h_o_all, .ref h_o_text, .ref h_o_saved, .ref h_o_undone, .int o_undos, .int o_reached, .int o_length, .int o_begin, .int o_letters, .int o_sort, .long o_word, .int o_wrongAt, .int o_badAt, .int o_bad, .ref h_o_told, .ref h_o_shift, .int o_firstX, .int o_firstY, .int o_secondX, .int o_secondY, .ref h_o_rootOf, .ref h_o_becomes, .ref h_o_comes, .ref h_o_next, .int o_x])), (h_o_text, .inl (ca 2, 1000, .inl o_text_r))] sz)) (va_Qi (fun r (_ : Unit) => r = res) (ds_B dC dI (va_A [(h_o, .inr (7, [.ref h_o_plans, .ref h_o_makers, .ref h_o_halves, .int o_raised, .ref h_o_all, .ref h_o_text, .ref h_o_saved, .ref h_o_undone, .int o_undos, .int o_reached, .int o_length, .int o_begin, .int o_letters, .int o_sort, .long o_word, .int o_wrongAt, .int o_badAt, .int o_bad, .ref h_o_told, .ref h_o_shift, .int o_firstX, .int o_firstY, .int o_secondX, .int o_secondY, .ref h_o_rootOf, .ref h_o_becomes, .ref h_o_comes, .ref h_o_next, .int o_x])), (h_o_text, .inl (ca 2, 1000, .inl o_text_r))] sz) [(h_o, .inr (7, [.ref h_o_plans, .ref h_o_makers, .ref h_o_halves, .int o_raised, .ref h_o_all, .ref h_o_text, .ref h_o_saved, .ref h_o_undone, .int o_undos, .int o_reached, .int o_length, .int o_begin, .int o_letters, .int o_sort, .long o_word, .int o_wrongAt, .int o_badAt, .int o_bad, .ref h_o_told, .ref h_o_shift, .int o_firstX, .int o_firstY, .int o_secondX, .int o_secondY, .ref h_o_rootOf, .ref h_o_becomes, .ref h_o_comes, .ref h_o_next, .int o_x])), (h_o_text, .inl (ca 2, 1000, .inl o_text_r))]) (va_A [(h_o, .inr (7, [.ref h_o_plans, .ref h_o_makers, .ref h_o_halves, .int o_raised, .ref h_o_all, .ref h_o_text, .ref h_o_saved, .ref h_o_undone, .int o_undos, .int o_reached, .int o_length, .int o_begin, .int o_letters, .int o_sort, .long o_word, .int o_wrongAt, .int o_badAt, .int o_bad, .ref h_o_told, .ref h_o_shift, .int o_firstX, .int o_firstY, .int o_secondX, .int o_secondY, .ref h_o_rootOf, .ref h_o_becomes, .ref h_o_comes, .ref h_o_next, .int o_x])), (h_o_text, .inl (ca 2, 1000, .inl o_text_r))] sz)) 0 0 (va_A [(h_o, .inr (7, [.ref h_o_plans, .ref h_o_makers, .ref h_o_halves, .int o_raised, .ref h_o_all, .ref h_o_text, .ref h_o_saved, .ref h_o_undone, .int o_undos, .int o_reached, .int o_length, .int o_begin, .int o_letters, .int o_sort, .long o_word, .int o_wrongAt, .int o_badAt, .int o_bad, .ref h_o_told, .ref h_o_shift, .int o_firstX, .int o_firstY, .int o_secondX, .int o_secondY, .ref h_o_rootOf, .ref h_o_becomes, .ref h_o_comes, .ref h_o_next, .int o_x])), (h_o_text, .inl (ca 2, 1000, .inl o_text_r))] sz) := by
  refine Met.ofW (cc := cX8_see) (maxL := 1) (ret := (some .int)) (by decide) rfl ?_
  intro p e s m args below meth c s₁ B hml hv
  obtain ⟨rfl, hsz, hP, hK, hD0, hE⟩ := hv
  have hx := B.exec
  have hb := B.bytes
  have hr := B.returns
  have hts := atoms_spec (ws := Cond.code yX8_see cX8_see 1 (some .int) :: ds_gw) B.pre
  have hg : ∀ {w : Cond}, w ∈ ds_gw → w.before _ s = true := fun h => hts _ (List.mem_cons_of_mem _ h)
  have hown : s.vm.findClass RX8 = some m.cls := findClass_of_methodNamed B.named
  have hlocks := B.notSynchronized
  subst hsz
  have hD := hD0.self (sz := s.heap.size)
  generalize hAe : va_A [(h_o, .inr (7, [.ref h_o_plans, .ref h_o_makers, .ref h_o_halves, .int o_raised, .ref h_o_all, .ref h_o_text, .ref h_o_saved, .ref h_o_undone, .int o_undos, .int o_reached, .int o_length, .int o_begin, .int o_letters, .int o_sort, .long o_word, .int o_wrongAt, .int o_badAt, .int o_bad, .ref h_o_told, .ref h_o_shift, .int o_firstX, .int o_firstY, .int o_secondX, .int o_secondY, .ref h_o_rootOf, .ref h_o_becomes, .ref h_o_comes, .ref h_o_next, .int o_x])), (h_o_text, .inl (ca 2, 1000, .inl o_text_r))] s.heap.size = A at hD hE ⊢
  have hA : ∀ q : Nat, s.heap.size ≤ q → A q := fun q h => by rw [← hAe]; exact Or.inr h
  have hS : va_S A s.heap s.heap [] := va_S.rf
  have hl := lv_entry ([.ref h_o]) (n := 1) (Nat.le_of_ble_eq_true rfl)
  rw [lg_entry_eq]
  generalize (lg_sl ([.ref h_o]) ++ List.replicate (1 - (lg_sl ([.ref h_o])).length) Slot.unset).toArray = ls at hl ⊢
  have hl : lv_has ls 1 [(0, .ref h_o)] := hl
  obtain ⟨G0, eG0⟩ : ∃ G : Int32 → Prop, G = (fun r => r = res) := ⟨_, rfl⟩
  obtain ⟨rr, hrr⟩ : ∃ z, z = res := ⟨_, rfl⟩
  rw [← hrr] at hf
  have hG : G0 rr := by subst eG0; exact hrr
  unfold fX8_see at hf
  refine lv_aload_n hx hb dX8_see_0 rfl (lv_at hl 0 rfl) ?_
  refine va_get (D := (dC, dI)) (ci := 7) (v := .int o_reached) (C := RX8) (T := TX8) (N := 29) hx hb hts (fun w h => List.mem_cons_of_mem _ (kc_X8 w h)) hown hK hP 0 rfl rfl 9 (by decide) (hg kw_610) (fun _ h9 => h9) rfl dX8_see_1 ?_
  refine lv_aload_n hx hb dX8_see_4 rfl (lv_at hl 0 rfl) ?_
  refine va_get (D := (dC, dI)) (ci := 7) (v := .int o_length) (C := RX8) (T := TX8) (N := 29) hx hb hts (fun w h => List.mem_cons_of_mem _ (kc_X8 w h)) hown hK hP 0 rfl rfl 10 (by decide) (hg kw_611) (fun _ h9 => h9) rfl dX8_see_5 ?_
  refine lv_icmp_ge (tgt := 27) hx hb dX8_see_8 (by decide) (fun c_8 => ?_) (fun c_8 => ?_)
  · replace hf := ds_t c_8 hf
    refine lv_iconst (v := -1) hx hb dX8_see_27 (by decide) ?_
    have hf := Option.some.inj hf
    subst hf
    rw [eG0] at hG
    have hG : _ = res := hG
    subst hG
    exact W.iret (v := (-1 : Int32)) hx hb hr (fun t ht hW => ⟨⟨(-1 : Int32), (), rfl, rfl, by rw [ht]; exact hP, hD⟩, hS.F ht⟩) hS.2.2 dX8_see_28
  · replace hf := ds_f c_8 hf
    refine lv_aload_n hx hb dX8_see_11 rfl (lv_at hl 0 rfl) ?_
    refine va_get (D := (dC, dI)) (ci := 7) (v := .ref h_o_text) (C := RX8) (T := TX8) (N := 29) hx hb hts (fun w h => List.mem_cons_of_mem _ (kc_X8 w h)) hown hK hP 0 rfl rfl 5 (by decide) (hg kw_608) (fun _ h9 => h9) rfl dX8_see_12 ?_
    refine lv_aload_n hx hb dX8_see_15 rfl (lv_at hl 0 rfl) ?_
    refine va_get (D := (dC, dI)) (ci := 7) (v := .int o_reached) (C := RX8) (T := TX8) (N := 29) hx hb hts (fun w h => List.mem_cons_of_mem _ (kc_X8 w h)) hown hK hP 0 rfl rfl 9 (by decide) (hg kw_610) (fun _ h9 => h9) rfl dX8_see_16 ?_
    obtain ⟨i_19, hf⟩ := ds_ci hf
    refine va_bald hx hb hK hP 1 2 rfl rfl i_19 dX8_see_19 ?_
    refine lv_sipush (v := 255) hx hb dX8_see_20 (by decide) ?_
    refine lv_iand hx hb dX8_see_23 ?_
    refine lv_goto (tgt := 28) hx hb dX8_see_24 (by decide) ?_
    have hf := Option.some.inj hf
    subst hf
    rw [eG0] at hG
    have hG : _ = res := hG
    subst hG
    exact W.iret (v := ((o_text_r o_reached.toNatClampNeg) &&& (255 : Int32))) hx hb hr (fun t ht hW => ⟨⟨((o_text_r o_reached.toNatClampNeg) &&& (255 : Int32)), (), rfl, rfl, by rw [ht]; exact hP, hD⟩, hS.F ht⟩) hS.2.2 dX8_see_28
theorem dX8_token_0 : decode cX8_token 0 = .ok (.aload_n 0, 1) := by decide +kernel
theorem dX8_token_1 : decode cX8_token 1 = .ok (.invokevirtual 74, 3) := by decide +kernel
theorem dX8_token_4 : decode cX8_token 4 = .ok (.bipush 10, 2) := by decide +kernel
theorem dX8_token_6 : decode cX8_token 6 = .ok (.if_icmp .eq 12, 3) := by decide +kernel
theorem dX8_token_9 : decode cX8_token 9 = .ok (.aload_n 0, 1) := by decide +kernel
theorem dX8_token_10 : decode cX8_token 10 = .ok (.invokevirtual 74, 3) := by decide +kernel
theorem dX8_token_13 : decode cX8_token 13 = .ok (.bipush 32, 2) := by decide +kernel
theorem dX8_token_15 : decode cX8_token 15 = .ok (.if_icmp .ne 16, 3) := by decide +kernel
theorem dX8_token_18 : decode cX8_token 18 = .ok (.aload_n 0, 1) := by decide +kernel
theorem dX8_token_19 : decode cX8_token 19 = .ok (.dup, 1) := by decide +kernel
theorem dX8_token_20 : decode cX8_token 20 = .ok (.getfield 68, 3) := by decide +kernel
theorem dX8_token_23 : decode cX8_token 23 = .ok (.iconst 1, 1) := by decide +kernel
theorem dX8_token_24 : decode cX8_token 24 = .ok (.iadd, 1) := by decide +kernel
theorem dX8_token_25 : decode cX8_token 25 = .ok (.putfield 68, 3) := by decide +kernel
theorem dX8_token_28 : decode cX8_token 28 = .ok (.goto (-28), 3) := by decide +kernel
theorem dX8_token_31 : decode cX8_token 31 = .ok (.aload_n 0, 1) := by decide +kernel
theorem dX8_token_32 : decode cX8_token 32 = .ok (.aload_n 0, 1) := by decide +kernel
theorem dX8_token_33 : decode cX8_token 33 = .ok (.getfield 68, 3) := by decide +kernel
theorem dX8_token_36 : decode cX8_token 36 = .ok (.putfield 77, 3) := by decide +kernel
theorem dX8_token_39 : decode cX8_token 39 = .ok (.aload_n 0, 1) := by decide +kernel
theorem dX8_token_40 : decode cX8_token 40 = .ok (.invokevirtual 74, 3) := by decide +kernel
theorem dX8_token_43 : decode cX8_token 43 = .ok (.istore_n 1, 1) := by decide +kernel
theorem dX8_token_44 : decode cX8_token 44 = .ok (.aload_n 0, 1) := by decide +kernel
theorem dX8_token_45 : decode cX8_token 45 = .ok (.lconst 0, 1) := by decide +kernel
theorem dX8_token_46 : decode cX8_token 46 = .ok (.putfield 80, 3) := by decide +kernel
theorem dX8_token_49 : decode cX8_token 49 = .ok (.aload_n 0, 1) := by decide +kernel
theorem dX8_token_50 : decode cX8_token 50 = .ok (.iconst 0, 1) := by decide +kernel
theorem dX8_token_51 : decode cX8_token 51 = .ok (.putfield 84, 3) := by decide +kernel
theorem dX8_token_54 : decode cX8_token 54 = .ok (.iload_n 1, 1) := by decide +kernel
theorem dX8_token_55 : decode cX8_token 55 = .ok (.ifCond .ge 11, 3) := by decide +kernel
theorem dX8_token_58 : decode cX8_token 58 = .ok (.aload_n 0, 1) := by decide +kernel
theorem dX8_token_59 : decode cX8_token 59 = .ok (.iconst 0, 1) := by decide +kernel
theorem dX8_token_60 : decode cX8_token 60 = .ok (.putfield 87, 3) := by decide +kernel
theorem dX8_token_63 : decode cX8_token 63 = .ok (.goto 122, 3) := by decide +kernel
theorem dX8_token_66 : decode cX8_token 66 = .ok (.iload_n 1, 1) := by decide +kernel
theorem dX8_token_67 : decode cX8_token 67 = .ok (.bipush 97, 2) := by decide +kernel
theorem dX8_token_69 : decode cX8_token 69 = .ok (.bipush 122, 2) := by decide +kernel
theorem dX8_token_71 : decode cX8_token 71 = .ok (.invokestatic 90, 3) := by decide +kernel
theorem dX8_token_74 : decode cX8_token 74 = .ok (.ifCond .eq 86, 3) := by decide +kernel
theorem dX8_token_77 : decode cX8_token 77 = .ok (.aload_n 0, 1) := by decide +kernel
theorem dX8_token_78 : decode cX8_token 78 = .ok (.invokevirtual 74, 3) := by decide +kernel
theorem dX8_token_81 : decode cX8_token 81 = .ok (.bipush 97, 2) := by decide +kernel
theorem dX8_token_83 : decode cX8_token 83 = .ok (.bipush 122, 2) := by decide +kernel
theorem dX8_token_85 : decode cX8_token 85 = .ok (.invokestatic 90, 3) := by decide +kernel
theorem dX8_token_88 : decode cX8_token 88 = .ok (.ifCond .eq 43, 3) := by decide +kernel
theorem dX8_token_91 : decode cX8_token 91 = .ok (.aload_n 0, 1) := by decide +kernel
theorem dX8_token_92 : decode cX8_token 92 = .ok (.aload_n 0, 1) := by decide +kernel
theorem dX8_token_93 : decode cX8_token 93 = .ok (.getfield 80, 3) := by decide +kernel
theorem dX8_token_96 : decode cX8_token 96 = .ok (.bipush 8, 2) := by decide +kernel
theorem dX8_token_98 : decode cX8_token 98 = .ok (.lshl, 1) := by decide +kernel
theorem dX8_token_99 : decode cX8_token 99 = .ok (.aload_n 0, 1) := by decide +kernel
theorem dX8_token_100 : decode cX8_token 100 = .ok (.invokevirtual 74, 3) := by decide +kernel
theorem dX8_token_103 : decode cX8_token 103 = .ok (.i2l, 1) := by decide +kernel
theorem dX8_token_104 : decode cX8_token 104 = .ok (.lor, 1) := by decide +kernel
theorem dX8_token_105 : decode cX8_token 105 = .ok (.putfield 80, 3) := by decide +kernel
theorem dX8_token_108 : decode cX8_token 108 = .ok (.aload_n 0, 1) := by decide +kernel
theorem dX8_token_109 : decode cX8_token 109 = .ok (.dup, 1) := by decide +kernel
theorem dX8_token_110 : decode cX8_token 110 = .ok (.getfield 68, 3) := by decide +kernel
theorem dX8_token_113 : decode cX8_token 113 = .ok (.iconst 1, 1) := by decide +kernel
theorem dX8_token_114 : decode cX8_token 114 = .ok (.iadd, 1) := by decide +kernel
theorem dX8_token_115 : decode cX8_token 115 = .ok (.putfield 68, 3) := by decide +kernel
theorem dX8_token_118 : decode cX8_token 118 = .ok (.aload_n 0, 1) := by decide +kernel
theorem dX8_token_119 : decode cX8_token 119 = .ok (.dup, 1) := by decide +kernel
theorem dX8_token_120 : decode cX8_token 120 = .ok (.getfield 84, 3) := by decide +kernel
theorem dX8_token_123 : decode cX8_token 123 = .ok (.iconst 1, 1) := by decide +kernel
theorem dX8_token_124 : decode cX8_token 124 = .ok (.iadd, 1) := by decide +kernel
theorem dX8_token_125 : decode cX8_token 125 = .ok (.putfield 84, 3) := by decide +kernel
theorem dX8_token_128 : decode cX8_token 128 = .ok (.goto (-51), 3) := by decide +kernel
theorem dX8_token_131 : decode cX8_token 131 = .ok (.aload_n 0, 1) := by decide +kernel
theorem dX8_token_132 : decode cX8_token 132 = .ok (.aload_n 0, 1) := by decide +kernel
theorem dX8_token_133 : decode cX8_token 133 = .ok (.getfield 84, 3) := by decide +kernel
theorem dX8_token_136 : decode cX8_token 136 = .ok (.bipush 8, 2) := by decide +kernel
theorem dX8_token_138 : decode cX8_token 138 = .ok (.if_icmp .le 7, 3) := by decide +kernel
theorem dX8_token_141 : decode cX8_token 141 = .ok (.lconst 0, 1) := by decide +kernel
theorem dX8_token_142 : decode cX8_token 142 = .ok (.goto 7, 3) := by decide +kernel
theorem dX8_token_145 : decode cX8_token 145 = .ok (.aload_n 0, 1) := by decide +kernel
theorem dX8_token_146 : decode cX8_token 146 = .ok (.getfield 80, 3) := by decide +kernel
theorem dX8_token_149 : decode cX8_token 149 = .ok (.putfield 80, 3) := by decide +kernel
theorem dX8_token_152 : decode cX8_token 152 = .ok (.aload_n 0, 1) := by decide +kernel
theorem dX8_token_153 : decode cX8_token 153 = .ok (.iconst 2, 1) := by decide +kernel
theorem dX8_token_154 : decode cX8_token 154 = .ok (.putfield 87, 3) := by decide +kernel
theorem dX8_token_157 : decode cX8_token 157 = .ok (.goto 28, 3) := by decide +kernel
theorem dX8_token_160 : decode cX8_token 160 = .ok (.aload_n 0, 1) := by decide +kernel
theorem dX8_token_161 : decode cX8_token 161 = .ok (.dup, 1) := by decide +kernel
theorem dX8_token_162 : decode cX8_token 162 = .ok (.getfield 68, 3) := by decide +kernel
theorem dX8_token_165 : decode cX8_token 165 = .ok (.iconst 1, 1) := by decide +kernel
theorem dX8_token_166 : decode cX8_token 166 = .ok (.iadd, 1) := by decide +kernel
theorem dX8_token_167 : decode cX8_token 167 = .ok (.putfield 68, 3) := by decide +kernel
theorem dX8_token_170 : decode cX8_token 170 = .ok (.aload_n 0, 1) := by decide +kernel
theorem dX8_token_171 : decode cX8_token 171 = .ok (.iload_n 1, 1) := by decide +kernel
theorem dX8_token_172 : decode cX8_token 172 = .ok (.bipush 59, 2) := by decide +kernel
theorem dX8_token_174 : decode cX8_token 174 = .ok (.if_icmp .ne 7, 3) := by decide +kernel
theorem dX8_token_177 : decode cX8_token 177 = .ok (.iconst 3, 1) := by decide +kernel
theorem dX8_token_178 : decode cX8_token 178 = .ok (.goto 4, 3) := by decide +kernel
theorem dX8_token_181 : decode cX8_token 181 = .ok (.iconst 1, 1) := by decide +kernel
theorem dX8_token_182 : decode cX8_token 182 = .ok (.putfield 87, 3) := by decide +kernel
theorem dX8_token_185 : decode cX8_token 185 = .ok (.return_, 1) := by decide +kernel
def fX8_token_182 (o_reached : Int32) (o_begin : Int32) (o_letters : Int32) (o_word : Int64) (s0 : Int32) : Option (Int32 × Int32 × Int32 × Int32 × Int64) :=
  some (o_reached, o_begin, o_letters, s0, o_word)
def fX8_token_149 (o_reached : Int32) (o_begin : Int32) (o_letters : Int32) (w0 : Int64) : Option (Int32 × Int32 × Int32 × Int32 × Int64) :=
  some (o_reached, o_begin, o_letters, (2 : Int32), w0)
def fX8_token_131 (o_reached : Int32) (o_begin : Int32) (o_letters : Int32) (o_word : Int64) : Option (Int32 × Int32 × Int32 × Int32 × Int64) :=
  if o_letters ≤ (8 : Int32) then fX8_token_149 o_reached o_begin o_letters o_word else fX8_token_149 o_reached o_begin o_letters (0 : Int64)
def fX8_token_77_b (o_length : Int32) (o_begin : Int32) (o_text_r : Nat → Int32) (o_reached : Int32) (o_letters : Int32) (o_word : Int64) : Option ((Int32 × Int32 × Int64) ⊕ (Int32 × Int32 × Int32 × Int32 × Int64)) :=
  Option.bind (fX8_see o_reached o_length o_text_r) fun q78 => Option.bind (fX8_in q78 (97 : Int32) (122 : Int32)) fun q85 => if q85 = 0 then Option.bind (fX8_token_131 o_reached o_begin o_letters o_word) fun z => some (.inr z) else Option.bind (fX8_see o_reached o_length o_text_r) fun q100 => Option.bind (some (((ds_lshl o_word (8 : Int32)) ||| q100.toInt64))) fun x105 => some (.inl ((o_reached + (1 : Int32)), (o_letters + (1 : Int32)), x105))
def fX8_token_77 (o_length : Int32) (o_begin : Int32) (o_text_r : Nat → Int32) (o_reached : Int32) (o_letters : Int32) (o_word : Int64) : Option (Int32 × Int32 × Int32 × Int32 × Int64) := ds_it (fun s => fX8_token_77_b o_length o_begin o_text_r s.1 s.2.1 s.2.2) 1000 (o_reached, o_letters, o_word)
def fX8_token_31 (o_reached : Int32) (o_length : Int32) (o_text_r : Nat → Int32) : Option (Int32 × Int32 × Int32 × Int32 × Int64) :=
  Option.bind (fX8_see o_reached o_length o_text_r) fun q40 => if 0 ≤ q40 then Option.bind (fX8_in q40 (97 : Int32) (122 : Int32)) fun q71 => if q71 = 0 then if q40 = (59 : Int32) then fX8_token_182 (o_reached + (1 : Int32)) o_reached (0 : Int32) (0 : Int64) (3 : Int32) else fX8_token_182 (o_reached + (1 : Int32)) o_reached (0 : Int32) (0 : Int64) (1 : Int32) else fX8_token_77 o_length o_reached o_text_r o_reached (0 : Int32) (0 : Int64) else some (o_reached, o_reached, (0 : Int32), (0 : Int32), (0 : Int64))
def fX8_token_18 (o_reached : Int32) : Option ((Int32) ⊕ (Int32 × Int32 × Int32 × Int32 × Int64)) :=
  some (.inl (o_reached + (1 : Int32)))
def fX8_token_0_b (o_length : Int32) (o_text_r : Nat → Int32) (o_reached : Int32) : Option ((Int32) ⊕ (Int32 × Int32 × Int32 × Int32 × Int64)) :=
  Option.bind (fX8_see o_reached o_length o_text_r) fun q1 => if q1 = (10 : Int32) then fX8_token_18 o_reached else Option.bind (fX8_see o_reached o_length o_text_r) fun q10 => if q10 = (32 : Int32) then fX8_token_18 o_reached else Option.bind (fX8_token_31 o_reached o_length o_text_r) fun z => some (.inr z)
def fX8_token_0 (o_length : Int32) (o_text_r : Nat → Int32) (o_reached : Int32) : Option (Int32 × Int32 × Int32 × Int32 × Int64) := ds_it (fun s => fX8_token_0_b o_length o_text_r s) 1000 o_reached
def fX8_token (o_reached : Int32) (o_length : Int32) (o_text_r : Nat → Int32) : Option (Int32 × Int32 × Int32 × Int32 × Int64) :=
  fX8_token_0 o_length o_text_r o_reached
set_option maxHeartbeats 4000000 in
set_option maxRecDepth 100000 in
theorem c_X8_token (l : Launch) (dC : Nat → ClassId) (dI : Nat → Nat → Nat) (ca : Nat → ClassId) (sa : Nat → Nat) (h_o : Nat) (h_o_plans : Nat) (h_o_makers : Nat) (h_o_halves : Nat) (h_o_all : Nat) (h_o_text : Nat) (h_o_saved : Nat) (h_o_undone : Nat) (h_o_told : Nat) (h_o_shift : Nat) (h_o_rootOf : Nat) (h_o_becomes : Nat) (h_o_comes : Nat) (h_o_next : Nat) (sz : Nat) (o_raised : Int32) (o_undos : Int32) (o_reached : Int32) (o_length : Int32) (o_begin : Int32) (o_letters : Int32) (o_sort : Int32) (o_word : Int64) (o_wrongAt : Int32) (o_badAt : Int32) (o_bad : Int32) (o_firstX : Int32) (o_firstY : Int32) (o_secondX : Int32) (o_secondY : Int32) (o_x : Int32) (o_text_r : Nat → Int32) (res : Int32 × Int32 × Int32 × Int32 × Int64) (hf : fX8_token o_reached o_length o_text_r = some res) : Met l yX8_token (Cond.code yX8_token cX8_token 2 none :: ds_gw) { frames := 1, cells := 0, slots := 0, locals := 22 } (va_Pc [.ref h_o] (ds_Pre dC dI ca sa [(h_o, .inr (7, [.ref h_o_plans, .ref h_o_makers, .ref h_o_halves, .int o_raised, .ref h_o_all, .ref h_o_text, .ref h_o_saved, .ref h_o_undone, .int o_undos, .int o_reached, .int o_length, .int o_begin, .int o_letters, .int o_sort, .long o_word, .int o_wrongAt, .int o_badAt, .int o_bad, .ref h_o_told, .ref h_o_shift, .int o_firstX, .int o_firstY, .int o_secondX, .int o_secondY, .ref h_o_rootOf, .ref h_o_becomes, .ref h_o_comes, .ref h_o_next, .int o_x])), (h_o_text, .inl (ca 2, 1000, .inl o_text_r))] sz)) (va_Qv (fun (_ : Unit) => True) (ds_B dC dI (va_A [(h_o, .inr (7, [.ref h_o_plans, .ref h_o_makers, .ref h_o_halves, .int o_raised, .ref h_o_all, .ref h_o_text, .ref h_o_saved, .ref h_o_undone, .int o_undos, .int o_reached, .int o_length, .int o_begin, .int o_letters, .int o_sort, .long o_word, .int o_wrongAt, .int o_badAt, .int o_bad, .ref h_o_told, .ref h_o_shift, .int o_firstX, .int o_firstY, .int o_secondX, .int o_secondY, .ref h_o_rootOf, .ref h_o_becomes, .ref h_o_comes, .ref h_o_next, .int o_x])), (h_o_text, .inl (ca 2, 1000, .inl o_text_r))] sz) [(h_o, .inr (7, [.ref h_o_plans, .ref h_o_makers, .ref h_o_halves, .int o_raised, .ref h_o_all, .ref h_o_text, .ref h_o_saved, .ref h_o_undone, .int o_undos, .int res.1, .int o_length, .int res.2.1, .int res.2.2.1, .int res.2.2.2.1, .long res.2.2.2.2, .int o_wrongAt, .int o_badAt, .int o_bad, .ref h_o_told, .ref h_o_shift, .int o_firstX, .int o_firstY, .int o_secondX, .int o_secondY, .ref h_o_rootOf, .ref h_o_becomes, .ref h_o_comes, .ref h_o_next, .int o_x])), (h_o_text, .inl (ca 2, 1000, .inl o_text_r))]) (va_A [(h_o, .inr (7, [.ref h_o_plans, .ref h_o_makers, .ref h_o_halves, .int o_raised, .ref h_o_all, .ref h_o_text, .ref h_o_saved, .ref h_o_undone, .int o_undos, .int o_reached, .int o_length, .int o_begin, .int o_letters, .int o_sort, .long o_word, .int o_wrongAt, .int o_badAt, .int o_bad, .ref h_o_told, .ref h_o_shift, .int o_firstX, .int o_firstY, .int o_secondX, .int o_secondY, .ref h_o_rootOf, .ref h_o_becomes, .ref h_o_comes, .ref h_o_next, .int o_x])), (h_o_text, .inl (ca 2, 1000, .inl o_text_r))] sz)) 0 0 (va_A [(h_o, .inr (7, [.ref h_o_plans, .ref h_o_makers, .ref h_o_halves, .int o_raised, .ref h_o_all, .ref h_o_text, .ref h_o_saved, .ref h_o_undone, .int o_undos, .int o_reached, .int o_length, .int o_begin, .int o_letters, .int o_sort, .long o_word, .int o_wrongAt, .int o_badAt, .int o_bad, .ref h_o_told, .ref h_o_shift, .int o_firstX, .int o_firstY, .int o_secondX, .int o_secondY, .ref h_o_rootOf, .ref h_o_becomes, .ref h_o_comes, .ref h_o_next, .int o_x])), (h_o_text, .inl (ca 2, 1000, .inl o_text_r))] sz) := by
  refine Met.ofW (cc := cX8_token) (maxL := 2) (ret := none) (by decide) rfl ?_
  intro p e s m args below meth c s₁ B hml hv
  obtain ⟨rfl, hsz, hP, hK, hD0, hE⟩ := hv
  have hx := B.exec
  have hb := B.bytes
  have hr := B.returns
  have hts := atoms_spec (ws := Cond.code yX8_token cX8_token 2 none :: ds_gw) B.pre
  have hg : ∀ {w : Cond}, w ∈ ds_gw → w.before _ s = true := fun h => hts _ (List.mem_cons_of_mem _ h)
  have hown : s.vm.findClass RX8 = some m.cls := findClass_of_methodNamed B.named
  have hlocks := B.notSynchronized
  subst hsz
  have hD := hD0.self (sz := s.heap.size)
  generalize hAe : va_A [(h_o, .inr (7, [.ref h_o_plans, .ref h_o_makers, .ref h_o_halves, .int o_raised, .ref h_o_all, .ref h_o_text, .ref h_o_saved, .ref h_o_undone, .int o_undos, .int o_reached, .int o_length, .int o_begin, .int o_letters, .int o_sort, .long o_word, .int o_wrongAt, .int o_badAt, .int o_bad, .ref h_o_told, .ref h_o_shift, .int o_firstX, .int o_firstY, .int o_secondX, .int o_secondY, .ref h_o_rootOf, .ref h_o_becomes, .ref h_o_comes, .ref h_o_next, .int o_x])), (h_o_text, .inl (ca 2, 1000, .inl o_text_r))] s.heap.size = A at hD hE ⊢
  have hA : ∀ q : Nat, s.heap.size ≤ q → A q := fun q h => by rw [← hAe]; exact Or.inr h
  have hS : va_S A s.heap s.heap [] := va_S.rf
  have hl := lv_entry ([.ref h_o]) (n := 2) (Nat.le_of_ble_eq_true rfl)
  rw [lg_entry_eq]
  generalize (lg_sl ([.ref h_o]) ++ List.replicate (2 - (lg_sl ([.ref h_o])).length) Slot.unset).toArray = ls at hl ⊢
  have hl : lv_has ls 2 [(0, .ref h_o)] := hl
  obtain ⟨G0, eG0⟩ : ∃ G : (Int32 × Int32 × Int32 × Int32 × Int64) → Prop, G = (fun r => r = res) := ⟨_, rfl⟩
  obtain ⟨rr, hrr⟩ : ∃ z, z = res := ⟨_, rfl⟩
  rw [← hrr] at hf
  have hG : G0 rr := by subst eG0; exact hrr
  refine ds_cap (fun WW h1 h2 => ?_)
  have J_182 : ∀ (s0 : Int32) (o_reached : Int32) (o_begin : Int32) (o_letters : Int32) (o_sort : Int32) (o_word : Int64) (rr : Int32 × Int32 × Int32 × Int32 × Int64) (hf : fX8_token_182 o_reached o_begin o_letters o_word s0 = some rr) (hG : G0 rr) (H : Heap) (locs : List Loc) (hP : va_P (dC, dI) vwCl [(h_o, .inr (7, [.ref h_o_plans, .ref h_o_makers, .ref h_o_halves, .int o_raised, .ref h_o_all, .ref h_o_text, .ref h_o_saved, .ref h_o_undone, .int o_undos, .int o_reached, .int o_length, .int o_begin, .int o_letters, .int o_sort, .long o_word, .int o_wrongAt, .int o_badAt, .int o_bad, .ref h_o_told, .ref h_o_shift, .int o_firstX, .int o_firstY, .int o_secondX, .int o_secondY, .ref h_o_rootOf, .ref h_o_becomes, .ref h_o_comes, .ref h_o_next, .int o_x])), (h_o_text, .inl (ca 2, 1000, .inl o_text_r))] H) (hD : va_D A [(h_o, .inr (7, [.ref h_o_plans, .ref h_o_makers, .ref h_o_halves, .int o_raised, .ref h_o_all, .ref h_o_text, .ref h_o_saved, .ref h_o_undone, .int o_undos, .int o_reached, .int o_length, .int o_begin, .int o_letters, .int o_sort, .long o_word, .int o_wrongAt, .int o_badAt, .int o_bad, .ref h_o_told, .ref h_o_shift, .int o_firstX, .int o_firstY, .int o_secondX, .int o_secondY, .ref h_o_rootOf, .ref h_o_becomes, .ref h_o_comes, .ref h_o_next, .int o_x])), (h_o_text, .inl (ca 2, 1000, .inl o_text_r))]) (hS : va_S A s.heap H locs) (ls : Array Slot) (hl : lv_has ls 2 []), WW H locs (F0 m 182 ls [.int s0, .ref h_o]) := by
    intro s0 o_reached o_begin o_letters o_sort o_word rr hf hG H locs hP hD hS ls hl
    refine h2 ?_
    unfold fX8_token_182 at hf
    refine va_put (D := (dC, dI)) (ci := 7) (v := .int s0) (ty := tyX8 13) (C := RX8) (T := TX8) (N := 29) hx hb hts (fun w h => List.mem_cons_of_mem _ (kc_X8 w h)) tyX8 tyX8_ok nmX8 hown hK hP hD hS 0 rfl rfl 13 (by decide) (hg kw_612) (fun _ h9 => h9) rfl (by decide +kernel) rfl rfl (Nat.le_of_ble_eq_true rfl) dX8_token_182 (fun H locs hP hD hS => ?_)
    have hP : va_P (dC, dI) vwCl [(h_o, .inr (7, [.ref h_o_plans, .ref h_o_makers, .ref h_o_halves, .int o_raised, .ref h_o_all, .ref h_o_text, .ref h_o_saved, .ref h_o_undone, .int o_undos, .int o_reached, .int o_length, .int o_begin, .int o_letters, .int s0, .long o_word, .int o_wrongAt, .int o_badAt, .int o_bad, .ref h_o_told, .ref h_o_shift, .int o_firstX, .int o_firstY, .int o_secondX, .int o_secondY, .ref h_o_rootOf, .ref h_o_becomes, .ref h_o_comes, .ref h_o_next, .int o_x])), (h_o_text, .inl (ca 2, 1000, .inl o_text_r))] H := hP
    have hD : va_D A [(h_o, .inr (7, [.ref h_o_plans, .ref h_o_makers, .ref h_o_halves, .int o_raised, .ref h_o_all, .ref h_o_text, .ref h_o_saved, .ref h_o_undone, .int o_undos, .int o_reached, .int o_length, .int o_begin, .int o_letters, .int s0, .long o_word, .int o_wrongAt, .int o_badAt, .int o_bad, .ref h_o_told, .ref h_o_shift, .int o_firstX, .int o_firstY, .int o_secondX, .int o_secondY, .ref h_o_rootOf, .ref h_o_becomes, .ref h_o_comes, .ref h_o_next, .int o_x])), (h_o_text, .inl (ca 2, 1000, .inl o_text_r))] := hD
    have hf := Option.some.inj hf
    subst hf
    rw [eG0] at hG
    have hG : _ = res := hG
    subst hG
    exact W.vret hx hb hr (fun t ht hW => ⟨⟨(), rfl, trivial, by rw [ht]; exact hP, hD⟩, hS.F ht⟩) hS.2.2 dX8_token_185
  have J_149 : ∀ (w0 : Int64) (o_reached : Int32) (o_begin : Int32) (o_letters : Int32) (o_sort : Int32) (o_word : Int64) (rr : Int32 × Int32 × Int32 × Int32 × Int64) (hf : fX8_token_149 o_reached o_begin o_letters w0 = some rr) (hG : G0 rr) (H : Heap) (locs : List Loc) (hP : va_P (dC, dI) vwCl [(h_o, .inr (7, [.ref h_o_plans, .ref h_o_makers, .ref h_o_halves, .int o_raised, .ref h_o_all, .ref h_o_text, .ref h_o_saved, .ref h_o_undone, .int o_undos, .int o_reached, .int o_length, .int o_begin, .int o_letters, .int o_sort, .long o_word, .int o_wrongAt, .int o_badAt, .int o_bad, .ref h_o_told, .ref h_o_shift, .int o_firstX, .int o_firstY, .int o_secondX, .int o_secondY, .ref h_o_rootOf, .ref h_o_becomes, .ref h_o_comes, .ref h_o_next, .int o_x])), (h_o_text, .inl (ca 2, 1000, .inl o_text_r))] H) (hD : va_D A [(h_o, .inr (7, [.ref h_o_plans, .ref h_o_makers, .ref h_o_halves, .int o_raised, .ref h_o_all, .ref h_o_text, .ref h_o_saved, .ref h_o_undone, .int o_undos, .int o_reached, .int o_length, .int o_begin, .int o_letters, .int o_sort, .long o_word, .int o_wrongAt, .int o_badAt, .int o_bad, .ref h_o_told, .ref h_o_shift, .int o_firstX, .int o_firstY, .int o_secondX, .int o_secondY, .ref h_o_rootOf, .ref h_o_becomes, .ref h_o_comes, .ref h_o_next, .int o_x])), (h_o_text, .inl (ca 2, 1000, .inl o_text_r))]) (hS : va_S A s.heap H locs) (ls : Array Slot) (hl : lv_has ls 2 [(0, .ref h_o)]), WW H locs (F0 m 149 ls [.long w0, .ref h_o]) := by
    intro w0 o_reached o_begin o_letters o_sort o_word rr hf hG H locs hP hD hS ls hl
    refine h2 ?_
    unfold fX8_token_149 at hf
    refine va_put (D := (dC, dI)) (ci := 7) (v := .long w0) (ty := tyX8 14) (C := RX8) (T := TX8) (N := 29) hx hb hts (fun w h => List.mem_cons_of_mem _ (kc_X8 w h)) tyX8 tyX8_ok nmX8 hown hK hP hD hS 0 rfl rfl 14 (by decide) (hg kw_613) (fun _ h9 => h9) rfl (by decide +kernel) rfl rfl (Nat.le_of_ble_eq_true rfl) dX8_token_149 (fun H locs hP hD hS => ?_)
    have hP : va_P (dC, dI) vwCl [(h_o, .inr (7, [.ref h_o_plans, .ref h_o_makers, .ref h_o_halves, .int o_raised, .ref h_o_all, .ref h_o_text, .ref h_o_saved, .ref h_o_undone, .int o_undos, .int o_reached, .int o_length, .int o_begin, .int o_letters, .int o_sort, .long w0, .int o_wrongAt, .int o_badAt, .int o_bad, .ref h_o_told, .ref h_o_shift, .int o_firstX, .int o_firstY, .int o_secondX, .int o_secondY, .ref h_o_rootOf, .ref h_o_becomes, .ref h_o_comes, .ref h_o_next, .int o_x])), (h_o_text, .inl (ca 2, 1000, .inl o_text_r))] H := hP
    have hD : va_D A [(h_o, .inr (7, [.ref h_o_plans, .ref h_o_makers, .ref h_o_halves, .int o_raised, .ref h_o_all, .ref h_o_text, .ref h_o_saved, .ref h_o_undone, .int o_undos, .int o_reached, .int o_length, .int o_begin, .int o_letters, .int o_sort, .long w0, .int o_wrongAt, .int o_badAt, .int o_bad, .ref h_o_told, .ref h_o_shift, .int o_firstX, .int o_firstY, .int o_secondX, .int o_secondY, .ref h_o_rootOf, .ref h_o_becomes, .ref h_o_comes, .ref h_o_next, .int o_x])), (h_o_text, .inl (ca 2, 1000, .inl o_text_r))] := hD
    refine lv_aload_n hx hb dX8_token_152 rfl (lv_at hl 0 rfl) ?_
    refine lv_iconst (v := 2) hx hb dX8_token_153 (by decide) ?_
    refine va_put (D := (dC, dI)) (ci := 7) (v := .int (2 : Int32)) (ty := tyX8 13) (C := RX8) (T := TX8) (N := 29) hx hb hts (fun w h => List.mem_cons_of_mem _ (kc_X8 w h)) tyX8 tyX8_ok nmX8 hown hK hP hD hS 0 rfl rfl 13 (by decide) (hg kw_612) (fun _ h9 => h9) rfl (by decide +kernel) rfl rfl (Nat.le_of_ble_eq_true rfl) dX8_token_154 (fun H locs hP hD hS => ?_)
    have hP : va_P (dC, dI) vwCl [(h_o, .inr (7, [.ref h_o_plans, .ref h_o_makers, .ref h_o_halves, .int o_raised, .ref h_o_all, .ref h_o_text, .ref h_o_saved, .ref h_o_undone, .int o_undos, .int o_reached, .int o_length, .int o_begin, .int o_letters, .int (2 : Int32), .long w0, .int o_wrongAt, .int o_badAt, .int o_bad, .ref h_o_told, .ref h_o_shift, .int o_firstX, .int o_firstY, .int o_secondX, .int o_secondY, .ref h_o_rootOf, .ref h_o_becomes, .ref h_o_comes, .ref h_o_next, .int o_x])), (h_o_text, .inl (ca 2, 1000, .inl o_text_r))] H := hP
    have hD : va_D A [(h_o, .inr (7, [.ref h_o_plans, .ref h_o_makers, .ref h_o_halves, .int o_raised, .ref h_o_all, .ref h_o_text, .ref h_o_saved, .ref h_o_undone, .int o_undos, .int o_reached, .int o_length, .int o_begin, .int o_letters, .int (2 : Int32), .long w0, .int o_wrongAt, .int o_badAt, .int o_bad, .ref h_o_told, .ref h_o_shift, .int o_firstX, .int o_firstY, .int o_secondX, .int o_secondY, .ref h_o_rootOf, .ref h_o_becomes, .ref h_o_comes, .ref h_o_next, .int o_x])), (h_o_text, .inl (ca 2, 1000, .inl o_text_r))] := hD
    refine lv_goto (tgt := 185) hx hb dX8_token_157 (by decide) ?_
    have hf := Option.some.inj hf
    subst hf
    rw [eG0] at hG
    have hG : _ = res := hG
    subst hG
    exact W.vret hx hb hr (fun t ht hW => ⟨⟨(), rfl, trivial, by rw [ht]; exact hP, hD⟩, hS.F ht⟩) hS.2.2 dX8_token_185
  have J_131 : ∀ (o_reached : Int32) (o_begin : Int32) (o_letters : Int32) (o_sort : Int32) (o_word : Int64) (rr : Int32 × Int32 × Int32 × Int32 × Int64) (hf : fX8_token_131 o_reached o_begin o_letters o_word = some rr) (hG : G0 rr) (H : Heap) (locs : List Loc) (hP : va_P (dC, dI) vwCl [(h_o, .inr (7, [.ref h_o_plans, .ref h_o_makers, .ref h_o_halves, .int o_raised, .ref h_o_all, .ref h_o_text, .ref h_o_saved, .ref h_o_undone, .int o_undos, .int o_reached, .int o_length, .int o_begin, .int o_letters, .int o_sort, .long o_word, .int o_wrongAt, .int o_badAt, .int o_bad, .ref h_o_told, .ref h_o_shift, .int o_firstX, .int o_firstY, .int o_secondX, .int o_secondY, .ref h_o_rootOf, .ref h_o_becomes, .ref h_o_comes, .ref h_o_next, .int o_x])), (h_o_text, .inl (ca 2, 1000, .inl o_text_r))] H) (hD : va_D A [(h_o, .inr (7, [.ref h_o_plans, .ref h_o_makers, .ref h_o_halves, .int o_raised, .ref h_o_all, .ref h_o_text, .ref h_o_saved, .ref h_o_undone, .int o_undos, .int o_reached, .int o_length, .int o_begin, .int o_letters, .int o_sort, .long o_word, .int o_wrongAt, .int o_badAt, .int o_bad, .ref h_o_told, .ref h_o_shift, .int o_firstX, .int o_firstY, .int o_secondX, .int o_secondY, .ref h_o_rootOf, .ref h_o_becomes, .ref h_o_comes, .ref h_o_next, .int o_x])), (h_o_text, .inl (ca 2, 1000, .inl o_text_r))]) (hS : va_S A s.heap H locs) (ls : Array Slot) (hl : lv_has ls 2 [(0, .ref h_o)]), WW H locs (F0 m 131 ls []) := by
    intro o_reached o_begin o_letters o_sort o_word rr hf hG H locs hP hD hS ls hl
    refine h2 ?_
    unfold fX8_token_131 at hf
    refine lv_aload_n hx hb dX8_token_131 rfl (lv_at hl 0 rfl) ?_
    refine lv_aload_n hx hb dX8_token_132 rfl (lv_at hl 0 rfl) ?_
    refine va_get (D := (dC, dI)) (ci := 7) (v := .int o_letters) (C := RX8) (T := TX8) (N := 29) hx hb hts (fun w h => List.mem_cons_of_mem _ (kc_X8 w h)) hown hK hP 0 rfl rfl 12 (by decide) (hg kw_614) (fun _ h9 => h9) rfl dX8_token_133 ?_
    refine lv_bipush (v := 8) hx hb dX8_token_136 (by decide) ?_
    refine lv_icmp_le (tgt := 145) hx hb dX8_token_138 (by decide) (fun c_138 => ?_) (fun c_138 => ?_)
    · replace hf := ds_t c_138 hf
      refine lv_aload_n hx hb dX8_token_145 rfl (lv_at hl 0 rfl) ?_
      refine va_get (D := (dC, dI)) (ci := 7) (v := .long o_word) (C := RX8) (T := TX8) (N := 29) hx hb hts (fun w h => List.mem_cons_of_mem _ (kc_X8 w h)) hown hK hP 0 rfl rfl 14 (by decide) (hg kw_613) (fun _ h9 => h9) rfl dX8_token_146 ?_
      exact h1 (J_149 o_word o_reached o_begin o_letters o_sort o_word _ hf hG _ _ hP hD hS _ (lv_sub hl [0] rfl))
    · replace hf := ds_f c_138 hf
      refine lv_lconst (v := 0) hx hb dX8_token_141 (by decide) ?_
      refine lv_goto (tgt := 149) hx hb dX8_token_142 (by decide) ?_
      exact h1 (J_149 (0 : Int64) o_reached o_begin o_letters o_sort o_word _ hf hG _ _ hP hD hS _ (lv_sub hl [0] rfl))
  have J_77 : ∀ (o_begin : Int32) (o_sort : Int32) (n : Nat) (o_reached : Int32) (o_letters : Int32) (o_word : Int64) (rr : Int32 × Int32 × Int32 × Int32 × Int64) (hf : ds_it (fun s => fX8_token_77_b o_length o_begin o_text_r s.1 s.2.1 s.2.2) n (o_reached, o_letters, o_word) = some rr) (hG : G0 rr) (H : Heap) (locs : List Loc) (hP : va_P (dC, dI) vwCl [(h_o, .inr (7, [.ref h_o_plans, .ref h_o_makers, .ref h_o_halves, .int o_raised, .ref h_o_all, .ref h_o_text, .ref h_o_saved, .ref h_o_undone, .int o_undos, .int o_reached, .int o_length, .int o_begin, .int o_letters, .int o_sort, .long o_word, .int o_wrongAt, .int o_badAt, .int o_bad, .ref h_o_told, .ref h_o_shift, .int o_firstX, .int o_firstY, .int o_secondX, .int o_secondY, .ref h_o_rootOf, .ref h_o_becomes, .ref h_o_comes, .ref h_o_next, .int o_x])), (h_o_text, .inl (ca 2, 1000, .inl o_text_r))] H) (hD : va_D A [(h_o, .inr (7, [.ref h_o_plans, .ref h_o_makers, .ref h_o_halves, .int o_raised, .ref h_o_all, .ref h_o_text, .ref h_o_saved, .ref h_o_undone, .int o_undos, .int o_reached, .int o_length, .int o_begin, .int o_letters, .int o_sort, .long o_word, .int o_wrongAt, .int o_badAt, .int o_bad, .ref h_o_told, .ref h_o_shift, .int o_firstX, .int o_firstY, .int o_secondX, .int o_secondY, .ref h_o_rootOf, .ref h_o_becomes, .ref h_o_comes, .ref h_o_next, .int o_x])), (h_o_text, .inl (ca 2, 1000, .inl o_text_r))]) (hS : va_S A s.heap H locs) (ls : Array Slot) (hl : lv_has ls 2 [(0, .ref h_o)]), WW H locs (F0 m 77 ls []) := by
    intro o_begin o_sort n
    induction n with
    | zero => intro o_reached o_letters o_word rr hf; exact (ds_it_zero hf).elim
    | succ n ih77 =>
      intro o_reached o_letters o_word rr hf hG H locs hP hD hS ls hl
      refine h2 ?_
      obtain ⟨rr, hf, hG⟩ := ds_it_succ hf hG
      replace hf : fX8_token_77_b o_length o_begin o_text_r o_reached o_letters o_word = some rr := hf
      obtain ⟨G1, eG1⟩ : ∃ G : ((Int32 × Int32 × Int64) ⊕ (Int32 × Int32 × Int32 × Int32 × Int64)) → Prop, G = ds_G (fun s' => ∃ r', ds_it (fun s => fX8_token_77_b o_length o_begin o_text_r s.1 s.2.1 s.2.2) n s' = some r' ∧ G0 r') G0 := ⟨_, rfl⟩
      rw [← eG1] at hG
      unfold fX8_token_77_b at hf
      refine lv_aload_n hx hb dX8_token_77 rfl (lv_at hl 0 rfl) ?_
      obtain ⟨q78, hq78, hf⟩ := ds_ob hf
      refine ds_calli (wr := []) (va_runV (As := []) (rest := []) ⟨hx, hb, hml, hown, hts⟩ (c_X8_see l dC dI ca sa h_o h_o_plans h_o_makers h_o_halves h_o_all h_o_text h_o_saved h_o_undone h_o_told h_o_shift h_o_rootOf h_o_becomes h_o_comes h_o_next H.size o_raised o_undos o_reached o_length o_begin o_letters o_sort o_word o_wrongAt o_badAt o_bad o_firstX o_firstY o_secondX o_secondY o_x o_text_r  q78 hq78) (cwV 0 hts (ds_gV kw_615 kw_616 kw_617 kw_597 kw_618) rfl rfl rfl (by decide +kernel) ⟨Nat.le_of_ble_eq_true rfl, Nat.le_of_ble_eq_true rfl⟩) ⟨ds_blind, va_recv hK hP (ci := 7) (q0 := 0) rfl rfl, ds_at hP hD hK hE hS hA [0, 1] rfl rfl _⟩ rfl rfl hl.1 rfl (lv_room (Nat.le_of_ble_eq_true rfl)) dX8_token_78 ⟨Nat.zero_le _, Nat.zero_le _⟩) hP hD hS hA [0, 1] [] rfl rfl rfl (by decide) (fun H locs hP hD hS => ?_)
      have hP : va_P (dC, dI) vwCl [(h_o, .inr (7, [.ref h_o_plans, .ref h_o_makers, .ref h_o_halves, .int o_raised, .ref h_o_all, .ref h_o_text, .ref h_o_saved, .ref h_o_undone, .int o_undos, .int o_reached, .int o_length, .int o_begin, .int o_letters, .int o_sort, .long o_word, .int o_wrongAt, .int o_badAt, .int o_bad, .ref h_o_told, .ref h_o_shift, .int o_firstX, .int o_firstY, .int o_secondX, .int o_secondY, .ref h_o_rootOf, .ref h_o_becomes, .ref h_o_comes, .ref h_o_next, .int o_x])), (h_o_text, .inl (ca 2, 1000, .inl o_text_r))] H := hP
      have hD : va_D A [(h_o, .inr (7, [.ref h_o_plans, .ref h_o_makers, .ref h_o_halves, .int o_raised, .ref h_o_all, .ref h_o_text, .ref h_o_saved, .ref h_o_undone, .int o_undos, .int o_reached, .int o_length, .int o_begin, .int o_letters, .int o_sort, .long o_word, .int o_wrongAt, .int o_badAt, .int o_bad, .ref h_o_told, .ref h_o_shift, .int o_firstX, .int o_firstY, .int o_secondX, .int o_secondY, .ref h_o_rootOf, .ref h_o_becomes, .ref h_o_comes, .ref h_o_next, .int o_x])), (h_o_text, .inl (ca 2, 1000, .inl o_text_r))] := hD
      refine lv_bipush (v := 97) hx hb dX8_token_81 (by decide) ?_
      refine lv_bipush (v := 122) hx hb dX8_token_83 (by decide) ?_
      obtain ⟨q85, hq85, hf⟩ := ds_ob hf
      refine ds_calli (wr := [(h_o, .inr (7, [.ref h_o_plans, .ref h_o_makers, .ref h_o_halves, .int o_raised, .ref h_o_all, .ref h_o_text, .ref h_o_saved, .ref h_o_undone, .int o_undos, .int o_reached, .int o_length, .int o_begin, .int o_letters, .int o_sort, .long o_word, .int o_wrongAt, .int o_badAt, .int o_bad, .ref h_o_told, .ref h_o_shift, .int o_firstX, .int o_firstY, .int o_secondX, .int o_secondY, .ref h_o_rootOf, .ref h_o_becomes, .ref h_o_comes, .ref h_o_next, .int o_x])), (h_o_text, .inl (ca 2, 1000, .inl o_text_r))]) (va_runS (As := [.int q78, .int (97 : Int32), .int (122 : Int32)]) (rest := []) ⟨hx, hb, hml, hown, hts⟩ (c_X8_in l dC dI ca sa  H.size  q78 (97 : Int32) (122 : Int32) q85 hq85) (va_cwS 3 hts (ds_gS kw_619 kw_620 kw_597 kw_621) rfl rfl rfl (by decide +kernel) ⟨Nat.le_of_ble_eq_true rfl, Nat.le_of_ble_eq_true rfl⟩) ⟨ds_blind, ds_at hP hD hK hE hS hA [] rfl rfl _⟩ rfl rfl hl.1 rfl (lv_room (Nat.le_of_ble_eq_true rfl)) dX8_token_85 ⟨Nat.zero_le _, Nat.zero_le _⟩) hP hD hS hA [] [0, 1] rfl rfl rfl (by decide) (fun H locs hP hD hS => ?_)
      have hP : va_P (dC, dI) vwCl [(h_o, .inr (7, [.ref h_o_plans, .ref h_o_makers, .ref h_o_halves, .int o_raised, .ref h_o_all, .ref h_o_text, .ref h_o_saved, .ref h_o_undone, .int o_undos, .int o_reached, .int o_length, .int o_begin, .int o_letters, .int o_sort, .long o_word, .int o_wrongAt, .int o_badAt, .int o_bad, .ref h_o_told, .ref h_o_shift, .int o_firstX, .int o_firstY, .int o_secondX, .int o_secondY, .ref h_o_rootOf, .ref h_o_becomes, .ref h_o_comes, .ref h_o_next, .int o_x])), (h_o_text, .inl (ca 2, 1000, .inl o_text_r))] H := hP
      have hD : va_D A [(h_o, .inr (7, [.ref h_o_plans, .ref h_o_makers, .ref h_o_halves, .int o_raised, .ref h_o_all, .ref h_o_text, .ref h_o_saved, .ref h_o_undone, .int o_undos, .int o_reached, .int o_length, .int o_begin, .int o_letters, .int o_sort, .long o_word, .int o_wrongAt, .int o_badAt, .int o_bad, .ref h_o_told, .ref h_o_shift, .int o_firstX, .int o_firstY, .int o_secondX, .int o_secondY, .ref h_o_rootOf, .ref h_o_becomes, .ref h_o_comes, .ref h_o_next, .int o_x])), (h_o_text, .inl (ca 2, 1000, .inl o_text_r))] := hD
      refine lv_if_eq (tgt := 131) hx hb dX8_token_88 (by decide) (fun c_88 => ?_) (fun c_88 => ?_)
      · replace hf := ds_t c_88 hf
        obtain ⟨rr, hr_0, hf⟩ := ds_ob hf
        have hf := Option.some.inj hf
        subst hf
        rw [eG1] at hG
        replace hG : G0 rr := hG
        have hf := hr_0
        exact h1 (J_131 o_reached o_begin o_letters o_sort o_word _ hf hG _ _ hP hD hS _ (lv_sub hl [0] rfl))
      · replace hf := ds_f c_88 hf
        refine lv_aload_n hx hb dX8_token_91 rfl (lv_at hl 0 rfl) ?_
        refine lv_aload_n hx hb dX8_token_92 rfl (lv_at hl 0 rfl) ?_
        refine va_get (D := (dC, dI)) (ci := 7) (v := .long o_word) (C := RX8) (T := TX8) (N := 29) hx hb hts (fun w h => List.mem_cons_of_mem _ (kc_X8 w h)) hown hK hP 0 rfl rfl 14 (by decide) (hg kw_613) (fun _ h9 => h9) rfl dX8_token_93 ?_
        refine lv_bipush (v := 8) hx hb dX8_token_96 (by decide) ?_
        refine lv_lshl (v := (ds_lshl o_word (8 : Int32))) hx hb dX8_token_98 rfl ?_
        refine lv_aload_n hx hb dX8_token_99 rfl (lv_at hl 0 rfl) ?_
        obtain ⟨q100, hq100, hf⟩ := ds_ob hf
        refine ds_calli (wr := []) (va_runV (As := []) (rest := [.long (ds_lshl o_word (8 : Int32)), .ref h_o]) ⟨hx, hb, hml, hown, hts⟩ (c_X8_see l dC dI ca sa h_o h_o_plans h_o_makers h_o_halves h_o_all h_o_text h_o_saved h_o_undone h_o_told h_o_shift h_o_rootOf h_o_becomes h_o_comes h_o_next H.size o_raised o_undos o_reached o_length o_begin o_letters o_sort o_word o_wrongAt o_badAt o_bad o_firstX o_firstY o_secondX o_secondY o_x o_text_r  q100 hq100) (cwV 0 hts (ds_gV kw_615 kw_616 kw_617 kw_597 kw_618) rfl rfl rfl (by decide +kernel) ⟨Nat.le_of_ble_eq_true rfl, Nat.le_of_ble_eq_true rfl⟩) ⟨ds_blind, va_recv hK hP (ci := 7) (q0 := 0) rfl rfl, ds_at hP hD hK hE hS hA [0, 1] rfl rfl _⟩ rfl rfl hl.1 rfl (lv_room (Nat.le_of_ble_eq_true rfl)) dX8_token_100 ⟨Nat.zero_le _, Nat.zero_le _⟩) hP hD hS hA [0, 1] [] rfl rfl rfl (by decide) (fun H locs hP hD hS => ?_)
        have hP : va_P (dC, dI) vwCl [(h_o, .inr (7, [.ref h_o_plans, .ref h_o_makers, .ref h_o_halves, .int o_raised, .ref h_o_all, .ref h_o_text, .ref h_o_saved, .ref h_o_undone, .int o_undos, .int o_reached, .int o_length, .int o_begin, .int o_letters, .int o_sort, .long o_word, .int o_wrongAt, .int o_badAt, .int o_bad, .ref h_o_told, .ref h_o_shift, .int o_firstX, .int o_firstY, .int o_secondX, .int o_secondY, .ref h_o_rootOf, .ref h_o_becomes, .ref h_o_comes, .ref h_o_next, .int o_x])), (h_o_text, .inl (ca 2, 1000, .inl o_text_r))] H := hP
        have hD : va_D A [(h_o, .inr (7, [.ref h_o_plans, .ref h_o_makers, .ref h_o_halves, .int o_raised, .ref h_o_all, .ref h_o_text, .ref h_o_saved, .ref h_o_undone, .int o_undos, .int o_reached, .int o_length, .int o_begin, .int o_letters, .int o_sort, .long o_word, .int o_wrongAt, .int o_badAt, .int o_bad, .ref h_o_told, .ref h_o_shift, .int o_firstX, .int o_firstY, .int o_secondX, .int o_secondY, .ref h_o_rootOf, .ref h_o_becomes, .ref h_o_comes, .ref h_o_next, .int o_x])), (h_o_text, .inl (ca 2, 1000, .inl o_text_r))] := hD
        refine lv_i2l (v := q100.toInt64) hx hb dX8_token_103 rfl ?_
        refine lv_lor hx hb dX8_token_104 ?_
        obtain ⟨x105, hx_105, hf⟩ := ds_ob hf
        refine ds_nml hx_105 ?_
        refine va_put (D := (dC, dI)) (ci := 7) (v := .long x105) (ty := tyX8 14) (C := RX8) (T := TX8) (N := 29) hx hb hts (fun w h => List.mem_cons_of_mem _ (kc_X8 w h)) tyX8 tyX8_ok nmX8 hown hK hP hD hS 0 rfl rfl 14 (by decide) (hg kw_613) (fun _ h9 => h9) rfl (by decide +kernel) rfl rfl (Nat.le_of_ble_eq_true rfl) dX8_token_105 (fun H locs hP hD hS => ?_)
        have hP : va_P (dC, dI) vwCl [(h_o, .inr (7, [.ref h_o_plans, .ref h_o_makers, .ref h_o_halves, .int o_raised, .ref h_o_all, .ref h_o_text, .ref h_o_saved, .ref h_o_undone, .int o_undos, .int o_reached, .int o_length, .int o_begin, .int o_letters, .int o_sort, .long x105, .int o_wrongAt, .int o_badAt, .int o_bad, .ref h_o_told, .ref h_o_shift, .int o_firstX, .int o_firstY, .int o_secondX, .int o_secondY, .ref h_o_rootOf, .ref h_o_becomes, .ref h_o_comes, .ref h_o_next, .int o_x])), (h_o_text, .inl (ca 2, 1000, .inl o_text_r))] H := hP
        have hD : va_D A [(h_o, .inr (7, [.ref h_o_plans, .ref h_o_makers, .ref h_o_halves, .int o_raised, .ref h_o_all, .ref h_o_text, .ref h_o_saved, .ref h_o_undone, .int o_undos, .int o_reached, .int o_length, .int o_begin, .int o_letters, .int o_sort, .long x105, .int o_wrongAt, .int o_badAt, .int o_bad, .ref h_o_told, .ref h_o_shift, .int o_firstX, .int o_firstY, .int o_secondX, .int o_secondY, .ref h_o_rootOf, .ref h_o_becomes, .ref h_o_comes, .ref h_o_next, .int o_x])), (h_o_text, .inl (ca 2, 1000, .inl o_text_r))] := hD
        refine lv_aload_n hx hb dX8_token_108 rfl (lv_at hl 0 rfl) ?_
        refine lv_dup hx hb dX8_token_109 rfl ?_
        refine va_get (D := (dC, dI)) (ci := 7) (v := .int o_reached) (C := RX8) (T := TX8) (N := 29) hx hb hts (fun w h => List.mem_cons_of_mem _ (kc_X8 w h)) hown hK hP 0 rfl rfl 9 (by decide) (hg kw_610) (fun _ h9 => h9) rfl dX8_token_110 ?_
        refine lv_iconst (v := 1) hx hb dX8_token_113 (by decide) ?_
        refine lv_iadd hx hb dX8_token_114 ?_
        refine va_put (D := (dC, dI)) (ci := 7) (v := .int (o_reached + (1 : Int32))) (ty := tyX8 9) (C := RX8) (T := TX8) (N := 29) hx hb hts (fun w h => List.mem_cons_of_mem _ (kc_X8 w h)) tyX8 tyX8_ok nmX8 hown hK hP hD hS 0 rfl rfl 9 (by decide) (hg kw_610) (fun _ h9 => h9) rfl (by decide +kernel) rfl rfl (Nat.le_of_ble_eq_true rfl) dX8_token_115 (fun H locs hP hD hS => ?_)
        have hP : va_P (dC, dI) vwCl [(h_o, .inr (7, [.ref h_o_plans, .ref h_o_makers, .ref h_o_halves, .int o_raised, .ref h_o_all, .ref h_o_text, .ref h_o_saved, .ref h_o_undone, .int o_undos, .int (o_reached + (1 : Int32)), .int o_length, .int o_begin, .int o_letters, .int o_sort, .long x105, .int o_wrongAt, .int o_badAt, .int o_bad, .ref h_o_told, .ref h_o_shift, .int o_firstX, .int o_firstY, .int o_secondX, .int o_secondY, .ref h_o_rootOf, .ref h_o_becomes, .ref h_o_comes, .ref h_o_next, .int o_x])), (h_o_text, .inl (ca 2, 1000, .inl o_text_r))] H := hP
        have hD : va_D A [(h_o, .inr (7, [.ref h_o_plans, .ref h_o_makers, .ref h_o_halves, .int o_raised, .ref h_o_all, .ref h_o_text, .ref h_o_saved, .ref h_o_undone, .int o_undos, .int (o_reached + (1 : Int32)), .int o_length, .int o_begin, .int o_letters, .int o_sort, .long x105, .int o_wrongAt, .int o_badAt, .int o_bad, .ref h_o_told, .ref h_o_shift, .int o_firstX, .int o_firstY, .int o_secondX, .int o_secondY, .ref h_o_rootOf, .ref h_o_becomes, .ref h_o_comes, .ref h_o_next, .int o_x])), (h_o_text, .inl (ca 2, 1000, .inl o_text_r))] := hD
        refine lv_aload_n hx hb dX8_token_118 rfl (lv_at hl 0 rfl) ?_
        refine lv_dup hx hb dX8_token_119 rfl ?_
        refine va_get (D := (dC, dI)) (ci := 7) (v := .int o_letters) (C := RX8) (T := TX8) (N := 29) hx hb hts (fun w h => List.mem_cons_of_mem _ (kc_X8 w h)) hown hK hP 0 rfl rfl 12 (by decide) (hg kw_614) (fun _ h9 => h9) rfl dX8_token_120 ?_
        refine lv_iconst (v := 1) hx hb dX8_token_123 (by decide) ?_
        refine lv_iadd hx hb dX8_token_124 ?_
        refine va_put (D := (dC, dI)) (ci := 7) (v := .int (o_letters + (1 : Int32))) (ty := tyX8 12) (C := RX8) (T := TX8) (N := 29) hx hb hts (fun w h => List.mem_cons_of_mem _ (kc_X8 w h)) tyX8 tyX8_ok nmX8 hown hK hP hD hS 0 rfl rfl 12 (by decide) (hg kw_614) (fun _ h9 => h9) rfl (by decide +kernel) rfl rfl (Nat.le_of_ble_eq_true rfl) dX8_token_125 (fun H locs hP hD hS => ?_)
        have hP : va_P (dC, dI) vwCl [(h_o, .inr (7, [.ref h_o_plans, .ref h_o_makers, .ref h_o_halves, .int o_raised, .ref h_o_all, .ref h_o_text, .ref h_o_saved, .ref h_o_undone, .int o_undos, .int (o_reached + (1 : Int32)), .int o_length, .int o_begin, .int (o_letters + (1 : Int32)), .int o_sort, .long x105, .int o_wrongAt, .int o_badAt, .int o_bad, .ref h_o_told, .ref h_o_shift, .int o_firstX, .int o_firstY, .int o_secondX, .int o_secondY, .ref h_o_rootOf, .ref h_o_becomes, .ref h_o_comes, .ref h_o_next, .int o_x])), (h_o_text, .inl (ca 2, 1000, .inl o_text_r))] H := hP
        have hD : va_D A [(h_o, .inr (7, [.ref h_o_plans, .ref h_o_makers, .ref h_o_halves, .int o_raised, .ref h_o_all, .ref h_o_text, .ref h_o_saved, .ref h_o_undone, .int o_undos, .int (o_reached + (1 : Int32)), .int o_length, .int o_begin, .int (o_letters + (1 : Int32)), .int o_sort, .long x105, .int o_wrongAt, .int o_badAt, .int o_bad, .ref h_o_told, .ref h_o_shift, .int o_firstX, .int o_firstY, .int o_secondX, .int o_secondY, .ref h_o_rootOf, .ref h_o_becomes, .ref h_o_comes, .ref h_o_next, .int o_x])), (h_o_text, .inl (ca 2, 1000, .inl o_text_r))] := hD
        refine lv_goto (tgt := 77) hx hb dX8_token_128 (by decide) ?_
        have hf := Option.some.inj hf
        subst hf
        rw [eG1] at hG
        obtain ⟨rr, hf, hG⟩ := hG
        exact h1 (ih77 (o_reached + (1 : Int32)) (o_letters + (1 : Int32)) x105 rr hf hG _ _ hP hD hS _ (lv_sub hl [0] rfl))
  have J_31 : ∀ (o_reached : Int32) (o_begin : Int32) (o_letters : Int32) (o_sort : Int32) (o_word : Int64) (rr : Int32 × Int32 × Int32 × Int32 × Int64) (hf : fX8_token_31 o_reached o_length o_text_r = some rr) (hG : G0 rr) (H : Heap) (locs : List Loc) (hP : va_P (dC, dI) vwCl [(h_o, .inr (7, [.ref h_o_plans, .ref h_o_makers, .ref h_o_halves, .int o_raised, .ref h_o_all, .ref h_o_text, .ref h_o_saved, .ref h_o_undone, .int o_undos, .int o_reached, .int o_length, .int o_begin, .int o_letters, .int o_sort, .long o_word, .int o_wrongAt, .int o_badAt, .int o_bad, .ref h_o_told, .ref h_o_shift, .int o_firstX, .int o_firstY, .int o_secondX, .int o_secondY, .ref h_o_rootOf, .ref h_o_becomes, .ref h_o_comes, .ref h_o_next, .int o_x])), (h_o_text, .inl (ca 2, 1000, .inl o_text_r))] H) (hD : va_D A [(h_o, .inr (7, [.ref h_o_plans, .ref h_o_makers, .ref h_o_halves, .int o_raised, .ref h_o_all, .ref h_o_text, .ref h_o_saved, .ref h_o_undone, .int o_undos, .int o_reached, .int o_length, .int o_begin, .int o_letters, .int o_sort, .long o_word, .int o_wrongAt, .int o_badAt, .int o_bad, .ref h_o_told, .ref h_o_shift, .int o_firstX, .int o_firstY, .int o_secondX, .int o_secondY, .ref h_o_rootOf, .ref h_o_becomes, .ref h_o_comes, .ref h_o_next, .int o_x])), (h_o_text, .inl (ca 2, 1000, .inl o_text_r))]) (hS : va_S A s.heap H locs) (ls : Array Slot) (hl : lv_has ls 2 [(0, .ref h_o)]), WW H locs (F0 m 31 ls []) := by
    intro o_reached o_begin o_letters o_sort o_word rr hf hG H locs hP hD hS ls hl
    refine h2 ?_
    unfold fX8_token_31 at hf
    refine lv_aload_n hx hb dX8_token_31 rfl (lv_at hl 0 rfl) ?_
    refine lv_aload_n hx hb dX8_token_32 rfl (lv_at hl 0 rfl) ?_
    refine va_get (D := (dC, dI)) (ci := 7) (v := .int o_reached) (C := RX8) (T := TX8) (N := 29) hx hb hts (fun w h => List.mem_cons_of_mem _ (kc_X8 w h)) hown hK hP 0 rfl rfl 9 (by decide) (hg kw_610) (fun _ h9 => h9) rfl dX8_token_33 ?_
    refine va_put (D := (dC, dI)) (ci := 7) (v := .int o_reached) (ty := tyX8 11) (C := RX8) (T := TX8) (N := 29) hx hb hts (fun w h => List.mem_cons_of_mem _ (kc_X8 w h)) tyX8 tyX8_ok nmX8 hown hK hP hD hS 0 rfl rfl 11 (by decide) (hg kw_622) (fun _ h9 => h9) rfl (by decide +kernel) rfl rfl (Nat.le_of_ble_eq_true rfl) dX8_token_36 (fun H locs hP hD hS => ?_)
    have hP : va_P (dC, dI) vwCl [(h_o, .inr (7, [.ref h_o_plans, .ref h_o_makers, .ref h_o_halves, .int o_raised, .ref h_o_all, .ref h_o_text, .ref h_o_saved, .ref h_o_undone, .int o_undos, .int o_reached, .int o_length, .int o_reached, .int o_letters, .int o_sort, .long o_word, .int o_wrongAt, .int o_badAt, .int o_bad, .ref h_o_told, .ref h_o_shift, .int o_firstX, .int o_firstY, .int o_secondX, .int o_secondY, .ref h_o_rootOf, .ref h_o_becomes, .ref h_o_comes, .ref h_o_next, .int o_x])), (h_o_text, .inl (ca 2, 1000, .inl o_text_r))] H := hP
    have hD : va_D A [(h_o, .inr (7, [.ref h_o_plans, .ref h_o_makers, .ref h_o_halves, .int o_raised, .ref h_o_all, .ref h_o_text, .ref h_o_saved, .ref h_o_undone, .int o_undos, .int o_reached, .int o_length, .int o_reached, .int o_letters, .int o_sort, .long o_word, .int o_wrongAt, .int o_badAt, .int o_bad, .ref h_o_told, .ref h_o_shift, .int o_firstX, .int o_firstY, .int o_secondX, .int o_secondY, .ref h_o_rootOf, .ref h_o_becomes, .ref h_o_comes, .ref h_o_next, .int o_x])), (h_o_text, .inl (ca 2, 1000, .inl o_text_r))] := hD
    refine lv_aload_n hx hb dX8_token_39 rfl (lv_at hl 0 rfl) ?_
    obtain ⟨q40, hq40, hf⟩ := ds_ob hf
    refine ds_calli (wr := []) (va_runV (As := []) (rest := []) ⟨hx, hb, hml, hown, hts⟩ (c_X8_see l dC dI ca sa h_o h_o_plans h_o_makers h_o_halves h_o_all h_o_text h_o_saved h_o_undone h_o_told h_o_shift h_o_rootOf h_o_becomes h_o_comes h_o_next H.size o_raised o_undos o_reached o_length o_reached o_letters o_sort o_word o_wrongAt o_badAt o_bad o_firstX o_firstY o_secondX o_secondY o_x o_text_r  q40 hq40) (cwV 0 hts (ds_gV kw_615 kw_616 kw_617 kw_597 kw_618) rfl rfl rfl (by decide +kernel) ⟨Nat.le_of_ble_eq_true rfl, Nat.le_of_ble_eq_true rfl⟩) ⟨ds_blind, va_recv hK hP (ci := 7) (q0 := 0) rfl rfl, ds_at hP hD hK hE hS hA [0, 1] rfl rfl _⟩ rfl rfl hl.1 rfl (lv_room (Nat.le_of_ble_eq_true rfl)) dX8_token_40 ⟨Nat.zero_le _, Nat.zero_le _⟩) hP hD hS hA [0, 1] [] rfl rfl rfl (by decide) (fun H locs hP hD hS => ?_)
    have hP : va_P (dC, dI) vwCl [(h_o, .inr (7, [.ref h_o_plans, .ref h_o_makers, .ref h_o_halves, .int o_raised, .ref h_o_all, .ref h_o_text, .ref h_o_saved, .ref h_o_undone, .int o_undos, .int o_reached, .int o_length, .int o_reached, .int o_letters, .int o_sort, .long o_word, .int o_wrongAt, .int o_badAt, .int o_bad, .ref h_o_told, .ref h_o_shift, .int o_firstX, .int o_firstY, .int o_secondX, .int o_secondY, .ref h_o_rootOf, .ref h_o_becomes, .ref h_o_comes, .ref h_o_next, .int o_x])), (h_o_text, .inl (ca 2, 1000, .inl o_text_r))] H := hP
    have hD : va_D A [(h_o, .inr (7, [.ref h_o_plans, .ref h_o_makers, .ref h_o_halves, .int o_raised, .ref h_o_all, .ref h_o_text, .ref h_o_saved, .ref h_o_undone, .int o_undos, .int o_reached, .int o_length, .int o_reached, .int o_letters, .int o_sort, .long o_word, .int o_wrongAt, .int o_badAt, .int o_bad, .ref h_o_told, .ref h_o_shift, .int o_firstX, .int o_firstY, .int o_secondX, .int o_secondY, .ref h_o_rootOf, .ref h_o_becomes, .ref h_o_comes, .ref h_o_next, .int o_x])), (h_o_text, .inl (ca 2, 1000, .inl o_text_r))] := hD
    refine lv_istore_n (lv' := [(1, .int q40), (0, .ref h_o)]) hx hb dX8_token_43 rfl hl (by decide) rfl (fun ls hl => ?_)
    refine lv_aload_n hx hb dX8_token_44 rfl (lv_at hl 1 rfl) ?_
    refine lv_lconst (v := 0) hx hb dX8_token_45 (by decide) ?_
    refine va_put (D := (dC, dI)) (ci := 7) (v := .long (0 : Int64)) (ty := tyX8 14) (C := RX8) (T := TX8) (N := 29) hx hb hts (fun w h => List.mem_cons_of_mem _ (kc_X8 w h)) tyX8 tyX8_ok nmX8 hown hK hP hD hS 0 rfl rfl 14 (by decide) (hg kw_613) (fun _ h9 => h9) rfl (by decide +kernel) rfl rfl (Nat.le_of_ble_eq_true rfl) dX8_token_46 (fun H locs hP hD hS => ?_)
    have hP : va_P (dC, dI) vwCl [(h_o, .inr (7, [.ref h_o_plans, .ref h_o_makers, .ref h_o_halves, .int o_raised, .ref h_o_all, .ref h_o_text, .ref h_o_saved, .ref h_o_undone, .int o_undos, .int o_reached, .int o_length, .int o_reached, .int o_letters, .int o_sort, .long (0 : Int64), .int o_wrongAt, .int o_badAt, .int o_bad, .ref h_o_told, .ref h_o_shift, .int o_firstX, .int o_firstY, .int o_secondX, .int o_secondY, .ref h_o_rootOf, .ref h_o_becomes, .ref h_o_comes, .ref h_o_next, .int o_x])), (h_o_text, .inl (ca 2, 1000, .inl o_text_r))] H := hP
    have hD : va_D A [(h_o, .inr (7, [.ref h_o_plans, .ref h_o_makers, .ref h_o_halves, .int o_raised, .ref h_o_all, .ref h_o_text, .ref h_o_saved, .ref h_o_undone, .int o_undos, .int o_reached, .int o_length, .int o_reached, .int o_letters, .int o_sort, .long (0 : Int64), .int o_wrongAt, .int o_badAt, .int o_bad, .ref h_o_told, .ref h_o_shift, .int o_firstX, .int o_firstY, .int o_secondX, .int o_secondY, .ref h_o_rootOf, .ref h_o_becomes, .ref h_o_comes, .ref h_o_next, .int o_x])), (h_o_text, .inl (ca 2, 1000, .inl o_text_r))] := hD
    refine lv_aload_n hx hb dX8_token_49 rfl (lv_at hl 1 rfl) ?_
    refine lv_iconst (v := 0) hx hb dX8_token_50 (by decide) ?_
    refine va_put (D := (dC, dI)) (ci := 7) (v := .int (0 : Int32)) (ty := tyX8 12) (C := RX8) (T := TX8) (N := 29) hx hb hts (fun w h => List.mem_cons_of_mem _ (kc_X8 w h)) tyX8 tyX8_ok nmX8 hown hK hP hD hS 0 rfl rfl 12 (by decide) (hg kw_614) (fun _ h9 => h9) rfl (by decide +kernel) rfl rfl (Nat.le_of_ble_eq_true rfl) dX8_token_51 (fun H locs hP hD hS => ?_)
    have hP : va_P (dC, dI) vwCl [(h_o, .inr (7, [.ref h_o_plans, .ref h_o_makers, .ref h_o_halves, .int o_raised, .ref h_o_all, .ref h_o_text, .ref h_o_saved, .ref h_o_undone, .int o_undos, .int o_reached, .int o_length, .int o_reached, .int (0 : Int32), .int o_sort, .long (0 : Int64), .int o_wrongAt, .int o_badAt, .int o_bad, .ref h_o_told, .ref h_o_shift, .int o_firstX, .int o_firstY, .int o_secondX, .int o_secondY, .ref h_o_rootOf, .ref h_o_becomes, .ref h_o_comes, .ref h_o_next, .int o_x])), (h_o_text, .inl (ca 2, 1000, .inl o_text_r))] H := hP
    have hD : va_D A [(h_o, .inr (7, [.ref h_o_plans, .ref h_o_makers, .ref h_o_halves, .int o_raised, .ref h_o_all, .ref h_o_text, .ref h_o_saved, .ref h_o_undone, .int o_undos, .int o_reached, .int o_length, .int o_reached, .int (0 : Int32), .int o_sort, .long (0 : Int64), .int o_wrongAt, .int o_badAt, .int o_bad, .ref h_o_told, .ref h_o_shift, .int o_firstX, .int o_firstY, .int o_secondX, .int o_secondY, .ref h_o_rootOf, .ref h_o_becomes, .ref h_o_comes, .ref h_o_next, .int o_x])), (h_o_text, .inl (ca 2, 1000, .inl o_text_r))] := hD
    refine lv_iload_n hx hb dX8_token_54 rfl (lv_at hl 0 rfl) ?_
    refine lv_if_ge (tgt := 66) hx hb dX8_token_55 (by decide) (fun c_55 => ?_) (fun c_55 => ?_)
    · replace hf := ds_t c_55 hf
      refine lv_iload_n hx hb dX8_token_66 rfl (lv_at hl 0 rfl) ?_
      refine lv_bipush (v := 97) hx hb dX8_token_67 (by decide) ?_
      refine lv_bipush (v := 122) hx hb dX8_token_69 (by decide) ?_
      obtain ⟨q71, hq71, hf⟩ := ds_ob hf
      refine ds_calli (wr := [(h_o, .inr (7, [.ref h_o_plans, .ref h_o_makers, .ref h_o_halves, .int o_raised, .ref h_o_all, .ref h_o_text, .ref h_o_saved, .ref h_o_undone, .int o_undos, .int o_reached, .int o_length, .int o_reached, .int (0 : Int32), .int o_sort, .long (0 : Int64), .int o_wrongAt, .int o_badAt, .int o_bad, .ref h_o_told, .ref h_o_shift, .int o_firstX, .int o_firstY, .int o_secondX, .int o_secondY, .ref h_o_rootOf, .ref h_o_becomes, .ref h_o_comes, .ref h_o_next, .int o_x])), (h_o_text, .inl (ca 2, 1000, .inl o_text_r))]) (va_runS (As := [.int q40, .int (97 : Int32), .int (122 : Int32)]) (rest := []) ⟨hx, hb, hml, hown, hts⟩ (c_X8_in l dC dI ca sa  H.size  q40 (97 : Int32) (122 : Int32) q71 hq71) (va_cwS 3 hts (ds_gS kw_619 kw_620 kw_597 kw_621) rfl rfl rfl (by decide +kernel) ⟨Nat.le_of_ble_eq_true rfl, Nat.le_of_ble_eq_true rfl⟩) ⟨ds_blind, ds_at hP hD hK hE hS hA [] rfl rfl _⟩ rfl rfl hl.1 rfl (lv_room (Nat.le_of_ble_eq_true rfl)) dX8_token_71 ⟨Nat.zero_le _, Nat.zero_le _⟩) hP hD hS hA [] [0, 1] rfl rfl rfl (by decide) (fun H locs hP hD hS => ?_)
      have hP : va_P (dC, dI) vwCl [(h_o, .inr (7, [.ref h_o_plans, .ref h_o_makers, .ref h_o_halves, .int o_raised, .ref h_o_all, .ref h_o_text, .ref h_o_saved, .ref h_o_undone, .int o_undos, .int o_reached, .int o_length, .int o_reached, .int (0 : Int32), .int o_sort, .long (0 : Int64), .int o_wrongAt, .int o_badAt, .int o_bad, .ref h_o_told, .ref h_o_shift, .int o_firstX, .int o_firstY, .int o_secondX, .int o_secondY, .ref h_o_rootOf, .ref h_o_becomes, .ref h_o_comes, .ref h_o_next, .int o_x])), (h_o_text, .inl (ca 2, 1000, .inl o_text_r))] H := hP
      have hD : va_D A [(h_o, .inr (7, [.ref h_o_plans, .ref h_o_makers, .ref h_o_halves, .int o_raised, .ref h_o_all, .ref h_o_text, .ref h_o_saved, .ref h_o_undone, .int o_undos, .int o_reached, .int o_length, .int o_reached, .int (0 : Int32), .int o_sort, .long (0 : Int64), .int o_wrongAt, .int o_badAt, .int o_bad, .ref h_o_told, .ref h_o_shift, .int o_firstX, .int o_firstY, .int o_secondX, .int o_secondY, .ref h_o_rootOf, .ref h_o_becomes, .ref h_o_comes, .ref h_o_next, .int o_x])), (h_o_text, .inl (ca 2, 1000, .inl o_text_r))] := hD
      refine lv_if_eq (tgt := 160) hx hb dX8_token_74 (by decide) (fun c_74 => ?_) (fun c_74 => ?_)
      · replace hf := ds_t c_74 hf
        refine lv_aload_n hx hb dX8_token_160 rfl (lv_at hl 1 rfl) ?_
        refine lv_dup hx hb dX8_token_161 rfl ?_
        refine va_get (D := (dC, dI)) (ci := 7) (v := .int o_reached) (C := RX8) (T := TX8) (N := 29) hx hb hts (fun w h => List.mem_cons_of_mem _ (kc_X8 w h)) hown hK hP 0 rfl rfl 9 (by decide) (hg kw_610) (fun _ h9 => h9) rfl dX8_token_162 ?_
        refine lv_iconst (v := 1) hx hb dX8_token_165 (by decide) ?_
        refine lv_iadd hx hb dX8_token_166 ?_
        refine va_put (D := (dC, dI)) (ci := 7) (v := .int (o_reached + (1 : Int32))) (ty := tyX8 9) (C := RX8) (T := TX8) (N := 29) hx hb hts (fun w h => List.mem_cons_of_mem _ (kc_X8 w h)) tyX8 tyX8_ok nmX8 hown hK hP hD hS 0 rfl rfl 9 (by decide) (hg kw_610) (fun _ h9 => h9) rfl (by decide +kernel) rfl rfl (Nat.le_of_ble_eq_true rfl) dX8_token_167 (fun H locs hP hD hS => ?_)
        have hP : va_P (dC, dI) vwCl [(h_o, .inr (7, [.ref h_o_plans, .ref h_o_makers, .ref h_o_halves, .int o_raised, .ref h_o_all, .ref h_o_text, .ref h_o_saved, .ref h_o_undone, .int o_undos, .int (o_reached + (1 : Int32)), .int o_length, .int o_reached, .int (0 : Int32), .int o_sort, .long (0 : Int64), .int o_wrongAt, .int o_badAt, .int o_bad, .ref h_o_told, .ref h_o_shift, .int o_firstX, .int o_firstY, .int o_secondX, .int o_secondY, .ref h_o_rootOf, .ref h_o_becomes, .ref h_o_comes, .ref h_o_next, .int o_x])), (h_o_text, .inl (ca 2, 1000, .inl o_text_r))] H := hP
        have hD : va_D A [(h_o, .inr (7, [.ref h_o_plans, .ref h_o_makers, .ref h_o_halves, .int o_raised, .ref h_o_all, .ref h_o_text, .ref h_o_saved, .ref h_o_undone, .int o_undos, .int (o_reached + (1 : Int32)), .int o_length, .int o_reached, .int (0 : Int32), .int o_sort, .long (0 : Int64), .int o_wrongAt, .int o_badAt, .int o_bad, .ref h_o_told, .ref h_o_shift, .int o_firstX, .int o_firstY, .int o_secondX, .int o_secondY, .ref h_o_rootOf, .ref h_o_becomes, .ref h_o_comes, .ref h_o_next, .int o_x])), (h_o_text, .inl (ca 2, 1000, .inl o_text_r))] := hD
        refine lv_aload_n hx hb dX8_token_170 rfl (lv_at hl 1 rfl) ?_
        refine lv_iload_n hx hb dX8_token_171 rfl (lv_at hl 0 rfl) ?_
        refine lv_bipush (v := 59) hx hb dX8_token_172 (by decide) ?_
        refine lv_icmp_ne (tgt := 181) hx hb dX8_token_174 (by decide) (fun c_174 => ?_) (fun c_174 => ?_)
        · replace hf := ds_f c_174 hf
          refine lv_iconst (v := 1) hx hb dX8_token_181 (by decide) ?_
          exact h1 (J_182 (1 : Int32) (o_reached + (1 : Int32)) o_reached (0 : Int32) o_sort (0 : Int64) _ hf hG _ _ hP hD hS _ (lv_sub hl [] rfl))
        · replace hf := ds_t c_174 hf
          refine lv_iconst (v := 3) hx hb dX8_token_177 (by decide) ?_
          refine lv_goto (tgt := 182) hx hb dX8_token_178 (by decide) ?_
          exact h1 (J_182 (3 : Int32) (o_reached + (1 : Int32)) o_reached (0 : Int32) o_sort (0 : Int64) _ hf hG _ _ hP hD hS _ (lv_sub hl [] rfl))
      · replace hf := ds_f c_74 hf
        exact h1 (J_77 o_reached o_sort 1000 o_reached (0 : Int32) (0 : Int64) _ hf hG _ _ hP hD hS _ (lv_sub hl [1] rfl))
    · replace hf := ds_f c_55 hf
      refine lv_aload_n hx hb dX8_token_58 rfl (lv_at hl 1 rfl) ?_
      refine lv_iconst (v := 0) hx hb dX8_token_59 (by decide) ?_
      refine va_put (D := (dC, dI)) (ci := 7) (v := .int (0 : Int32)) (ty := tyX8 13) (C := RX8) (T := TX8) (N := 29) hx hb hts (fun w h => List.mem_cons_of_mem _ (kc_X8 w h)) tyX8 tyX8_ok nmX8 hown hK hP hD hS 0 rfl rfl 13 (by decide) (hg kw_612) (fun _ h9 => h9) rfl (by decide +kernel) rfl rfl (Nat.le_of_ble_eq_true rfl) dX8_token_60 (fun H locs hP hD hS => ?_)
      have hP : va_P (dC, dI) vwCl [(h_o, .inr (7, [.ref h_o_plans, .ref h_o_makers, .ref h_o_halves, .int o_raised, .ref h_o_all, .ref h_o_text, .ref h_o_saved, .ref h_o_undone, .int o_undos, .int o_reached, .int o_length, .int o_reached, .int (0 : Int32), .int (0 : Int32), .long (0 : Int64), .int o_wrongAt, .int o_badAt, .int o_bad, .ref h_o_told, .ref h_o_shift, .int o_firstX, .int o_firstY, .int o_secondX, .int o_secondY, .ref h_o_rootOf, .ref h_o_becomes, .ref h_o_comes, .ref h_o_next, .int o_x])), (h_o_text, .inl (ca 2, 1000, .inl o_text_r))] H := hP
      have hD : va_D A [(h_o, .inr (7, [.ref h_o_plans, .ref h_o_makers, .ref h_o_halves, .int o_raised, .ref h_o_all, .ref h_o_text, .ref h_o_saved, .ref h_o_undone, .int o_undos, .int o_reached, .int o_length, .int o_reached, .int (0 : Int32), .int (0 : Int32), .long (0 : Int64), .int o_wrongAt, .int o_badAt, .int o_bad, .ref h_o_told, .ref h_o_shift, .int o_firstX, .int o_firstY, .int o_secondX, .int o_secondY, .ref h_o_rootOf, .ref h_o_becomes, .ref h_o_comes, .ref h_o_next, .int o_x])), (h_o_text, .inl (ca 2, 1000, .inl o_text_r))] := hD
      refine lv_goto (tgt := 185) hx hb dX8_token_63 (by decide) ?_
      have hf := Option.some.inj hf
      subst hf
      rw [eG0] at hG
      have hG : _ = res := hG
      subst hG
      exact W.vret hx hb hr (fun t ht hW => ⟨⟨(), rfl, trivial, by rw [ht]; exact hP, hD⟩, hS.F ht⟩) hS.2.2 dX8_token_185
  have J_0 : ∀ (o_begin : Int32) (o_letters : Int32) (o_sort : Int32) (o_word : Int64) (n : Nat) (o_reached : Int32) (rr : Int32 × Int32 × Int32 × Int32 × Int64) (hf : ds_it (fun s => fX8_token_0_b o_length o_text_r s) n o_reached = some rr) (hG : G0 rr) (H : Heap) (locs : List Loc) (hP : va_P (dC, dI) vwCl [(h_o, .inr (7, [.ref h_o_plans, .ref h_o_makers, .ref h_o_halves, .int o_raised, .ref h_o_all, .ref h_o_text, .ref h_o_saved, .ref h_o_undone, .int o_undos, .int o_reached, .int o_length, .int o_begin, .int o_letters, .int o_sort, .long o_word, .int o_wrongAt, .int o_badAt, .int o_bad, .ref h_o_told, .ref h_o_shift, .int o_firstX, .int o_firstY, .int o_secondX, .int o_secondY, .ref h_o_rootOf, .ref h_o_becomes, .ref h_o_comes, .ref h_o_next, .int o_x])), (h_o_text, .inl (ca 2, 1000, .inl o_text_r))] H) (hD : va_D A [(h_o, .inr (7, [.ref h_o_plans, .ref h_o_makers, .ref h_o_halves, .int o_raised, .ref h_o_all, .ref h_o_text, .ref h_o_saved, .ref h_o_undone, .int o_undos, .int o_reached, .int o_length, .int o_begin, .int o_letters, .int o_sort, .long o_word, .int o_wrongAt, .int o_badAt, .int o_bad, .ref h_o_told, .ref h_o_shift, .int o_firstX, .int o_firstY, .int o_secondX, .int o_secondY, .ref h_o_rootOf, .ref h_o_becomes, .ref h_o_comes, .ref h_o_next, .int o_x])), (h_o_text, .inl (ca 2, 1000, .inl o_text_r))]) (hS : va_S A s.heap H locs) (ls : Array Slot) (hl : lv_has ls 2 [(0, .ref h_o)]), WW H locs (F0 m 0 ls []) := by
    intro o_begin o_letters o_sort o_word n
    induction n with
    | zero => intro o_reached rr hf; exact (ds_it_zero hf).elim
    | succ n ih0 =>
      intro o_reached rr hf hG H locs hP hD hS ls hl
      refine h2 ?_
      obtain ⟨rr, hf, hG⟩ := ds_it_succ hf hG
      replace hf : fX8_token_0_b o_length o_text_r o_reached = some rr := hf
      obtain ⟨G1, eG1⟩ : ∃ G : ((Int32) ⊕ (Int32 × Int32 × Int32 × Int32 × Int64)) → Prop, G = ds_G (fun s' => ∃ r', ds_it (fun s => fX8_token_0_b o_length o_text_r s) n s' = some r' ∧ G0 r') G0 := ⟨_, rfl⟩
      rw [← eG1] at hG
      have J_18 : ∀ (o_reached : Int32) (rr : (Int32) ⊕ (Int32 × Int32 × Int32 × Int32 × Int64)) (hf : fX8_token_18 o_reached = some rr) (hG : G1 rr) (H : Heap) (locs : List Loc) (hP : va_P (dC, dI) vwCl [(h_o, .inr (7, [.ref h_o_plans, .ref h_o_makers, .ref h_o_halves, .int o_raised, .ref h_o_all, .ref h_o_text, .ref h_o_saved, .ref h_o_undone, .int o_undos, .int o_reached, .int o_length, .int o_begin, .int o_letters, .int o_sort, .long o_word, .int o_wrongAt, .int o_badAt, .int o_bad, .ref h_o_told, .ref h_o_shift, .int o_firstX, .int o_firstY, .int o_secondX, .int o_secondY, .ref h_o_rootOf, .ref h_o_becomes, .ref h_o_comes, .ref h_o_next, .int o_x])), (h_o_text, .inl (ca 2, 1000, .inl o_text_r))] H) (hD : va_D A [(h_o, .inr (7, [.ref h_o_plans, .ref h_o_makers, .ref h_o_halves, .int o_raised, .ref h_o_all, .ref h_o_text, .ref h_o_saved, .ref h_o_undone, .int o_undos, .int o_reached, .int o_length, .int o_begin, .int o_letters, .int o_sort, .long o_word, .int o_wrongAt, .int o_badAt, .int o_bad, .ref h_o_told, .ref h_o_shift, .int o_firstX, .int o_firstY, .int o_secondX, .int o_secondY, .ref h_o_rootOf, .ref h_o_becomes, .ref h_o_comes, .ref h_o_next, .int o_x])), (h_o_text, .inl (ca 2, 1000, .inl o_text_r))]) (hS : va_S A s.heap H locs) (ls : Array Slot) (hl : lv_has ls 2 [(0, .ref h_o)]), WW H locs (F0 m 18 ls []) := by
        intro o_reached rr hf hG H locs hP hD hS ls hl
        refine h2 ?_
        unfold fX8_token_18 at hf
        refine lv_aload_n hx hb dX8_token_18 rfl (lv_at hl 0 rfl) ?_
        refine lv_dup hx hb dX8_token_19 rfl ?_
        refine va_get (D := (dC, dI)) (ci := 7) (v := .int o_reached) (C := RX8) (T := TX8) (N := 29) hx hb hts (fun w h => List.mem_cons_of_mem _ (kc_X8 w h)) hown hK hP 0 rfl rfl 9 (by decide) (hg kw_610) (fun _ h9 => h9) rfl dX8_token_20 ?_
        refine lv_iconst (v := 1) hx hb dX8_token_23 (by decide) ?_
        refine lv_iadd hx hb dX8_token_24 ?_
        refine va_put (D := (dC, dI)) (ci := 7) (v := .int (o_reached + (1 : Int32))) (ty := tyX8 9) (C := RX8) (T := TX8) (N := 29) hx hb hts (fun w h => List.mem_cons_of_mem _ (kc_X8 w h)) tyX8 tyX8_ok nmX8 hown hK hP hD hS 0 rfl rfl 9 (by decide) (hg kw_610) (fun _ h9 => h9) rfl (by decide +kernel) rfl rfl (Nat.le_of_ble_eq_true rfl) dX8_token_25 (fun H locs hP hD hS => ?_)
        have hP : va_P (dC, dI) vwCl [(h_o, .inr (7, [.ref h_o_plans, .ref h_o_makers, .ref h_o_halves, .int o_raised, .ref h_o_all, .ref h_o_text, .ref h_o_saved, .ref h_o_undone, .int o_undos, .int (o_reached + (1 : Int32)), .int o_length, .int o_begin, .int o_letters, .int o_sort, .long o_word, .int o_wrongAt, .int o_badAt, .int o_bad, .ref h_o_told, .ref h_o_shift, .int o_firstX, .int o_firstY, .int o_secondX, .int o_secondY, .ref h_o_rootOf, .ref h_o_becomes, .ref h_o_comes, .ref h_o_next, .int o_x])), (h_o_text, .inl (ca 2, 1000, .inl o_text_r))] H := hP
        have hD : va_D A [(h_o, .inr (7, [.ref h_o_plans, .ref h_o_makers, .ref h_o_halves, .int o_raised, .ref h_o_all, .ref h_o_text, .ref h_o_saved, .ref h_o_undone, .int o_undos, .int (o_reached + (1 : Int32)), .int o_length, .int o_begin, .int o_letters, .int o_sort, .long o_word, .int o_wrongAt, .int o_badAt, .int o_bad, .ref h_o_told, .ref h_o_shift, .int o_firstX, .int o_firstY, .int o_secondX, .int o_secondY, .ref h_o_rootOf, .ref h_o_becomes, .ref h_o_comes, .ref h_o_next, .int o_x])), (h_o_text, .inl (ca 2, 1000, .inl o_text_r))] := hD
        refine lv_goto (tgt := 0) hx hb dX8_token_28 (by decide) ?_
        have hf := Option.some.inj hf
        subst hf
        rw [eG1] at hG
        obtain ⟨rr, hf, hG⟩ := hG
        exact h1 (ih0 (o_reached + (1 : Int32)) rr hf hG _ _ hP hD hS _ (lv_sub hl [0] rfl))
      unfold fX8_token_0_b at hf
      refine lv_aload_n hx hb dX8_token_0 rfl (lv_at hl 0 rfl) ?_
      obtain ⟨q1, hq1, hf⟩ := ds_ob hf
      refine ds_calli (wr := []) (va_runV (As := []) (rest := []) ⟨hx, hb, hml, hown, hts⟩ (c_X8_see l dC dI ca sa h_o h_o_plans h_o_makers h_o_halves h_o_all h_o_text h_o_saved h_o_undone h_o_told h_o_shift h_o_rootOf h_o_becomes h_o_comes h_o_next H.size o_raised o_undos o_reached o_length o_begin o_letters o_sort o_word o_wrongAt o_badAt o_bad o_firstX o_firstY o_secondX o_secondY o_x o_text_r  q1 hq1) (cwV 0 hts (ds_gV kw_615 kw_616 kw_617 kw_597 kw_618) rfl rfl rfl (by decide +kernel) ⟨Nat.le_of_ble_eq_true rfl, Nat.le_of_ble_eq_true rfl⟩) ⟨ds_blind, va_recv hK hP (ci := 7) (q0 := 0) rfl rfl, ds_at hP hD hK hE hS hA [0, 1] rfl rfl _⟩ rfl rfl hl.1 rfl (lv_room (Nat.le_of_ble_eq_true rfl)) dX8_token_1 ⟨Nat.zero_le _, Nat.zero_le _⟩) hP hD hS hA [0, 1] [] rfl rfl rfl (by decide) (fun H locs hP hD hS => ?_)
      have hP : va_P (dC, dI) vwCl [(h_o, .inr (7, [.ref h_o_plans, .ref h_o_makers, .ref h_o_halves, .int o_raised, .ref h_o_all, .ref h_o_text, .ref h_o_saved, .ref h_o_undone, .int o_undos, .int o_reached, .int o_length, .int o_begin, .int o_letters, .int o_sort, .long o_word, .int o_wrongAt, .int o_badAt, .int o_bad, .ref h_o_told, .ref h_o_shift, .int o_firstX, .int o_firstY, .int o_secondX, .int o_secondY, .ref h_o_rootOf, .ref h_o_becomes, .ref h_o_comes, .ref h_o_next, .int o_x])), (h_o_text, .inl (ca 2, 1000, .inl o_text_r))] H := hP
      have hD : va_D A [(h_o, .inr (7, [.ref h_o_plans, .ref h_o_makers, .ref h_o_halves, .int o_raised, .ref h_o_all, .ref h_o_text, .ref h_o_saved, .ref h_o_undone, .int o_undos, .int o_reached, .int o_length, .int o_begin, .int o_letters, .int o_sort, .long o_word, .int o_wrongAt, .int o_badAt, .int o_bad, .ref h_o_told, .ref h_o_shift, .int o_firstX, .int o_firstY, .int o_secondX, .int o_secondY, .ref h_o_rootOf, .ref h_o_becomes, .ref h_o_comes, .ref h_o_next, .int o_x])), (h_o_text, .inl (ca 2, 1000, .inl o_text_r))] := hD
      refine lv_bipush (v := 10) hx hb dX8_token_4 (by decide) ?_
      refine lv_icmp_eq (tgt := 18) hx hb dX8_token_6 (by decide) (fun c_6 => ?_) (fun c_6 => ?_)
      · replace hf := ds_t c_6 hf
        exact h1 (J_18 o_reached _ hf hG _ _ hP hD hS _ (lv_sub hl [0] rfl))
      · replace hf := ds_f c_6 hf
        refine lv_aload_n hx hb dX8_token_9 rfl (lv_at hl 0 rfl) ?_
        obtain ⟨q10, hq10, hf⟩ := ds_ob hf
        refine ds_calli (wr := []) (va_runV (As := []) (rest := []) ⟨hx, hb, hml, hown, hts⟩ (c_X8_see l dC dI ca sa h_o h_o_plans h_o_makers h_o_halves h_o_all h_o_text h_o_saved h_o_undone h_o_told h_o_shift h_o_rootOf h_o_becomes h_o_comes h_o_next H.size o_raised o_undos o_reached o_length o_begin o_letters o_sort o_word o_wrongAt o_badAt o_bad o_firstX o_firstY o_secondX o_secondY o_x o_text_r  q10 hq10) (cwV 0 hts (ds_gV kw_615 kw_616 kw_617 kw_597 kw_618) rfl rfl rfl (by decide +kernel) ⟨Nat.le_of_ble_eq_true rfl, Nat.le_of_ble_eq_true rfl⟩) ⟨ds_blind, va_recv hK hP (ci := 7) (q0 := 0) rfl rfl, ds_at hP hD hK hE hS hA [0, 1] rfl rfl _⟩ rfl rfl hl.1 rfl (lv_room (Nat.le_of_ble_eq_true rfl)) dX8_token_10 ⟨Nat.zero_le _, Nat.zero_le _⟩) hP hD hS hA [0, 1] [] rfl rfl rfl (by decide) (fun H locs hP hD hS => ?_)
        have hP : va_P (dC, dI) vwCl [(h_o, .inr (7, [.ref h_o_plans, .ref h_o_makers, .ref h_o_halves, .int o_raised, .ref h_o_all, .ref h_o_text, .ref h_o_saved, .ref h_o_undone, .int o_undos, .int o_reached, .int o_length, .int o_begin, .int o_letters, .int o_sort, .long o_word, .int o_wrongAt, .int o_badAt, .int o_bad, .ref h_o_told, .ref h_o_shift, .int o_firstX, .int o_firstY, .int o_secondX, .int o_secondY, .ref h_o_rootOf, .ref h_o_becomes, .ref h_o_comes, .ref h_o_next, .int o_x])), (h_o_text, .inl (ca 2, 1000, .inl o_text_r))] H := hP
        have hD : va_D A [(h_o, .inr (7, [.ref h_o_plans, .ref h_o_makers, .ref h_o_halves, .int o_raised, .ref h_o_all, .ref h_o_text, .ref h_o_saved, .ref h_o_undone, .int o_undos, .int o_reached, .int o_length, .int o_begin, .int o_letters, .int o_sort, .long o_word, .int o_wrongAt, .int o_badAt, .int o_bad, .ref h_o_told, .ref h_o_shift, .int o_firstX, .int o_firstY, .int o_secondX, .int o_secondY, .ref h_o_rootOf, .ref h_o_becomes, .ref h_o_comes, .ref h_o_next, .int o_x])), (h_o_text, .inl (ca 2, 1000, .inl o_text_r))] := hD
        refine lv_bipush (v := 32) hx hb dX8_token_13 (by decide) ?_
        refine lv_icmp_ne (tgt := 31) hx hb dX8_token_15 (by decide) (fun c_15 => ?_) (fun c_15 => ?_)
        · replace hf := ds_f c_15 hf
          obtain ⟨rr, hr_0, hf⟩ := ds_ob hf
          have hf := Option.some.inj hf
          subst hf
          rw [eG1] at hG
          replace hG : G0 rr := hG
          have hf := hr_0
          exact h1 (J_31 o_reached o_begin o_letters o_sort o_word _ hf hG _ _ hP hD hS _ (lv_sub hl [0] rfl))
        · replace hf := ds_t c_15 hf
          exact h1 (J_18 o_reached _ hf hG _ _ hP hD hS _ (lv_sub hl [0] rfl))
  unfold fX8_token at hf
  exact h1 (J_0 o_begin o_letters o_sort o_word 1000 o_reached _ hf hG _ _ hP hD hS _ (lv_sub hl [0] rfl))
theorem dX8_fails_0 : decode cX8_fails 0 = .ok (.aload_n 0, 1) := by decide +kernel
theorem dX8_fails_1 : decode cX8_fails 1 = .ok (.aload_n 0, 1) := by decide +kernel
theorem dX8_fails_2 : decode cX8_fails 2 = .ok (.getfield 77, 3) := by decide +kernel
theorem dX8_fails_5 : decode cX8_fails 5 = .ok (.putfield 94, 3) := by decide +kernel
theorem dX8_fails_8 : decode cX8_fails 8 = .ok (.iconst 0, 1) := by decide +kernel
theorem dX8_fails_9 : decode cX8_fails 9 = .ok (.ireturn, 1) := by decide +kernel
def fX8_fails (o_begin : Int32) : Option (Int32 × Int32) :=
  some ((0 : Int32), o_begin)
set_option maxHeartbeats 4000000 in
set_option maxRecDepth 100000 in
theorem c_X8_fails (l : Launch) (dC : Nat → ClassId) (dI : Nat → Nat → Nat) (ca : Nat → ClassId) (sa : Nat → Nat) (h_o : Nat) (h_o_plans : Nat) (h_o_makers : Nat) (h_o_halves : Nat) (h_o_all : Nat) (h_o_text : Nat) (h_o_saved : Nat) (h_o_undone : Nat) (h_o_told : Nat) (h_o_shift : Nat) (h_o_rootOf : Nat) (h_o_becomes : Nat) (h_o_comes : Nat) (h_o_next : Nat) (sz : Nat) (o_raised : Int32) (o_undos : Int32) (o_reached : Int32) (o_length : Int32) (o_begin : Int32) (o_letters : Int32) (o_sort : Int32) (o_word : Int64) (o_wrongAt : Int32) (o_badAt : Int32) (o_bad : Int32) (o_firstX : Int32) (o_firstY : Int32) (o_secondX : Int32) (o_secondY : Int32) (o_x : Int32) (res : Int32 × Int32) (hf : fX8_fails o_begin = some res) : Met l yX8_fails (Cond.code yX8_fails cX8_fails 1 (some .boolean) :: ds_gw) { frames := 0, cells := 0, slots := 0, locals := 0 } (va_Pc [.ref h_o] (ds_Pre dC dI ca sa [(h_o, .inr (7, [.ref h_o_plans, .ref h_o_makers, .ref h_o_halves, .int o_raised, .ref h_o_all, .ref h_o_text, .ref h_o_saved, .ref h_o_undone, .int o_undos, .int o_reached, .int o_length, .int o_begin, .int o_letters, .int o_sort, .long o_word, .int o_wrongAt, .int o_badAt, .int o_bad, .ref h_o_told, .ref h_o_shift, .int o_firstX, .int o_firstY, .int o_secondX, .int o_secondY, .ref h_o_rootOf, .ref h_o_becomes, .ref h_o_comes, .ref h_o_next, .int o_x]))] sz)) (va_Qi (fun r (_ : Unit) => r = res.1) (ds_B dC dI (va_A [(h_o, .inr (7, [.ref h_o_plans, .ref h_o_makers, .ref h_o_halves, .int o_raised, .ref h_o_all, .ref h_o_text, .ref h_o_saved, .ref h_o_undone, .int o_undos, .int o_reached, .int o_length, .int o_begin, .int o_letters, .int o_sort, .long o_word, .int o_wrongAt, .int o_badAt, .int o_bad, .ref h_o_told, .ref h_o_shift, .int o_firstX, .int o_firstY, .int o_secondX, .int o_secondY, .ref h_o_rootOf, .ref h_o_becomes, .ref h_o_comes, .ref h_o_next, .int o_x]))] sz) [(h_o, .inr (7, [.ref h_o_plans, .ref h_o_makers, .ref h_o_halves, .int o_raised, .ref h_o_all, .ref h_o_text, .ref h_o_saved, .ref h_o_undone, .int o_undos, .int o_reached, .int o_length, .int o_begin, .int o_letters, .int o_sort, .long o_word, .int res.2, .int o_badAt, .int o_bad, .ref h_o_told, .ref h_o_shift, .int o_firstX, .int o_firstY, .int o_secondX, .int o_secondY, .ref h_o_rootOf, .ref h_o_becomes, .ref h_o_comes, .ref h_o_next, .int o_x]))]) (va_A [(h_o, .inr (7, [.ref h_o_plans, .ref h_o_makers, .ref h_o_halves, .int o_raised, .ref h_o_all, .ref h_o_text, .ref h_o_saved, .ref h_o_undone, .int o_undos, .int o_reached, .int o_length, .int o_begin, .int o_letters, .int o_sort, .long o_word, .int o_wrongAt, .int o_badAt, .int o_bad, .ref h_o_told, .ref h_o_shift, .int o_firstX, .int o_firstY, .int o_secondX, .int o_secondY, .ref h_o_rootOf, .ref h_o_becomes, .ref h_o_comes, .ref h_o_next, .int o_x]))] sz)) 0 0 (va_A [(h_o, .inr (7, [.ref h_o_plans, .ref h_o_makers, .ref h_o_halves, .int o_raised, .ref h_o_all, .ref h_o_text, .ref h_o_saved, .ref h_o_undone, .int o_undos, .int o_reached, .int o_length, .int o_begin, .int o_letters, .int o_sort, .long o_word, .int o_wrongAt, .int o_badAt, .int o_bad, .ref h_o_told, .ref h_o_shift, .int o_firstX, .int o_firstY, .int o_secondX, .int o_secondY, .ref h_o_rootOf, .ref h_o_becomes, .ref h_o_comes, .ref h_o_next, .int o_x]))] sz) := by
  refine Met.ofW (cc := cX8_fails) (maxL := 1) (ret := (some .boolean)) (by decide) rfl ?_
  intro p e s m args below meth c s₁ B hml hv
  obtain ⟨rfl, hsz, hP, hK, hD0, hE⟩ := hv
  have hx := B.exec
  have hb := B.bytes
  have hr := B.returns
  have hts := atoms_spec (ws := Cond.code yX8_fails cX8_fails 1 (some .boolean) :: ds_gw) B.pre
  have hg : ∀ {w : Cond}, w ∈ ds_gw → w.before _ s = true := fun h => hts _ (List.mem_cons_of_mem _ h)
  have hown : s.vm.findClass RX8 = some m.cls := findClass_of_methodNamed B.named
  have hlocks := B.notSynchronized
  subst hsz
  have hD := hD0.self (sz := s.heap.size)
  generalize hAe : va_A [(h_o, .inr (7, [.ref h_o_plans, .ref h_o_makers, .ref h_o_halves, .int o_raised, .ref h_o_all, .ref h_o_text, .ref h_o_saved, .ref h_o_undone, .int o_undos, .int o_reached, .int o_length, .int o_begin, .int o_letters, .int o_sort, .long o_word, .int o_wrongAt, .int o_badAt, .int o_bad, .ref h_o_told, .ref h_o_shift, .int o_firstX, .int o_firstY, .int o_secondX, .int o_secondY, .ref h_o_rootOf, .ref h_o_becomes, .ref h_o_comes, .ref h_o_next, .int o_x]))] s.heap.size = A at hD hE ⊢
  have hA : ∀ q : Nat, s.heap.size ≤ q → A q := fun q h => by rw [← hAe]; exact Or.inr h
  have hS : va_S A s.heap s.heap [] := va_S.rf
  have hl := lv_entry ([.ref h_o]) (n := 1) (Nat.le_of_ble_eq_true rfl)
  rw [lg_entry_eq]
  generalize (lg_sl ([.ref h_o]) ++ List.replicate (1 - (lg_sl ([.ref h_o])).length) Slot.unset).toArray = ls at hl ⊢
  have hl : lv_has ls 1 [(0, .ref h_o)] := hl
  obtain ⟨G0, eG0⟩ : ∃ G : (Int32 × Int32) → Prop, G = (fun r => r = res) := ⟨_, rfl⟩
  obtain ⟨rr, hrr⟩ : ∃ z, z = res := ⟨_, rfl⟩
  rw [← hrr] at hf
  have hG : G0 rr := by subst eG0; exact hrr
  unfold fX8_fails at hf
  refine lv_aload_n hx hb dX8_fails_0 rfl (lv_at hl 0 rfl) ?_
  refine lv_aload_n hx hb dX8_fails_1 rfl (lv_at hl 0 rfl) ?_
  refine va_get (D := (dC, dI)) (ci := 7) (v := .int o_begin) (C := RX8) (T := TX8) (N := 29) hx hb hts (fun w h => List.mem_cons_of_mem _ (kc_X8 w h)) hown hK hP 0 rfl rfl 11 (by decide) (hg kw_622) (fun _ h9 => h9) rfl dX8_fails_2 ?_
  refine va_put (D := (dC, dI)) (ci := 7) (v := .int o_begin) (ty := tyX8 15) (C := RX8) (T := TX8) (N := 29) hx hb hts (fun w h => List.mem_cons_of_mem _ (kc_X8 w h)) tyX8 tyX8_ok nmX8 hown hK hP hD hS 0 rfl rfl 15 (by decide) (hg kw_623) (fun _ h9 => h9) rfl (by decide +kernel) rfl rfl (Nat.le_of_ble_eq_true rfl) dX8_fails_5 (fun H locs hP hD hS => ?_)
  have hP : va_P (dC, dI) vwCl [(h_o, .inr (7, [.ref h_o_plans, .ref h_o_makers, .ref h_o_halves, .int o_raised, .ref h_o_all, .ref h_o_text, .ref h_o_saved, .ref h_o_undone, .int o_undos, .int o_reached, .int o_length, .int o_begin, .int o_letters, .int o_sort, .long o_word, .int o_begin, .int o_badAt, .int o_bad, .ref h_o_told, .ref h_o_shift, .int o_firstX, .int o_firstY, .int o_secondX, .int o_secondY, .ref h_o_rootOf, .ref h_o_becomes, .ref h_o_comes, .ref h_o_next, .int o_x]))] H := hP
  have hD : va_D A [(h_o, .inr (7, [.ref h_o_plans, .ref h_o_makers, .ref h_o_halves, .int o_raised, .ref h_o_all, .ref h_o_text, .ref h_o_saved, .ref h_o_undone, .int o_undos, .int o_reached, .int o_length, .int o_begin, .int o_letters, .int o_sort, .long o_word, .int o_begin, .int o_badAt, .int o_bad, .ref h_o_told, .ref h_o_shift, .int o_firstX, .int o_firstY, .int o_secondX, .int o_secondY, .ref h_o_rootOf, .ref h_o_becomes, .ref h_o_comes, .ref h_o_next, .int o_x]))] := hD
  refine lv_iconst (v := 0) hx hb dX8_fails_8 (by decide) ?_
  have hf := Option.some.inj hf
  subst hf
  rw [eG0] at hG
  have hG : _ = res := hG
  subst hG
  exact W.zret (v := (0 : Int32)) (ty := .boolean) hx hb hr rfl (fun t ht hW => ⟨⟨(0 : Int32), (), rfl, rfl, by rw [ht]; exact hP, hD⟩, hS.F ht⟩) hS.2.2 dX8_fails_9
theorem dX8_isRow_0 : decode cX8_isRow 0 = .ok (.aload_n 0, 1) := by decide +kernel
theorem dX8_isRow_1 : decode cX8_isRow 1 = .ok (.getfield 87, 3) := by decide +kernel
theorem dX8_isRow_4 : decode cX8_isRow 4 = .ok (.iconst 2, 1) := by decide +kernel
theorem dX8_isRow_5 : decode cX8_isRow 5 = .ok (.if_icmp .ne 12, 3) := by decide +kernel
theorem dX8_isRow_8 : decode cX8_isRow 8 = .ok (.aload_n 0, 1) := by decide +kernel
theorem dX8_isRow_9 : decode cX8_isRow 9 = .ok (.getfield 84, 3) := by decide +kernel
theorem dX8_isRow_12 : decode cX8_isRow 12 = .ok (.bipush 8, 2) := by decide +kernel
theorem dX8_isRow_14 : decode cX8_isRow 14 = .ok (.if_icmp .le 5, 3) := by decide +kernel
theorem dX8_isRow_17 : decode cX8_isRow 17 = .ok (.iconst 0, 1) := by decide +kernel
theorem dX8_isRow_18 : decode cX8_isRow 18 = .ok (.ireturn, 1) := by decide +kernel
theorem dX8_isRow_19 : decode cX8_isRow 19 = .ok (.iconst 0, 1) := by decide +kernel
theorem dX8_isRow_20 : decode cX8_isRow 20 = .ok (.istore_n 1, 1) := by decide +kernel
theorem dX8_isRow_21 : decode cX8_isRow 21 = .ok (.iload_n 1, 1) := by decide +kernel
theorem dX8_isRow_22 : decode cX8_isRow 22 = .ok (.aload_n 0, 1) := by decide +kernel
theorem dX8_isRow_23 : decode cX8_isRow 23 = .ok (.getfield 84, 3) := by decide +kernel
theorem dX8_isRow_26 : decode cX8_isRow 26 = .ok (.if_icmp .ge 32, 3) := by decide +kernel
theorem dX8_isRow_29 : decode cX8_isRow 29 = .ok (.aload_n 0, 1) := by decide +kernel
theorem dX8_isRow_30 : decode cX8_isRow 30 = .ok (.getfield 22, 3) := by decide +kernel
theorem dX8_isRow_33 : decode cX8_isRow 33 = .ok (.aload_n 0, 1) := by decide +kernel
theorem dX8_isRow_34 : decode cX8_isRow 34 = .ok (.getfield 77, 3) := by decide +kernel
theorem dX8_isRow_37 : decode cX8_isRow 37 = .ok (.iload_n 1, 1) := by decide +kernel
theorem dX8_isRow_38 : decode cX8_isRow 38 = .ok (.iadd, 1) := by decide +kernel
theorem dX8_isRow_39 : decode cX8_isRow 39 = .ok (.baload, 1) := by decide +kernel
theorem dX8_isRow_40 : decode cX8_isRow 40 = .ok (.bipush 97, 2) := by decide +kernel
theorem dX8_isRow_42 : decode cX8_isRow 42 = .ok (.bipush 100, 2) := by decide +kernel
theorem dX8_isRow_44 : decode cX8_isRow 44 = .ok (.invokestatic 90, 3) := by decide +kernel
theorem dX8_isRow_47 : decode cX8_isRow 47 = .ok (.ifCond .ne 5, 3) := by decide +kernel
theorem dX8_isRow_50 : decode cX8_isRow 50 = .ok (.iconst 0, 1) := by decide +kernel
theorem dX8_isRow_51 : decode cX8_isRow 51 = .ok (.ireturn, 1) := by decide +kernel
theorem dX8_isRow_52 : decode cX8_isRow 52 = .ok (.iinc 1 1, 3) := by decide +kernel
theorem dX8_isRow_55 : decode cX8_isRow 55 = .ok (.goto (-34), 3) := by decide +kernel
theorem dX8_isRow_58 : decode cX8_isRow 58 = .ok (.iconst 1, 1) := by decide +kernel
theorem dX8_isRow_59 : decode cX8_isRow 59 = .ok (.ireturn, 1) := by decide +kernel
def fX8_isRow_21_b (o_begin : Int32) (o_letters : Int32) (o_text_r : Nat → Int32) (v1 : Int32) : Option ((Int32) ⊕ (Int32)) :=
  if o_letters ≤ v1 then some (.inr (1 : Int32)) else if ds_in (o_begin + v1) 1000 = true then Option.bind (fX8_in (o_text_r (o_begin + v1).toNatClampNeg) (97 : Int32) (100 : Int32)) fun q44 => if q44 = 0 then some (.inr (0 : Int32)) else some (.inl (v1 + 1)) else none
def fX8_isRow_21 (o_begin : Int32) (o_letters : Int32) (o_text_r : Nat → Int32) (v1 : Int32) : Option (Int32) := ds_it (fun s => fX8_isRow_21_b o_begin o_letters o_text_r s) 1000 v1
def fX8_isRow (o_begin : Int32) (o_letters : Int32) (o_sort : Int32) (o_text_r : Nat → Int32) : Option (Int32) :=
  if o_sort = (2 : Int32) then if o_letters ≤ (8 : Int32) then fX8_isRow_21 o_begin o_letters o_text_r (0 : Int32) else some (0 : Int32) else some (0 : Int32)
set_option maxHeartbeats 4000000 in
set_option maxRecDepth 100000 in
theorem c_X8_isRow (l : Launch) (dC : Nat → ClassId) (dI : Nat → Nat → Nat) (ca : Nat → ClassId) (sa : Nat → Nat) (h_o : Nat) (h_o_plans : Nat) (h_o_makers : Nat) (h_o_halves : Nat) (h_o_all : Nat) (h_o_text : Nat) (h_o_saved : Nat) (h_o_undone : Nat) (h_o_told : Nat) (h_o_shift : Nat) (h_o_rootOf : Nat) (h_o_becomes : Nat) (h_o_comes : Nat) (h_o_next : Nat) (sz : Nat) (o_raised : Int32) (o_undos : Int32) (o_reached : Int32) (o_length : Int32) (o_begin : Int32) (o_letters : Int32) (o_sort : Int32) (o_word : Int64) (o_wrongAt : Int32) (o_badAt : Int32) (o_bad : Int32) (o_firstX : Int32) (o_firstY : Int32) (o_secondX : Int32) (o_secondY : Int32) (o_x : Int32) (o_text_r : Nat → Int32) (res : Int32) (hf : fX8_isRow o_begin o_letters o_sort o_text_r = some res) : Met l yX8_isRow (Cond.code yX8_isRow cX8_isRow 2 (some .boolean) :: ds_gw) { frames := 1, cells := 0, slots := 0, locals := 22 } (va_Pc [.ref h_o] (ds_Pre dC dI ca sa [(h_o, .inr (7, [.ref h_o_plans, .ref h_o_makers, .ref h_o_halves, .int o_raised, .ref h_o_all, .ref h_o_text, .ref h_o_saved, .ref h_o_undone, .int o_undos, .int o_reached, .int o_length, .int o_begin, .int o_letters, .int o_sort, .long o_word, .int o_wrongAt, .int o_badAt, .int o_bad, .ref h_o_told, .ref h_o_shift, .int o_firstX, .int o_firstY, .int o_secondX, .int o_secondY, .ref h_o_rootOf, .ref h_o_becomes, .ref h_o_comes, .ref h_o_next, .int o_x])), (h_o_text, .inl (ca 2, 1000, .inl o_text_r))] sz)) (va_Qi (fun r (_ : Unit) => r = res) (ds_B dC dI (va_A [(h_o, .inr (7, [.ref h_o_plans, .ref h_o_makers, .ref h_o_halves, .int o_raised, .ref h_o_all, .ref h_o_text, .ref h_o_saved, .ref h_o_undone, .int o_undos, .int o_reached, .int o_length, .int o_begin, .int o_letters, .int o_sort, .long o_word, .int o_wrongAt, .int o_badAt, .int o_bad, .ref h_o_told, .ref h_o_shift, .int o_firstX, .int o_firstY, .int o_secondX, .int o_secondY, .ref h_o_rootOf, .ref h_o_becomes, .ref h_o_comes, .ref h_o_next, .int o_x])), (h_o_text, .inl (ca 2, 1000, .inl o_text_r))] sz) [(h_o, .inr (7, [.ref h_o_plans, .ref h_o_makers, .ref h_o_halves, .int o_raised, .ref h_o_all, .ref h_o_text, .ref h_o_saved, .ref h_o_undone, .int o_undos, .int o_reached, .int o_length, .int o_begin, .int o_letters, .int o_sort, .long o_word, .int o_wrongAt, .int o_badAt, .int o_bad, .ref h_o_told, .ref h_o_shift, .int o_firstX, .int o_firstY, .int o_secondX, .int o_secondY, .ref h_o_rootOf, .ref h_o_becomes, .ref h_o_comes, .ref h_o_next, .int o_x])), (h_o_text, .inl (ca 2, 1000, .inl o_text_r))]) (va_A [(h_o, .inr (7, [.ref h_o_plans, .ref h_o_makers, .ref h_o_halves, .int o_raised, .ref h_o_all, .ref h_o_text, .ref h_o_saved, .ref h_o_undone, .int o_undos, .int o_reached, .int o_length, .int o_begin, .int o_letters, .int o_sort, .long o_word, .int o_wrongAt, .int o_badAt, .int o_bad, .ref h_o_told, .ref h_o_shift, .int o_firstX, .int o_firstY, .int o_secondX, .int o_secondY, .ref h_o_rootOf, .ref h_o_becomes, .ref h_o_comes, .ref h_o_next, .int o_x])), (h_o_text, .inl (ca 2, 1000, .inl o_text_r))] sz)) 0 0 (va_A [(h_o, .inr (7, [.ref h_o_plans, .ref h_o_makers, .ref h_o_halves, .int o_raised, .ref h_o_all, .ref h_o_text, .ref h_o_saved, .ref h_o_undone, .int o_undos, .int o_reached, .int o_length, .int o_begin, .int o_letters, .int o_sort, .long o_word, .int o_wrongAt, .int o_badAt, .int o_bad, .ref h_o_told, .ref h_o_shift, .int o_firstX, .int o_firstY, .int o_secondX, .int o_secondY, .ref h_o_rootOf, .ref h_o_becomes, .ref h_o_comes, .ref h_o_next, .int o_x])), (h_o_text, .inl (ca 2, 1000, .inl o_text_r))] sz) := by
  refine Met.ofW (cc := cX8_isRow) (maxL := 2) (ret := (some .boolean)) (by decide) rfl ?_
  intro p e s m args below meth c s₁ B hml hv
  obtain ⟨rfl, hsz, hP, hK, hD0, hE⟩ := hv
  have hx := B.exec
  have hb := B.bytes
  have hr := B.returns
  have hts := atoms_spec (ws := Cond.code yX8_isRow cX8_isRow 2 (some .boolean) :: ds_gw) B.pre
  have hg : ∀ {w : Cond}, w ∈ ds_gw → w.before _ s = true := fun h => hts _ (List.mem_cons_of_mem _ h)
  have hown : s.vm.findClass RX8 = some m.cls := findClass_of_methodNamed B.named
  have hlocks := B.notSynchronized
  subst hsz
  have hD := hD0.self (sz := s.heap.size)
  generalize hAe : va_A [(h_o, .inr (7, [.ref h_o_plans, .ref h_o_makers, .ref h_o_halves, .int o_raised, .ref h_o_all, .ref h_o_text, .ref h_o_saved, .ref h_o_undone, .int o_undos, .int o_reached, .int o_length, .int o_begin, .int o_letters, .int o_sort, .long o_word, .int o_wrongAt, .int o_badAt, .int o_bad, .ref h_o_told, .ref h_o_shift, .int o_firstX, .int o_firstY, .int o_secondX, .int o_secondY, .ref h_o_rootOf, .ref h_o_becomes, .ref h_o_comes, .ref h_o_next, .int o_x])), (h_o_text, .inl (ca 2, 1000, .inl o_text_r))] s.heap.size = A at hD hE ⊢
  have hA : ∀ q : Nat, s.heap.size ≤ q → A q := fun q h => by rw [← hAe]; exact Or.inr h
  have hS : va_S A s.heap s.heap [] := va_S.rf
  have hl := lv_entry ([.ref h_o]) (n := 2) (Nat.le_of_ble_eq_true rfl)
  rw [lg_entry_eq]
  generalize (lg_sl ([.ref h_o]) ++ List.replicate (2 - (lg_sl ([.ref h_o])).length) Slot.unset).toArray = ls at hl ⊢
  have hl : lv_has ls 2 [(0, .ref h_o)] := hl
  obtain ⟨G0, eG0⟩ : ∃ G : Int32 → Prop, G = (fun r => r = res) := ⟨_, rfl⟩
  obtain ⟨rr, hrr⟩ : ∃ z, z = res := ⟨_, rfl⟩
  rw [← hrr] at hf
  have hG : G0 rr := by subst eG0; exact hrr
  refine ds_cap (fun WW h1 h2 => ?_)
  have J_21 : ∀ (n : Nat) (v1 : Int32) (rr : Int32) (hf : ds_it (fun s => fX8_isRow_21_b o_begin o_letters o_text_r s) n v1 = some rr) (hG : G0 rr) (H : Heap) (locs : List Loc) (hP : va_P (dC, dI) vwCl [(h_o, .inr (7, [.ref h_o_plans, .ref h_o_makers, .ref h_o_halves, .int o_raised, .ref h_o_all, .ref h_o_text, .ref h_o_saved, .ref h_o_undone, .int o_undos, .int o_reached, .int o_length, .int o_begin, .int o_letters, .int o_sort, .long o_word, .int o_wrongAt, .int o_badAt, .int o_bad, .ref h_o_told, .ref h_o_shift, .int o_firstX, .int o_firstY, .int o_secondX, .int o_secondY, .ref h_o_rootOf, .ref h_o_becomes, .ref h_o_comes, .ref h_o_next, .int o_x])), (h_o_text, .inl (ca 2, 1000, .inl o_text_r))] H) (hD : va_D A [(h_o, .inr (7, [.ref h_o_plans, .ref h_o_makers, .ref h_o_halves, .int o_raised, .ref h_o_all, .ref h_o_text, .ref h_o_saved, .ref h_o_undone, .int o_undos, .int o_reached, .int o_length, .int o_begin, .int o_letters, .int o_sort, .long o_word, .int o_wrongAt, .int o_badAt, .int o_bad, .ref h_o_told, .ref h_o_shift, .int o_firstX, .int o_firstY, .int o_secondX, .int o_secondY, .ref h_o_rootOf, .ref h_o_becomes, .ref h_o_comes, .ref h_o_next, .int o_x])), (h_o_text, .inl (ca 2, 1000, .inl o_text_r))]) (hS : va_S A s.heap H locs) (ls : Array Slot) (hl : lv_has ls 2 [(0, .ref h_o), (1, .int v1)]), WW H locs (F0 m 21 ls []) := by
    intro  n
    induction n with
    | zero => intro v1 rr hf; exact (ds_it_zero hf).elim
    | succ n ih21 =>
      intro v1 rr hf hG H locs hP hD hS ls hl
      refine h2 ?_
      obtain ⟨rr, hf, hG⟩ := ds_it_succ hf hG
      replace hf : fX8_isRow_21_b o_begin o_letters o_text_r v1 = some rr := hf
      obtain ⟨G1, eG1⟩ : ∃ G : ((Int32) ⊕ (Int32)) → Prop, G = ds_G (fun s' => ∃ r', ds_it (fun s => fX8_isRow_21_b o_begin o_letters o_text_r s) n s' = some r' ∧ G0 r') G0 := ⟨_, rfl⟩
      rw [← eG1] at hG
      unfold fX8_isRow_21_b at hf
      refine lv_iload_n hx hb dX8_isRow_21 rfl (lv_at hl 1 rfl) ?_
      refine lv_aload_n hx hb dX8_isRow_22 rfl (lv_at hl 0 rfl) ?_
      refine va_get (D := (dC, dI)) (ci := 7) (v := .int o_letters) (C := RX8) (T := TX8) (N := 29) hx hb hts (fun w h => List.mem_cons_of_mem _ (kc_X8 w h)) hown hK hP 0 rfl rfl 12 (by decide) (hg kw_614) (fun _ h9 => h9) rfl dX8_isRow_23 ?_
      refine lv_icmp_ge (tgt := 58) hx hb dX8_isRow_26 (by decide) (fun c_26 => ?_) (fun c_26 => ?_)
      · replace hf := ds_t c_26 hf
        refine lv_iconst (v := 1) hx hb dX8_isRow_58 (by decide) ?_
        have hf := Option.some.inj hf
        subst hf
        rw [eG1] at hG
        replace hG : G0 _ := hG
        rw [eG0] at hG
        have hG : _ = res := hG
        subst hG
        exact W.zret (v := (1 : Int32)) (ty := .boolean) hx hb hr rfl (fun t ht hW => ⟨⟨(1 : Int32), (), rfl, rfl, by rw [ht]; exact hP, hD⟩, hS.F ht⟩) hS.2.2 dX8_isRow_59
      · replace hf := ds_f c_26 hf
        refine lv_aload_n hx hb dX8_isRow_29 rfl (lv_at hl 0 rfl) ?_
        refine va_get (D := (dC, dI)) (ci := 7) (v := .ref h_o_text) (C := RX8) (T := TX8) (N := 29) hx hb hts (fun w h => List.mem_cons_of_mem _ (kc_X8 w h)) hown hK hP 0 rfl rfl 5 (by decide) (hg kw_608) (fun _ h9 => h9) rfl dX8_isRow_30 ?_
        refine lv_aload_n hx hb dX8_isRow_33 rfl (lv_at hl 0 rfl) ?_
        refine va_get (D := (dC, dI)) (ci := 7) (v := .int o_begin) (C := RX8) (T := TX8) (N := 29) hx hb hts (fun w h => List.mem_cons_of_mem _ (kc_X8 w h)) hown hK hP 0 rfl rfl 11 (by decide) (hg kw_622) (fun _ h9 => h9) rfl dX8_isRow_34 ?_
        refine lv_iload_n hx hb dX8_isRow_37 rfl (lv_at hl 1 rfl) ?_
        refine lv_iadd hx hb dX8_isRow_38 ?_
        obtain ⟨i_39, hf⟩ := ds_ci hf
        refine va_bald hx hb hK hP 1 2 rfl rfl i_39 dX8_isRow_39 ?_
        refine lv_bipush (v := 97) hx hb dX8_isRow_40 (by decide) ?_
        refine lv_bipush (v := 100) hx hb dX8_isRow_42 (by decide) ?_
        obtain ⟨q44, hq44, hf⟩ := ds_ob hf
        refine ds_calli (wr := [(h_o, .inr (7, [.ref h_o_plans, .ref h_o_makers, .ref h_o_halves, .int o_raised, .ref h_o_all, .ref h_o_text, .ref h_o_saved, .ref h_o_undone, .int o_undos, .int o_reached, .int o_length, .int o_begin, .int o_letters, .int o_sort, .long o_word, .int o_wrongAt, .int o_badAt, .int o_bad, .ref h_o_told, .ref h_o_shift, .int o_firstX, .int o_firstY, .int o_secondX, .int o_secondY, .ref h_o_rootOf, .ref h_o_becomes, .ref h_o_comes, .ref h_o_next, .int o_x])), (h_o_text, .inl (ca 2, 1000, .inl o_text_r))]) (va_runS (As := [.int (o_text_r (o_begin + v1).toNatClampNeg), .int (97 : Int32), .int (100 : Int32)]) (rest := []) ⟨hx, hb, hml, hown, hts⟩ (c_X8_in l dC dI ca sa  H.size  (o_text_r (o_begin + v1).toNatClampNeg) (97 : Int32) (100 : Int32) q44 hq44) (va_cwS 3 hts (ds_gS kw_619 kw_620 kw_597 kw_621) rfl rfl rfl (by decide +kernel) ⟨Nat.le_of_ble_eq_true rfl, Nat.le_of_ble_eq_true rfl⟩) ⟨ds_blind, ds_at hP hD hK hE hS hA [] rfl rfl _⟩ rfl rfl hl.1 rfl (lv_room (Nat.le_of_ble_eq_true rfl)) dX8_isRow_44 ⟨Nat.zero_le _, Nat.zero_le _⟩) hP hD hS hA [] [0, 1] rfl rfl rfl (by decide) (fun H locs hP hD hS => ?_)
        have hP : va_P (dC, dI) vwCl [(h_o, .inr (7, [.ref h_o_plans, .ref h_o_makers, .ref h_o_halves, .int o_raised, .ref h_o_all, .ref h_o_text, .ref h_o_saved, .ref h_o_undone, .int o_undos, .int o_reached, .int o_length, .int o_begin, .int o_letters, .int o_sort, .long o_word, .int o_wrongAt, .int o_badAt, .int o_bad, .ref h_o_told, .ref h_o_shift, .int o_firstX, .int o_firstY, .int o_secondX, .int o_secondY, .ref h_o_rootOf, .ref h_o_becomes, .ref h_o_comes, .ref h_o_next, .int o_x])), (h_o_text, .inl (ca 2, 1000, .inl o_text_r))] H := hP
        have hD : va_D A [(h_o, .inr (7, [.ref h_o_plans, .ref h_o_makers, .ref h_o_halves, .int o_raised, .ref h_o_all, .ref h_o_text, .ref h_o_saved, .ref h_o_undone, .int o_undos, .int o_reached, .int o_length, .int o_begin, .int o_letters, .int o_sort, .long o_word, .int o_wrongAt, .int o_badAt, .int o_bad, .ref h_o_told, .ref h_o_shift, .int o_firstX, .int o_firstY, .int o_secondX, .int o_secondY, .ref h_o_rootOf, .ref h_o_becomes, .ref h_o_comes, .ref h_o_next, .int o_x])), (h_o_text, .inl (ca 2, 1000, .inl o_text_r))] := hD
        refine lv_if_ne (tgt := 52) hx hb dX8_isRow_47 (by decide) (fun c_47 => ?_) (fun c_47 => ?_)
        · replace hf := ds_f c_47 hf
          refine lv_iinc (v := (v1 + 1)) (lv' := [(1, .int (v1 + 1)), (0, .ref h_o)]) hx hb dX8_isRow_52 hl (k := 1) rfl rfl (by decide) rfl (fun ls hl => ?_)
          refine lv_goto (tgt := 21) hx hb dX8_isRow_55 (by decide) ?_
          have hf := Option.some.inj hf
          subst hf
          rw [eG1] at hG
          obtain ⟨rr, hf, hG⟩ := hG
          exact h1 (ih21 (v1 + 1) rr hf hG _ _ hP hD hS _ (lv_sub hl [1, 0] rfl))
        · replace hf := ds_t c_47 hf
          refine lv_iconst (v := 0) hx hb dX8_isRow_50 (by decide) ?_
          have hf := Option.some.inj hf
          subst hf
          rw [eG1] at hG
          replace hG : G0 _ := hG
          rw [eG0] at hG
          have hG : _ = res := hG
          subst hG
          exact W.zret (v := (0 : Int32)) (ty := .boolean) hx hb hr rfl (fun t ht hW => ⟨⟨(0 : Int32), (), rfl, rfl, by rw [ht]; exact hP, hD⟩, hS.F ht⟩) hS.2.2 dX8_isRow_51
  unfold fX8_isRow at hf
  refine lv_aload_n hx hb dX8_isRow_0 rfl (lv_at hl 0 rfl) ?_
  refine va_get (D := (dC, dI)) (ci := 7) (v := .int o_sort) (C := RX8) (T := TX8) (N := 29) hx hb hts (fun w h => List.mem_cons_of_mem _ (kc_X8 w h)) hown hK hP 0 rfl rfl 13 (by decide) (hg kw_612) (fun _ h9 => h9) rfl dX8_isRow_1 ?_
  refine lv_iconst (v := 2) hx hb dX8_isRow_4 (by decide) ?_
  refine lv_icmp_ne (tgt := 17) hx hb dX8_isRow_5 (by decide) (fun c_5 => ?_) (fun c_5 => ?_)
  · replace hf := ds_f c_5 hf
    refine lv_iconst (v := 0) hx hb dX8_isRow_17 (by decide) ?_
    have hf := Option.some.inj hf
    subst hf
    rw [eG0] at hG
    have hG : _ = res := hG
    subst hG
    exact W.zret (v := (0 : Int32)) (ty := .boolean) hx hb hr rfl (fun t ht hW => ⟨⟨(0 : Int32), (), rfl, rfl, by rw [ht]; exact hP, hD⟩, hS.F ht⟩) hS.2.2 dX8_isRow_18
  · replace hf := ds_t c_5 hf
    refine lv_aload_n hx hb dX8_isRow_8 rfl (lv_at hl 0 rfl) ?_
    refine va_get (D := (dC, dI)) (ci := 7) (v := .int o_letters) (C := RX8) (T := TX8) (N := 29) hx hb hts (fun w h => List.mem_cons_of_mem _ (kc_X8 w h)) hown hK hP 0 rfl rfl 12 (by decide) (hg kw_614) (fun _ h9 => h9) rfl dX8_isRow_9 ?_
    refine lv_bipush (v := 8) hx hb dX8_isRow_12 (by decide) ?_
    refine lv_icmp_le (tgt := 19) hx hb dX8_isRow_14 (by decide) (fun c_14 => ?_) (fun c_14 => ?_)
    · replace hf := ds_t c_14 hf
      refine lv_iconst (v := 0) hx hb dX8_isRow_19 (by decide) ?_
      refine lv_istore_n (lv' := [(1, .int (0 : Int32)), (0, .ref h_o)]) hx hb dX8_isRow_20 rfl hl (by decide) rfl (fun ls hl => ?_)
      exact h1 (J_21  1000 (0 : Int32) _ hf hG _ _ hP hD hS _ (lv_sub hl [1, 0] rfl))
    · replace hf := ds_f c_14 hf
      refine lv_iconst (v := 0) hx hb dX8_isRow_17 (by decide) ?_
      have hf := Option.some.inj hf
      subst hf
      rw [eG0] at hG
      have hG : _ = res := hG
      subst hG
      exact W.zret (v := (0 : Int32)) (ty := .boolean) hx hb hr rfl (fun t ht hW => ⟨⟨(0 : Int32), (), rfl, rfl, by rw [ht]; exact hP, hD⟩, hS.F ht⟩) hS.2.2 dX8_isRow_18
theorem dX8_isBad_0 : decode cX8_isBad 0 = .ok (.aload_n 0, 1) := by decide +kernel
theorem dX8_isBad_1 : decode cX8_isBad 1 = .ok (.getfield 115, 3) := by decide +kernel
theorem dX8_isBad_4 : decode cX8_isBad 4 = .ok (.ifCond .ne 16, 3) := by decide +kernel
theorem dX8_isBad_7 : decode cX8_isBad 7 = .ok (.aload_n 0, 1) := by decide +kernel
theorem dX8_isBad_8 : decode cX8_isBad 8 = .ok (.iload_n 1, 1) := by decide +kernel
theorem dX8_isBad_9 : decode cX8_isBad 9 = .ok (.putfield 115, 3) := by decide +kernel
theorem dX8_isBad_12 : decode cX8_isBad 12 = .ok (.aload_n 0, 1) := by decide +kernel
theorem dX8_isBad_13 : decode cX8_isBad 13 = .ok (.aload_n 0, 1) := by decide +kernel
theorem dX8_isBad_14 : decode cX8_isBad 14 = .ok (.getfield 77, 3) := by decide +kernel
theorem dX8_isBad_17 : decode cX8_isBad 17 = .ok (.putfield 118, 3) := by decide +kernel
theorem dX8_isBad_20 : decode cX8_isBad 20 = .ok (.return_, 1) := by decide +kernel
def fX8_isBad (o_begin : Int32) (o_badAt : Int32) (o_bad : Int32) (p1 : Int32) : Option (Int32 × Int32) :=
  if o_bad = 0 then some (o_begin, p1) else some (o_badAt, o_bad)
set_option maxHeartbeats 4000000 in
set_option maxRecDepth 100000 in
theorem c_X8_isBad (l : Launch) (dC : Nat → ClassId) (dI : Nat → Nat → Nat) (ca : Nat → ClassId) (sa : Nat → Nat) (h_o : Nat) (h_o_plans : Nat) (h_o_makers : Nat) (h_o_halves : Nat) (h_o_all : Nat) (h_o_text : Nat) (h_o_saved : Nat) (h_o_undone : Nat) (h_o_told : Nat) (h_o_shift : Nat) (h_o_rootOf : Nat) (h_o_becomes : Nat) (h_o_comes : Nat) (h_o_next : Nat) (sz : Nat) (o_raised : Int32) (o_undos : Int32) (o_reached : Int32) (o_length : Int32) (o_begin : Int32) (o_letters : Int32) (o_sort : Int32) (o_word : Int64) (o_wrongAt : Int32) (o_badAt : Int32) (o_bad : Int32) (o_firstX : Int32) (o_firstY : Int32) (o_secondX : Int32) (o_secondY : Int32) (o_x : Int32) (p1 : Int32) (res : Int32 × Int32) (hf : fX8_isBad o_begin o_badAt o_bad p1 = some res) : Met l yX8_isBad (Cond.code yX8_isBad cX8_isBad 2 none :: ds_gw) { frames := 0, cells := 0, slots := 0, locals := 0 } (va_Pc [.ref h_o, .int p1] (ds_Pre dC dI ca sa [(h_o, .inr (7, [.ref h_o_plans, .ref h_o_makers, .ref h_o_halves, .int o_raised, .ref h_o_all, .ref h_o_text, .ref h_o_saved, .ref h_o_undone, .int o_undos, .int o_reached, .int o_length, .int o_begin, .int o_letters, .int o_sort, .long o_word, .int o_wrongAt, .int o_badAt, .int o_bad, .ref h_o_told, .ref h_o_shift, .int o_firstX, .int o_firstY, .int o_secondX, .int o_secondY, .ref h_o_rootOf, .ref h_o_becomes, .ref h_o_comes, .ref h_o_next, .int o_x]))] sz)) (va_Qv (fun (_ : Unit) => True) (ds_B dC dI (va_A [(h_o, .inr (7, [.ref h_o_plans, .ref h_o_makers, .ref h_o_halves, .int o_raised, .ref h_o_all, .ref h_o_text, .ref h_o_saved, .ref h_o_undone, .int o_undos, .int o_reached, .int o_length, .int o_begin, .int o_letters, .int o_sort, .long o_word, .int o_wrongAt, .int o_badAt, .int o_bad, .ref h_o_told, .ref h_o_shift, .int o_firstX, .int o_firstY, .int o_secondX, .int o_secondY, .ref h_o_rootOf, .ref h_o_becomes, .ref h_o_comes, .ref h_o_next, .int o_x]))] sz) [(h_o, .inr (7, [.ref h_o_plans, .ref h_o_makers, .ref h_o_halves, .int o_raised, .ref h_o_all, .ref h_o_text, .ref h_o_saved, .ref h_o_undone, .int o_undos, .int o_reached, .int o_length, .int o_begin, .int o_letters, .int o_sort, .long o_word, .int o_wrongAt, .int res.1, .int res.2, .ref h_o_told, .ref h_o_shift, .int o_firstX, .int o_firstY, .int o_secondX, .int o_secondY, .ref h_o_rootOf, .ref h_o_becomes, .ref h_o_comes, .ref h_o_next, .int o_x]))]) (va_A [(h_o, .inr (7, [.ref h_o_plans, .ref h_o_makers, .ref h_o_halves, .int o_raised, .ref h_o_all, .ref h_o_text, .ref h_o_saved, .ref h_o_undone, .int o_undos, .int o_reached, .int o_length, .int o_begin, .int o_letters, .int o_sort, .long o_word, .int o_wrongAt, .int o_badAt, .int o_bad, .ref h_o_told, .ref h_o_shift, .int o_firstX, .int o_firstY, .int o_secondX, .int o_secondY, .ref h_o_rootOf, .ref h_o_becomes, .ref h_o_comes, .ref h_o_next, .int o_x]))] sz)) 0 0 (va_A [(h_o, .inr (7, [.ref h_o_plans, .ref h_o_makers, .ref h_o_halves, .int o_raised, .ref h_o_all, .ref h_o_text, .ref h_o_saved, .ref h_o_undone, .int o_undos, .int o_reached, .int o_length, .int o_begin, .int o_letters, .int o_sort, .long o_word, .int o_wrongAt, .int o_badAt, .int o_bad, .ref h_o_told, .ref h_o_shift, .int o_firstX, .int o_firstY, .int o_secondX, .int o_secondY, .ref h_o_rootOf, .ref h_o_becomes, .ref h_o_comes, .ref h_o_next, .int o_x]))] sz) := by
  refine Met.ofW (cc := cX8_isBad) (maxL := 2) (ret := none) (by decide) rfl ?_
  intro p e s m args below meth c s₁ B hml hv
  obtain ⟨rfl, hsz, hP, hK, hD0, hE⟩ := hv
  have hx := B.exec
  have hb := B.bytes
  have hr := B.returns
  have hts := atoms_spec (ws := Cond.code yX8_isBad cX8_isBad 2 none :: ds_gw) B.pre
  have hg : ∀ {w : Cond}, w ∈ ds_gw → w.before _ s = true := fun h => hts _ (List.mem_cons_of_mem _ h)
  have hown : s.vm.findClass RX8 = some m.cls := findClass_of_methodNamed B.named
  have hlocks := B.notSynchronized
  subst hsz
  have hD := hD0.self (sz := s.heap.size)
  generalize hAe : va_A [(h_o, .inr (7, [.ref h_o_plans, .ref h_o_makers, .ref h_o_halves, .int o_raised, .ref h_o_all, .ref h_o_text, .ref h_o_saved, .ref h_o_undone, .int o_undos, .int o_reached, .int o_length, .int o_begin, .int o_letters, .int o_sort, .long o_word, .int o_wrongAt, .int o_badAt, .int o_bad, .ref h_o_told, .ref h_o_shift, .int o_firstX, .int o_firstY, .int o_secondX, .int o_secondY, .ref h_o_rootOf, .ref h_o_becomes, .ref h_o_comes, .ref h_o_next, .int o_x]))] s.heap.size = A at hD hE ⊢
  have hA : ∀ q : Nat, s.heap.size ≤ q → A q := fun q h => by rw [← hAe]; exact Or.inr h
  have hS : va_S A s.heap s.heap [] := va_S.rf
  have hl := lv_entry ([.ref h_o, .int p1]) (n := 2) (Nat.le_of_ble_eq_true rfl)
  rw [lg_entry_eq]
  generalize (lg_sl ([.ref h_o, .int p1]) ++ List.replicate (2 - (lg_sl ([.ref h_o, .int p1])).length) Slot.unset).toArray = ls at hl ⊢
  have hl : lv_has ls 2 [(0, .ref h_o), (1, .int p1)] := hl
  obtain ⟨G0, eG0⟩ : ∃ G : (Int32 × Int32) → Prop, G = (fun r => r = res) := ⟨_, rfl⟩
  obtain ⟨rr, hrr⟩ : ∃ z, z = res := ⟨_, rfl⟩
  rw [← hrr] at hf
  have hG : G0 rr := by subst eG0; exact hrr
  unfold fX8_isBad at hf
  refine lv_aload_n hx hb dX8_isBad_0 rfl (lv_at hl 0 rfl) ?_
  refine va_get (D := (dC, dI)) (ci := 7) (v := .int o_bad) (C := RX8) (T := TX8) (N := 29) hx hb hts (fun w h => List.mem_cons_of_mem _ (kc_X8 w h)) hown hK hP 0 rfl rfl 17 (by decide) (hg kw_624) (fun _ h9 => h9) rfl dX8_isBad_1 ?_
  refine lv_if_ne (tgt := 20) hx hb dX8_isBad_4 (by decide) (fun c_4 => ?_) (fun c_4 => ?_)
  · replace hf := ds_f c_4 hf
    have hf := Option.some.inj hf
    subst hf
    rw [eG0] at hG
    have hG : _ = res := hG
    subst hG
    exact W.vret hx hb hr (fun t ht hW => ⟨⟨(), rfl, trivial, by rw [ht]; exact hP, hD⟩, hS.F ht⟩) hS.2.2 dX8_isBad_20
  · replace hf := ds_t c_4 hf
    refine lv_aload_n hx hb dX8_isBad_7 rfl (lv_at hl 0 rfl) ?_
    refine lv_iload_n hx hb dX8_isBad_8 rfl (lv_at hl 1 rfl) ?_
    refine va_put (D := (dC, dI)) (ci := 7) (v := .int p1) (ty := tyX8 17) (C := RX8) (T := TX8) (N := 29) hx hb hts (fun w h => List.mem_cons_of_mem _ (kc_X8 w h)) tyX8 tyX8_ok nmX8 hown hK hP hD hS 0 rfl rfl 17 (by decide) (hg kw_624) (fun _ h9 => h9) rfl (by decide +kernel) rfl rfl (Nat.le_of_ble_eq_true rfl) dX8_isBad_9 (fun H locs hP hD hS => ?_)
    have hP : va_P (dC, dI) vwCl [(h_o, .inr (7, [.ref h_o_plans, .ref h_o_makers, .ref h_o_halves, .int o_raised, .ref h_o_all, .ref h_o_text, .ref h_o_saved, .ref h_o_undone, .int o_undos, .int o_reached, .int o_length, .int o_begin, .int o_letters, .int o_sort, .long o_word, .int o_wrongAt, .int o_badAt, .int p1, .ref h_o_told, .ref h_o_shift, .int o_firstX, .int o_firstY, .int o_secondX, .int o_secondY, .ref h_o_rootOf, .ref h_o_becomes, .ref h_o_comes, .ref h_o_next, .int o_x]))] H := hP
    have hD : va_D A [(h_o, .inr (7, [.ref h_o_plans, .ref h_o_makers, .ref h_o_halves, .int o_raised, .ref h_o_all, .ref h_o_text, .ref h_o_saved, .ref h_o_undone, .int o_undos, .int o_reached, .int o_length, .int o_begin, .int o_letters, .int o_sort, .long o_word, .int o_wrongAt, .int o_badAt, .int p1, .ref h_o_told, .ref h_o_shift, .int o_firstX, .int o_firstY, .int o_secondX, .int o_secondY, .ref h_o_rootOf, .ref h_o_becomes, .ref h_o_comes, .ref h_o_next, .int o_x]))] := hD
    refine lv_aload_n hx hb dX8_isBad_12 rfl (lv_at hl 0 rfl) ?_
    refine lv_aload_n hx hb dX8_isBad_13 rfl (lv_at hl 0 rfl) ?_
    refine va_get (D := (dC, dI)) (ci := 7) (v := .int o_begin) (C := RX8) (T := TX8) (N := 29) hx hb hts (fun w h => List.mem_cons_of_mem _ (kc_X8 w h)) hown hK hP 0 rfl rfl 11 (by decide) (hg kw_622) (fun _ h9 => h9) rfl dX8_isBad_14 ?_
    refine va_put (D := (dC, dI)) (ci := 7) (v := .int o_begin) (ty := tyX8 16) (C := RX8) (T := TX8) (N := 29) hx hb hts (fun w h => List.mem_cons_of_mem _ (kc_X8 w h)) tyX8 tyX8_ok nmX8 hown hK hP hD hS 0 rfl rfl 16 (by decide) (hg kw_625) (fun _ h9 => h9) rfl (by decide +kernel) rfl rfl (Nat.le_of_ble_eq_true rfl) dX8_isBad_17 (fun H locs hP hD hS => ?_)
    have hP : va_P (dC, dI) vwCl [(h_o, .inr (7, [.ref h_o_plans, .ref h_o_makers, .ref h_o_halves, .int o_raised, .ref h_o_all, .ref h_o_text, .ref h_o_saved, .ref h_o_undone, .int o_undos, .int o_reached, .int o_length, .int o_begin, .int o_letters, .int o_sort, .long o_word, .int o_wrongAt, .int o_begin, .int p1, .ref h_o_told, .ref h_o_shift, .int o_firstX, .int o_firstY, .int o_secondX, .int o_secondY, .ref h_o_rootOf, .ref h_o_becomes, .ref h_o_comes, .ref h_o_next, .int o_x]))] H := hP
    have hD : va_D A [(h_o, .inr (7, [.ref h_o_plans, .ref h_o_makers, .ref h_o_halves, .int o_raised, .ref h_o_all, .ref h_o_text, .ref h_o_saved, .ref h_o_undone, .int o_undos, .int o_reached, .int o_length, .int o_begin, .int o_letters, .int o_sort, .long o_word, .int o_wrongAt, .int o_begin, .int p1, .ref h_o_told, .ref h_o_shift, .int o_firstX, .int o_firstY, .int o_secondX, .int o_secondY, .ref h_o_rootOf, .ref h_o_becomes, .ref h_o_comes, .ref h_o_next, .int o_x]))] := hD
    have hf := Option.some.inj hf
    subst hf
    rw [eG0] at hG
    have hG : _ = res := hG
    subst hG
    exact W.vret hx hb hr (fun t ht hW => ⟨⟨(), rfl, trivial, by rw [ht]; exact hP, hD⟩, hS.F ht⟩) hS.2.2 dX8_isBad_20
theorem dX8_line_0 : decode cX8_line 0 = .ok (.aload_n 0, 1) := by decide +kernel
theorem dX8_line_1 : decode cX8_line 1 = .ok (.getfield 87, 3) := by decide +kernel
theorem dX8_line_4 : decode cX8_line 4 = .ok (.iconst 2, 1) := by decide +kernel
theorem dX8_line_5 : decode cX8_line 5 = .ok (.if_icmp .ne 53, 3) := by decide +kernel
theorem dX8_line_8 : decode cX8_line 8 = .ok (.aload_n 0, 1) := by decide +kernel
theorem dX8_line_9 : decode cX8_line 9 = .ok (.getfield 80, 3) := by decide +kernel
theorem dX8_line_12 : decode cX8_line 12 = .ok (.ldc2_w 97, 3) := by decide +kernel
theorem dX8_line_15 : decode cX8_line 15 = .ok (.lcmp, 1) := by decide +kernel
theorem dX8_line_16 : decode cX8_line 16 = .ok (.ifCond .eq 14, 3) := by decide +kernel
theorem dX8_line_19 : decode cX8_line 19 = .ok (.aload_n 0, 1) := by decide +kernel
theorem dX8_line_20 : decode cX8_line 20 = .ok (.getfield 80, 3) := by decide +kernel
theorem dX8_line_23 : decode cX8_line 23 = .ok (.ldc2_w 99, 3) := by decide +kernel
theorem dX8_line_26 : decode cX8_line 26 = .ok (.lcmp, 1) := by decide +kernel
theorem dX8_line_27 : decode cX8_line 27 = .ok (.ifCond .ne 31, 3) := by decide +kernel
theorem dX8_line_30 : decode cX8_line 30 = .ok (.aload_n 0, 1) := by decide +kernel
theorem dX8_line_31 : decode cX8_line 31 = .ok (.getfield 33, 3) := by decide +kernel
theorem dX8_line_34 : decode cX8_line 34 = .ok (.iconst 2, 1) := by decide +kernel
theorem dX8_line_35 : decode cX8_line 35 = .ok (.aload_n 0, 1) := by decide +kernel
theorem dX8_line_36 : decode cX8_line 36 = .ok (.getfield 80, 3) := by decide +kernel
theorem dX8_line_39 : decode cX8_line 39 = .ok (.ldc2_w 99, 3) := by decide +kernel
theorem dX8_line_42 : decode cX8_line 42 = .ok (.lcmp, 1) := by decide +kernel
theorem dX8_line_43 : decode cX8_line 43 = .ok (.ifCond .ne 7, 3) := by decide +kernel
theorem dX8_line_46 : decode cX8_line 46 = .ok (.iconst 1, 1) := by decide +kernel
theorem dX8_line_47 : decode cX8_line 47 = .ok (.goto 4, 3) := by decide +kernel
theorem dX8_line_50 : decode cX8_line 50 = .ok (.iconst 0, 1) := by decide +kernel
theorem dX8_line_51 : decode cX8_line 51 = .ok (.iastore, 1) := by decide +kernel
theorem dX8_line_52 : decode cX8_line 52 = .ok (.aload_n 0, 1) := by decide +kernel
theorem dX8_line_53 : decode cX8_line 53 = .ok (.invokevirtual 101, 3) := by decide +kernel
theorem dX8_line_56 : decode cX8_line 56 = .ok (.iconst 1, 1) := by decide +kernel
theorem dX8_line_57 : decode cX8_line 57 = .ok (.ireturn, 1) := by decide +kernel
theorem dX8_line_58 : decode cX8_line 58 = .ok (.aload_n 0, 1) := by decide +kernel
theorem dX8_line_59 : decode cX8_line 59 = .ok (.invokevirtual 104, 3) := by decide +kernel
theorem dX8_line_62 : decode cX8_line 62 = .ok (.ifCond .ne 8, 3) := by decide +kernel
theorem dX8_line_65 : decode cX8_line 65 = .ok (.aload_n 0, 1) := by decide +kernel
theorem dX8_line_66 : decode cX8_line 66 = .ok (.invokevirtual 108, 3) := by decide +kernel
theorem dX8_line_69 : decode cX8_line 69 = .ok (.ireturn, 1) := by decide +kernel
theorem dX8_line_70 : decode cX8_line 70 = .ok (.aload_n 0, 1) := by decide +kernel
theorem dX8_line_71 : decode cX8_line 71 = .ok (.getfield 33, 3) := by decide +kernel
theorem dX8_line_74 : decode cX8_line 74 = .ok (.iconst 1, 1) := by decide +kernel
theorem dX8_line_75 : decode cX8_line 75 = .ok (.iaload, 1) := by decide +kernel
theorem dX8_line_76 : decode cX8_line 76 = .ok (.bipush 8, 2) := by decide +kernel
theorem dX8_line_78 : decode cX8_line 78 = .ok (.if_icmp .ne 11, 3) := by decide +kernel
theorem dX8_line_81 : decode cX8_line 81 = .ok (.aload_n 0, 1) := by decide +kernel
theorem dX8_line_82 : decode cX8_line 82 = .ok (.iconst 3, 1) := by decide +kernel
theorem dX8_line_83 : decode cX8_line 83 = .ok (.invokevirtual 111, 3) := by decide +kernel
theorem dX8_line_86 : decode cX8_line 86 = .ok (.goto 98, 3) := by decide +kernel
theorem dX8_line_89 : decode cX8_line 89 = .ok (.aload_n 0, 1) := by decide +kernel
theorem dX8_line_90 : decode cX8_line 90 = .ok (.getfield 33, 3) := by decide +kernel
theorem dX8_line_93 : decode cX8_line 93 = .ok (.iconst 1, 1) := by decide +kernel
theorem dX8_line_94 : decode cX8_line 94 = .ok (.iaload, 1) := by decide +kernel
theorem dX8_line_95 : decode cX8_line 95 = .ok (.ifCond .ne 13, 3) := by decide +kernel
theorem dX8_line_98 : decode cX8_line 98 = .ok (.aload_n 0, 1) := by decide +kernel
theorem dX8_line_99 : decode cX8_line 99 = .ok (.getfield 33, 3) := by decide +kernel
theorem dX8_line_102 : decode cX8_line 102 = .ok (.iconst 0, 1) := by decide +kernel
theorem dX8_line_103 : decode cX8_line 103 = .ok (.aload_n 0, 1) := by decide +kernel
theorem dX8_line_104 : decode cX8_line 104 = .ok (.getfield 84, 3) := by decide +kernel
theorem dX8_line_107 : decode cX8_line 107 = .ok (.iastore, 1) := by decide +kernel
theorem dX8_line_108 : decode cX8_line 108 = .ok (.aload_n 0, 1) := by decide +kernel
theorem dX8_line_109 : decode cX8_line 109 = .ok (.getfield 84, 3) := by decide +kernel
theorem dX8_line_112 : decode cX8_line 112 = .ok (.aload_n 0, 1) := by decide +kernel
theorem dX8_line_113 : decode cX8_line 113 = .ok (.getfield 33, 3) := by decide +kernel
theorem dX8_line_116 : decode cX8_line 116 = .ok (.iconst 0, 1) := by decide +kernel
theorem dX8_line_117 : decode cX8_line 117 = .ok (.iaload, 1) := by decide +kernel
theorem dX8_line_118 : decode cX8_line 118 = .ok (.if_icmp .eq 8, 3) := by decide +kernel
theorem dX8_line_121 : decode cX8_line 121 = .ok (.aload_n 0, 1) := by decide +kernel
theorem dX8_line_122 : decode cX8_line 122 = .ok (.iconst 2, 1) := by decide +kernel
theorem dX8_line_123 : decode cX8_line 123 = .ok (.invokevirtual 111, 3) := by decide +kernel
theorem dX8_line_126 : decode cX8_line 126 = .ok (.iconst 0, 1) := by decide +kernel
theorem dX8_line_127 : decode cX8_line 127 = .ok (.istore_n 1, 1) := by decide +kernel
theorem dX8_line_128 : decode cX8_line 128 = .ok (.iload_n 1, 1) := by decide +kernel
theorem dX8_line_129 : decode cX8_line 129 = .ok (.aload_n 0, 1) := by decide +kernel
theorem dX8_line_130 : decode cX8_line 130 = .ok (.getfield 84, 3) := by decide +kernel
theorem dX8_line_133 : decode cX8_line 133 = .ok (.if_icmp .ge 41, 3) := by decide +kernel
theorem dX8_line_136 : decode cX8_line 136 = .ok (.aload_n 0, 1) := by decide +kernel
theorem dX8_line_137 : decode cX8_line 137 = .ok (.getfield 33, 3) := by decide +kernel
theorem dX8_line_140 : decode cX8_line 140 = .ok (.iconst 3, 1) := by decide +kernel
theorem dX8_line_141 : decode cX8_line 141 = .ok (.bipush 8, 2) := by decide +kernel
theorem dX8_line_143 : decode cX8_line 143 = .ok (.aload_n 0, 1) := by decide +kernel
theorem dX8_line_144 : decode cX8_line 144 = .ok (.getfield 33, 3) := by decide +kernel
theorem dX8_line_147 : decode cX8_line 147 = .ok (.iconst 1, 1) := by decide +kernel
theorem dX8_line_148 : decode cX8_line 148 = .ok (.iaload, 1) := by decide +kernel
theorem dX8_line_149 : decode cX8_line 149 = .ok (.imul, 1) := by decide +kernel
theorem dX8_line_150 : decode cX8_line 150 = .ok (.iadd, 1) := by decide +kernel
theorem dX8_line_151 : decode cX8_line 151 = .ok (.iload_n 1, 1) := by decide +kernel
theorem dX8_line_152 : decode cX8_line 152 = .ok (.iadd, 1) := by decide +kernel
theorem dX8_line_153 : decode cX8_line 153 = .ok (.aload_n 0, 1) := by decide +kernel
theorem dX8_line_154 : decode cX8_line 154 = .ok (.getfield 22, 3) := by decide +kernel
theorem dX8_line_157 : decode cX8_line 157 = .ok (.aload_n 0, 1) := by decide +kernel
theorem dX8_line_158 : decode cX8_line 158 = .ok (.getfield 77, 3) := by decide +kernel
theorem dX8_line_161 : decode cX8_line 161 = .ok (.iload_n 1, 1) := by decide +kernel
theorem dX8_line_162 : decode cX8_line 162 = .ok (.iadd, 1) := by decide +kernel
theorem dX8_line_163 : decode cX8_line 163 = .ok (.baload, 1) := by decide +kernel
theorem dX8_line_164 : decode cX8_line 164 = .ok (.bipush 97, 2) := by decide +kernel
theorem dX8_line_166 : decode cX8_line 166 = .ok (.isub, 1) := by decide +kernel
theorem dX8_line_167 : decode cX8_line 167 = .ok (.iastore, 1) := by decide +kernel
theorem dX8_line_168 : decode cX8_line 168 = .ok (.iinc 1 1, 3) := by decide +kernel
theorem dX8_line_171 : decode cX8_line 171 = .ok (.goto (-43), 3) := by decide +kernel
theorem dX8_line_174 : decode cX8_line 174 = .ok (.aload_n 0, 1) := by decide +kernel
theorem dX8_line_175 : decode cX8_line 175 = .ok (.getfield 33, 3) := by decide +kernel
theorem dX8_line_178 : decode cX8_line 178 = .ok (.iconst 1, 1) := by decide +kernel
theorem dX8_line_179 : decode cX8_line 179 = .ok (.dup2, 1) := by decide +kernel
theorem dX8_line_180 : decode cX8_line 180 = .ok (.iaload, 1) := by decide +kernel
theorem dX8_line_181 : decode cX8_line 181 = .ok (.iconst 1, 1) := by decide +kernel
theorem dX8_line_182 : decode cX8_line 182 = .ok (.iadd, 1) := by decide +kernel
theorem dX8_line_183 : decode cX8_line 183 = .ok (.iastore, 1) := by decide +kernel
theorem dX8_line_184 : decode cX8_line 184 = .ok (.aload_n 0, 1) := by decide +kernel
theorem dX8_line_185 : decode cX8_line 185 = .ok (.invokevirtual 101, 3) := by decide +kernel
theorem dX8_line_188 : decode cX8_line 188 = .ok (.iconst 1, 1) := by decide +kernel
theorem dX8_line_189 : decode cX8_line 189 = .ok (.ireturn, 1) := by decide +kernel
def fX8_line_184 (o_reached : Int32) (o_length : Int32) (o_wrongAt : Int32) (o_badAt : Int32) (o_bad : Int32) (o_told_r : Nat → Int32) (o_text_r : Nat → Int32) : Option (Int32 × Int32 × Int32 × Int32 × Int32 × Int64 × Int32 × Int32 × Int32 × (Nat → Int32)) :=
  Option.bind (fX8_token o_reached o_length o_text_r) fun q185 => some ((1 : Int32), q185.1, q185.2.1, q185.2.2.1, q185.2.2.2.1, q185.2.2.2.2, o_wrongAt, o_badAt, o_bad, o_told_r)
def fX8_line_174 (o_reached : Int32) (o_length : Int32) (o_wrongAt : Int32) (o_badAt : Int32) (o_bad : Int32) (o_told_r : Nat → Int32) (o_text_r : Nat → Int32) : Option (Int32 × Int32 × Int32 × Int32 × Int32 × Int64 × Int32 × Int32 × Int32 × (Nat → Int32)) :=
  fX8_line_184 o_reached o_length o_wrongAt o_badAt o_bad (upd o_told_r ((1 : Int32).toNatClampNeg) ((o_told_r (1 : Int32).toNatClampNeg) + (1 : Int32))) o_text_r
def fX8_line_128_b (o_reached : Int32) (o_length : Int32) (o_begin : Int32) (o_letters : Int32) (o_wrongAt : Int32) (o_badAt : Int32) (o_bad : Int32) (o_text_r : Nat → Int32) (v1 : Int32) (o_told_r : Nat → Int32) : Option ((Int32 × (Nat → Int32)) ⊕ (Int32 × Int32 × Int32 × Int32 × Int32 × Int64 × Int32 × Int32 × Int32 × (Nat → Int32))) :=
  if o_letters ≤ v1 then Option.bind (fX8_line_174 o_reached o_length o_wrongAt o_badAt o_bad o_told_r o_text_r) fun z => some (.inr z) else if ds_in (o_begin + v1) 1000 = true then if ds_in (((3 : Int32) + ((8 : Int32) * (o_told_r (1 : Int32).toNatClampNeg))) + v1) 67 = true then some (.inl ((v1 + 1), (upd o_told_r ((((3 : Int32) + ((8 : Int32) * (o_told_r (1 : Int32).toNatClampNeg))) + v1).toNatClampNeg) ((o_text_r (o_begin + v1).toNatClampNeg) - (97 : Int32))))) else none else none
def fX8_line_128 (o_reached : Int32) (o_length : Int32) (o_begin : Int32) (o_letters : Int32) (o_wrongAt : Int32) (o_badAt : Int32) (o_bad : Int32) (o_text_r : Nat → Int32) (v1 : Int32) (o_told_r : Nat → Int32) : Option (Int32 × Int32 × Int32 × Int32 × Int32 × Int64 × Int32 × Int32 × Int32 × (Nat → Int32)) := ds_it (fun s => fX8_line_128_b o_reached o_length o_begin o_letters o_wrongAt o_badAt o_bad o_text_r s.1 s.2) 1000 (v1, o_told_r)
def fX8_line_126 (o_reached : Int32) (o_length : Int32) (o_begin : Int32) (o_letters : Int32) (o_wrongAt : Int32) (o_badAt : Int32) (o_bad : Int32) (o_told_r : Nat → Int32) (o_text_r : Nat → Int32) : Option (Int32 × Int32 × Int32 × Int32 × Int32 × Int64 × Int32 × Int32 × Int32 × (Nat → Int32)) :=
  fX8_line_128 o_reached o_length o_begin o_letters o_wrongAt o_badAt o_bad o_text_r (0 : Int32) o_told_r
def fX8_line_108 (o_reached : Int32) (o_length : Int32) (o_begin : Int32) (o_letters : Int32) (o_wrongAt : Int32) (o_badAt : Int32) (o_bad : Int32) (o_told_r : Nat → Int32) (o_text_r : Nat → Int32) : Option (Int32 × Int32 × Int32 × Int32 × Int32 × Int64 × Int32 × Int32 × Int32 × (Nat → Int32)) :=
  if o_letters = (o_told_r (0 : Int32).toNatClampNeg) then fX8_line_126 o_reached o_length o_begin o_letters o_wrongAt o_badAt o_bad o_told_r o_text_r else Option.bind (fX8_isBad o_begin o_badAt o_bad (2 : Int32)) fun q123 => fX8_line_126 o_reached o_length o_begin o_letters o_wrongAt q123.1 q123.2 o_told_r o_text_r
def fX8_line_58 (o_reached : Int32) (o_length : Int32) (o_begin : Int32) (o_letters : Int32) (o_sort : Int32) (o_word : Int64) (o_wrongAt : Int32) (o_badAt : Int32) (o_bad : Int32) (o_told_r : Nat → Int32) (o_text_r : Nat → Int32) : Option (Int32 × Int32 × Int32 × Int32 × Int32 × Int64 × Int32 × Int32 × Int32 × (Nat → Int32)) :=
  Option.bind (fX8_isRow o_begin o_letters o_sort o_text_r) fun q59 => if q59 = 0 then Option.bind (fX8_fails o_begin) fun q66 => if q66.1 = 0 ∨ q66.1 = 1 then some (q66.1, o_reached, o_begin, o_letters, o_sort, o_word, q66.2, o_badAt, o_bad, o_told_r) else none else if (o_told_r (1 : Int32).toNatClampNeg) = (8 : Int32) then Option.bind (fX8_isBad o_begin o_badAt o_bad (3 : Int32)) fun q83 => fX8_line_184 o_reached o_length o_wrongAt q83.1 q83.2 o_told_r o_text_r else if (o_told_r (1 : Int32).toNatClampNeg) = 0 then fX8_line_108 o_reached o_length o_begin o_letters o_wrongAt o_badAt o_bad (upd o_told_r ((0 : Int32).toNatClampNeg) o_letters) o_text_r else fX8_line_108 o_reached o_length o_begin o_letters o_wrongAt o_badAt o_bad o_told_r o_text_r
def fX8_line_51 (o_reached : Int32) (o_length : Int32) (o_wrongAt : Int32) (o_badAt : Int32) (o_bad : Int32) (o_told_r : Nat → Int32) (o_text_r : Nat → Int32) (s0 : Int32) (s1 : Int32) : Option (Int32 × Int32 × Int32 × Int32 × Int32 × Int64 × Int32 × Int32 × Int32 × (Nat → Int32)) :=
  if ds_in s1 67 = true then Option.bind (fX8_token o_reached o_length o_text_r) fun q53 => some ((1 : Int32), q53.1, q53.2.1, q53.2.2.1, q53.2.2.2.1, q53.2.2.2.2, o_wrongAt, o_badAt, o_bad, (upd o_told_r s1.toNatClampNeg s0)) else none
def fX8_line_30 (o_reached : Int32) (o_length : Int32) (o_word : Int64) (o_wrongAt : Int32) (o_badAt : Int32) (o_bad : Int32) (o_told_r : Nat → Int32) (o_text_r : Nat → Int32) : Option (Int32 × Int32 × Int32 × Int32 × Int32 × Int64 × Int32 × Int32 × Int32 × (Nat → Int32)) :=
  if (lg_cmp o_word (6841720 : Int64)) = 0 then fX8_line_51 o_reached o_length o_wrongAt o_badAt o_bad o_told_r o_text_r (1 : Int32) (2 : Int32) else fX8_line_51 o_reached o_length o_wrongAt o_badAt o_bad o_told_r o_text_r (0 : Int32) (2 : Int32)
def fX8_line (o_reached : Int32) (o_length : Int32) (o_begin : Int32) (o_letters : Int32) (o_sort : Int32) (o_word : Int64) (o_wrongAt : Int32) (o_badAt : Int32) (o_bad : Int32) (o_told_r : Nat → Int32) (o_text_r : Nat → Int32) : Option (Int32 × Int32 × Int32 × Int32 × Int32 × Int64 × Int32 × Int32 × Int32 × (Nat → Int32)) :=
  if o_sort = (2 : Int32) then if (lg_cmp o_word (126931137819237 : Int64)) = 0 then fX8_line_30 o_reached o_length o_word o_wrongAt o_badAt o_bad o_told_r o_text_r else if (lg_cmp o_word (6841720 : Int64)) = 0 then fX8_line_30 o_reached o_length o_word o_wrongAt o_badAt o_bad o_told_r o_text_r else fX8_line_58 o_reached o_length o_begin o_letters o_sort o_word o_wrongAt o_badAt o_bad o_told_r o_text_r else fX8_line_58 o_reached o_length o_begin o_letters o_sort o_word o_wrongAt o_badAt o_bad o_told_r o_text_r
set_option maxHeartbeats 4000000 in
set_option maxRecDepth 100000 in
theorem c_X8_line (l : Launch) (dC : Nat → ClassId) (dI : Nat → Nat → Nat) (ca : Nat → ClassId) (sa : Nat → Nat) (h_o : Nat) (h_o_plans : Nat) (h_o_makers : Nat) (h_o_halves : Nat) (h_o_all : Nat) (h_o_text : Nat) (h_o_saved : Nat) (h_o_undone : Nat) (h_o_told : Nat) (h_o_shift : Nat) (h_o_rootOf : Nat) (h_o_becomes : Nat) (h_o_comes : Nat) (h_o_next : Nat) (sz : Nat) (o_raised : Int32) (o_undos : Int32) (o_reached : Int32) (o_length : Int32) (o_begin : Int32) (o_letters : Int32) (o_sort : Int32) (o_word : Int64) (o_wrongAt : Int32) (o_badAt : Int32) (o_bad : Int32) (o_firstX : Int32) (o_firstY : Int32) (o_secondX : Int32) (o_secondY : Int32) (o_x : Int32) (o_told_r : Nat → Int32) (o_text_r : Nat → Int32) (res : Int32 × Int32 × Int32 × Int32 × Int32 × Int64 × Int32 × Int32 × Int32 × (Nat → Int32)) (hf : fX8_line o_reached o_length o_begin o_letters o_sort o_word o_wrongAt o_badAt o_bad o_told_r o_text_r = some res) : Met l yX8_line (Cond.code yX8_line cX8_line 2 (some .boolean) :: ds_gw) { frames := 2, cells := 0, slots := 0, locals := 43 } (va_Pc [.ref h_o] (ds_Pre dC dI ca sa [(h_o, .inr (7, [.ref h_o_plans, .ref h_o_makers, .ref h_o_halves, .int o_raised, .ref h_o_all, .ref h_o_text, .ref h_o_saved, .ref h_o_undone, .int o_undos, .int o_reached, .int o_length, .int o_begin, .int o_letters, .int o_sort, .long o_word, .int o_wrongAt, .int o_badAt, .int o_bad, .ref h_o_told, .ref h_o_shift, .int o_firstX, .int o_firstY, .int o_secondX, .int o_secondY, .ref h_o_rootOf, .ref h_o_becomes, .ref h_o_comes, .ref h_o_next, .int o_x])), (h_o_told, .inl (ca 0, 67, .inl o_told_r)), (h_o_text, .inl (ca 2, 1000, .inl o_text_r))] sz)) (va_Qi (fun r (_ : Unit) => r = res.1) (ds_B dC dI (va_A [(h_o, .inr (7, [.ref h_o_plans, .ref h_o_makers, .ref h_o_halves, .int o_raised, .ref h_o_all, .ref h_o_text, .ref h_o_saved, .ref h_o_undone, .int o_undos, .int o_reached, .int o_length, .int o_begin, .int o_letters, .int o_sort, .long o_word, .int o_wrongAt, .int o_badAt, .int o_bad, .ref h_o_told, .ref h_o_shift, .int o_firstX, .int o_firstY, .int o_secondX, .int o_secondY, .ref h_o_rootOf, .ref h_o_becomes, .ref h_o_comes, .ref h_o_next, .int o_x])), (h_o_told, .inl (ca 0, 67, .inl o_told_r)), (h_o_text, .inl (ca 2, 1000, .inl o_text_r))] sz) [(h_o, .inr (7, [.ref h_o_plans, .ref h_o_makers, .ref h_o_halves, .int o_raised, .ref h_o_all, .ref h_o_text, .ref h_o_saved, .ref h_o_undone, .int o_undos, .int res.2.1, .int o_length, .int res.2.2.1, .int res.2.2.2.1, .int res.2.2.2.2.1, .long res.2.2.2.2.2.1, .int res.2.2.2.2.2.2.1, .int res.2.2.2.2.2.2.2.1, .int res.2.2.2.2.2.2.2.2.1, .ref h_o_told, .ref h_o_shift, .int o_firstX, .int o_firstY, .int o_secondX, .int o_secondY, .ref h_o_rootOf, .ref h_o_becomes, .ref h_o_comes, .ref h_o_next, .int o_x])), (h_o_told, .inl (ca 0, 67, .inl res.2.2.2.2.2.2.2.2.2)), (h_o_text, .inl (ca 2, 1000, .inl o_text_r))]) (va_A [(h_o, .inr (7, [.ref h_o_plans, .ref h_o_makers, .ref h_o_halves, .int o_raised, .ref h_o_all, .ref h_o_text, .ref h_o_saved, .ref h_o_undone, .int o_undos, .int o_reached, .int o_length, .int o_begin, .int o_letters, .int o_sort, .long o_word, .int o_wrongAt, .int o_badAt, .int o_bad, .ref h_o_told, .ref h_o_shift, .int o_firstX, .int o_firstY, .int o_secondX, .int o_secondY, .ref h_o_rootOf, .ref h_o_becomes, .ref h_o_comes, .ref h_o_next, .int o_x])), (h_o_told, .inl (ca 0, 67, .inl o_told_r)), (h_o_text, .inl (ca 2, 1000, .inl o_text_r))] sz)) 0 0 (va_A [(h_o, .inr (7, [.ref h_o_plans, .ref h_o_makers, .ref h_o_halves, .int o_raised, .ref h_o_all, .ref h_o_text, .ref h_o_saved, .ref h_o_undone, .int o_undos, .int o_reached, .int o_length, .int o_begin, .int o_letters, .int o_sort, .long o_word, .int o_wrongAt, .int o_badAt, .int o_bad, .ref h_o_told, .ref h_o_shift, .int o_firstX, .int o_firstY, .int o_secondX, .int o_secondY, .ref h_o_rootOf, .ref h_o_becomes, .ref h_o_comes, .ref h_o_next, .int o_x])), (h_o_told, .inl (ca 0, 67, .inl o_told_r)), (h_o_text, .inl (ca 2, 1000, .inl o_text_r))] sz) := by
  refine Met.ofW (cc := cX8_line) (maxL := 2) (ret := (some .boolean)) (by decide) rfl ?_
  intro p e s m args below meth c s₁ B hml hv
  obtain ⟨rfl, hsz, hP, hK, hD0, hE⟩ := hv
  have hx := B.exec
  have hb := B.bytes
  have hr := B.returns
  have hts := atoms_spec (ws := Cond.code yX8_line cX8_line 2 (some .boolean) :: ds_gw) B.pre
  have hg : ∀ {w : Cond}, w ∈ ds_gw → w.before _ s = true := fun h => hts _ (List.mem_cons_of_mem _ h)
  have hown : s.vm.findClass RX8 = some m.cls := findClass_of_methodNamed B.named
  have hlocks := B.notSynchronized
  subst hsz
  have hD := hD0.self (sz := s.heap.size)
  generalize hAe : va_A [(h_o, .inr (7, [.ref h_o_plans, .ref h_o_makers, .ref h_o_halves, .int o_raised, .ref h_o_all, .ref h_o_text, .ref h_o_saved, .ref h_o_undone, .int o_undos, .int o_reached, .int o_length, .int o_begin, .int o_letters, .int o_sort, .long o_word, .int o_wrongAt, .int o_badAt, .int o_bad, .ref h_o_told, .ref h_o_shift, .int o_firstX, .int o_firstY, .int o_secondX, .int o_secondY, .ref h_o_rootOf, .ref h_o_becomes, .ref h_o_comes, .ref h_o_next, .int o_x])), (h_o_told, .inl (ca 0, 67, .inl o_told_r)), (h_o_text, .inl (ca 2, 1000, .inl o_text_r))] s.heap.size = A at hD hE ⊢
  have hA : ∀ q : Nat, s.heap.size ≤ q → A q := fun q h => by rw [← hAe]; exact Or.inr h
  have hS : va_S A s.heap s.heap [] := va_S.rf
  have hl := lv_entry ([.ref h_o]) (n := 2) (Nat.le_of_ble_eq_true rfl)
  rw [lg_entry_eq]
  generalize (lg_sl ([.ref h_o]) ++ List.replicate (2 - (lg_sl ([.ref h_o])).length) Slot.unset).toArray = ls at hl ⊢
  have hl : lv_has ls 2 [(0, .ref h_o)] := hl
  obtain ⟨G0, eG0⟩ : ∃ G : (Int32 × Int32 × Int32 × Int32 × Int32 × Int64 × Int32 × Int32 × Int32 × (Nat → Int32)) → Prop, G = (fun r => r = res) := ⟨_, rfl⟩
  obtain ⟨rr, hrr⟩ : ∃ z, z = res := ⟨_, rfl⟩
  rw [← hrr] at hf
  have hG : G0 rr := by subst eG0; exact hrr
  refine ds_cap (fun WW h1 h2 => ?_)
  have J_184 : ∀ (o_reached : Int32) (o_begin : Int32) (o_letters : Int32) (o_sort : Int32) (o_word : Int64) (o_wrongAt : Int32) (o_badAt : Int32) (o_bad : Int32) (o_told_r : Nat → Int32) (rr : Int32 × Int32 × Int32 × Int32 × Int32 × Int64 × Int32 × Int32 × Int32 × (Nat → Int32)) (hf : fX8_line_184 o_reached o_length o_wrongAt o_badAt o_bad o_told_r o_text_r = some rr) (hG : G0 rr) (H : Heap) (locs : List Loc) (hP : va_P (dC, dI) vwCl [(h_o, .inr (7, [.ref h_o_plans, .ref h_o_makers, .ref h_o_halves, .int o_raised, .ref h_o_all, .ref h_o_text, .ref h_o_saved, .ref h_o_undone, .int o_undos, .int o_reached, .int o_length, .int o_begin, .int o_letters, .int o_sort, .long o_word, .int o_wrongAt, .int o_badAt, .int o_bad, .ref h_o_told, .ref h_o_shift, .int o_firstX, .int o_firstY, .int o_secondX, .int o_secondY, .ref h_o_rootOf, .ref h_o_becomes, .ref h_o_comes, .ref h_o_next, .int o_x])), (h_o_told, .inl (ca 0, 67, .inl o_told_r)), (h_o_text, .inl (ca 2, 1000, .inl o_text_r))] H) (hD : va_D A [(h_o, .inr (7, [.ref h_o_plans, .ref h_o_makers, .ref h_o_halves, .int o_raised, .ref h_o_all, .ref h_o_text, .ref h_o_saved, .ref h_o_undone, .int o_undos, .int o_reached, .int o_length, .int o_begin, .int o_letters, .int o_sort, .long o_word, .int o_wrongAt, .int o_badAt, .int o_bad, .ref h_o_told, .ref h_o_shift, .int o_firstX, .int o_firstY, .int o_secondX, .int o_secondY, .ref h_o_rootOf, .ref h_o_becomes, .ref h_o_comes, .ref h_o_next, .int o_x])), (h_o_told, .inl (ca 0, 67, .inl o_told_r)), (h_o_text, .inl (ca 2, 1000, .inl o_text_r))]) (hS : va_S A s.heap H locs) (ls : Array Slot) (hl : lv_has ls 2 [(0, .ref h_o)]), WW H locs (F0 m 184 ls []) := by
    intro o_reached o_begin o_letters o_sort o_word o_wrongAt o_badAt o_bad o_told_r rr hf hG H locs hP hD hS ls hl
    refine h2 ?_
    unfold fX8_line_184 at hf
    refine lv_aload_n hx hb dX8_line_184 rfl (lv_at hl 0 rfl) ?_
    obtain ⟨q185, hq185, hf⟩ := ds_ob hf
    refine ds_callv (wr := [(h_o_told, .inl (ca 0, 67, .inl o_told_r))]) (va_runV (As := []) (rest := []) ⟨hx, hb, hml, hown, hts⟩ (c_X8_token l dC dI ca sa h_o h_o_plans h_o_makers h_o_halves h_o_all h_o_text h_o_saved h_o_undone h_o_told h_o_shift h_o_rootOf h_o_becomes h_o_comes h_o_next H.size o_raised o_undos o_reached o_length o_begin o_letters o_sort o_word o_wrongAt o_badAt o_bad o_firstX o_firstY o_secondX o_secondY o_x o_text_r  q185 hq185) (cwV 0 hts (ds_gV kw_626 kw_627 kw_628 kw_597 kw_629) rfl rfl rfl (by decide +kernel) ⟨Nat.le_of_ble_eq_true rfl, Nat.le_of_ble_eq_true rfl⟩) ⟨ds_blind, va_recv hK hP (ci := 7) (q0 := 0) rfl rfl, ds_at hP hD hK hE hS hA [0, 2] rfl rfl _⟩ rfl rfl hl.1 rfl (lv_room (Nat.le_of_ble_eq_true rfl)) dX8_line_185 ⟨Nat.zero_le _, Nat.zero_le _⟩) hP hD hS hA [0, 2] [1] rfl rfl rfl (by decide) (fun H locs hP hD hS => ?_)
    have hP : va_P (dC, dI) vwCl [(h_o_told, .inl (ca 0, 67, .inl o_told_r)), (h_o, .inr (7, [.ref h_o_plans, .ref h_o_makers, .ref h_o_halves, .int o_raised, .ref h_o_all, .ref h_o_text, .ref h_o_saved, .ref h_o_undone, .int o_undos, .int q185.1, .int o_length, .int q185.2.1, .int q185.2.2.1, .int q185.2.2.2.1, .long q185.2.2.2.2, .int o_wrongAt, .int o_badAt, .int o_bad, .ref h_o_told, .ref h_o_shift, .int o_firstX, .int o_firstY, .int o_secondX, .int o_secondY, .ref h_o_rootOf, .ref h_o_becomes, .ref h_o_comes, .ref h_o_next, .int o_x])), (h_o_text, .inl (ca 2, 1000, .inl o_text_r))] H := hP
    have hD : va_D A [(h_o_told, .inl (ca 0, 67, .inl o_told_r)), (h_o, .inr (7, [.ref h_o_plans, .ref h_o_makers, .ref h_o_halves, .int o_raised, .ref h_o_all, .ref h_o_text, .ref h_o_saved, .ref h_o_undone, .int o_undos, .int q185.1, .int o_length, .int q185.2.1, .int q185.2.2.1, .int q185.2.2.2.1, .long q185.2.2.2.2, .int o_wrongAt, .int o_badAt, .int o_bad, .ref h_o_told, .ref h_o_shift, .int o_firstX, .int o_firstY, .int o_secondX, .int o_secondY, .ref h_o_rootOf, .ref h_o_becomes, .ref h_o_comes, .ref h_o_next, .int o_x])), (h_o_text, .inl (ca 2, 1000, .inl o_text_r))] := hD
    refine lv_iconst (v := 1) hx hb dX8_line_188 (by decide) ?_
    have hf := Option.some.inj hf
    subst hf
    rw [eG0] at hG
    have hG : _ = res := hG
    subst hG
    exact W.zret (v := (1 : Int32)) (ty := .boolean) hx hb hr rfl (fun t ht hW => ⟨⟨(1 : Int32), (), rfl, rfl, by rw [ht]; exact (hP.sub [1, 0, 2] rfl), (hD.sub [1, 0, 2] rfl rfl)⟩, hS.F ht⟩) hS.2.2 dX8_line_189
  have J_174 : ∀ (o_reached : Int32) (o_begin : Int32) (o_letters : Int32) (o_sort : Int32) (o_word : Int64) (o_wrongAt : Int32) (o_badAt : Int32) (o_bad : Int32) (o_told_r : Nat → Int32) (rr : Int32 × Int32 × Int32 × Int32 × Int32 × Int64 × Int32 × Int32 × Int32 × (Nat → Int32)) (hf : fX8_line_174 o_reached o_length o_wrongAt o_badAt o_bad o_told_r o_text_r = some rr) (hG : G0 rr) (H : Heap) (locs : List Loc) (hP : va_P (dC, dI) vwCl [(h_o, .inr (7, [.ref h_o_plans, .ref h_o_makers, .ref h_o_halves, .int o_raised, .ref h_o_all, .ref h_o_text, .ref h_o_saved, .ref h_o_undone, .int o_undos, .int o_reached, .int o_length, .int o_begin, .int o_letters, .int o_sort, .long o_word, .int o_wrongAt, .int o_badAt, .int o_bad, .ref h_o_told, .ref h_o_shift, .int o_firstX, .int o_firstY, .int o_secondX, .int o_secondY, .ref h_o_rootOf, .ref h_o_becomes, .ref h_o_comes, .ref h_o_next, .int o_x])), (h_o_told, .inl (ca 0, 67, .inl o_told_r)), (h_o_text, .inl (ca 2, 1000, .inl o_text_r))] H) (hD : va_D A [(h_o, .inr (7, [.ref h_o_plans, .ref h_o_makers, .ref h_o_halves, .int o_raised, .ref h_o_all, .ref h_o_text, .ref h_o_saved, .ref h_o_undone, .int o_undos, .int o_reached, .int o_length, .int o_begin, .int o_letters, .int o_sort, .long o_word, .int o_wrongAt, .int o_badAt, .int o_bad, .ref h_o_told, .ref h_o_shift, .int o_firstX, .int o_firstY, .int o_secondX, .int o_secondY, .ref h_o_rootOf, .ref h_o_becomes, .ref h_o_comes, .ref h_o_next, .int o_x])), (h_o_told, .inl (ca 0, 67, .inl o_told_r)), (h_o_text, .inl (ca 2, 1000, .inl o_text_r))]) (hS : va_S A s.heap H locs) (ls : Array Slot) (hl : lv_has ls 2 [(0, .ref h_o)]), WW H locs (F0 m 174 ls []) := by
    intro o_reached o_begin o_letters o_sort o_word o_wrongAt o_badAt o_bad o_told_r rr hf hG H locs hP hD hS ls hl
    refine h2 ?_
    unfold fX8_line_174 at hf
    refine lv_aload_n hx hb dX8_line_174 rfl (lv_at hl 0 rfl) ?_
    refine va_get (D := (dC, dI)) (ci := 7) (v := .ref h_o_told) (C := RX8) (T := TX8) (N := 29) hx hb hts (fun w h => List.mem_cons_of_mem _ (kc_X8 w h)) hown hK hP 0 rfl rfl 18 (by decide) (hg kw_630) (fun _ h9 => h9) rfl dX8_line_175 ?_
    refine lv_iconst (v := 1) hx hb dX8_line_178 (by decide) ?_
    refine lv_dup2_11 hx hb dX8_line_179 rfl rfl ?_
    refine va_iald hx hb hK hP 1 0 rfl rfl (ds_in_ok (i := 1) (n := 67) (by decide)) dX8_line_180 ?_
    refine lv_iconst (v := 1) hx hb dX8_line_181 (by decide) ?_
    refine lv_iadd hx hb dX8_line_182 ?_
    refine va_iast hx hb hK hP hD hS 1 0 rfl rfl (ds_in_ok (i := 1) (n := 67) (by decide)) dX8_line_183 (fun H locs hP hD hS => ?_)
    have hP : va_P (dC, dI) vwCl [(h_o, .inr (7, [.ref h_o_plans, .ref h_o_makers, .ref h_o_halves, .int o_raised, .ref h_o_all, .ref h_o_text, .ref h_o_saved, .ref h_o_undone, .int o_undos, .int o_reached, .int o_length, .int o_begin, .int o_letters, .int o_sort, .long o_word, .int o_wrongAt, .int o_badAt, .int o_bad, .ref h_o_told, .ref h_o_shift, .int o_firstX, .int o_firstY, .int o_secondX, .int o_secondY, .ref h_o_rootOf, .ref h_o_becomes, .ref h_o_comes, .ref h_o_next, .int o_x])), (h_o_told, .inl (ca 0, 67, .inl (upd o_told_r ((1 : Int32).toNatClampNeg) ((o_told_r (1 : Int32).toNatClampNeg) + (1 : Int32))))), (h_o_text, .inl (ca 2, 1000, .inl o_text_r))] H := hP
    have hD : va_D A [(h_o, .inr (7, [.ref h_o_plans, .ref h_o_makers, .ref h_o_halves, .int o_raised, .ref h_o_all, .ref h_o_text, .ref h_o_saved, .ref h_o_undone, .int o_undos, .int o_reached, .int o_length, .int o_begin, .int o_letters, .int o_sort, .long o_word, .int o_wrongAt, .int o_badAt, .int o_bad, .ref h_o_told, .ref h_o_shift, .int o_firstX, .int o_firstY, .int o_secondX, .int o_secondY, .ref h_o_rootOf, .ref h_o_becomes, .ref h_o_comes, .ref h_o_next, .int o_x])), (h_o_told, .inl (ca 0, 67, .inl (upd o_told_r ((1 : Int32).toNatClampNeg) ((o_told_r (1 : Int32).toNatClampNeg) + (1 : Int32))))), (h_o_text, .inl (ca 2, 1000, .inl o_text_r))] := hD
    exact h1 (J_184 o_reached o_begin o_letters o_sort o_word o_wrongAt o_badAt o_bad (upd o_told_r ((1 : Int32).toNatClampNeg) ((o_told_r (1 : Int32).toNatClampNeg) + (1 : Int32))) _ hf hG _ _ hP hD hS _ (lv_sub hl [0] rfl))
  have J_128 : ∀ (o_reached : Int32) (o_begin : Int32) (o_letters : Int32) (o_sort : Int32) (o_word : Int64) (o_wrongAt : Int32) (o_badAt : Int32) (o_bad : Int32) (n : Nat) (v1 : Int32) (o_told_r : Nat → Int32) (rr : Int32 × Int32 × Int32 × Int32 × Int32 × Int64 × Int32 × Int32 × Int32 × (Nat → Int32)) (hf : ds_it (fun s => fX8_line_128_b o_reached o_length o_begin o_letters o_wrongAt o_badAt o_bad o_text_r s.1 s.2) n (v1, o_told_r) = some rr) (hG : G0 rr) (H : Heap) (locs : List Loc) (hP : va_P (dC, dI) vwCl [(h_o, .inr (7, [.ref h_o_plans, .ref h_o_makers, .ref h_o_halves, .int o_raised, .ref h_o_all, .ref h_o_text, .ref h_o_saved, .ref h_o_undone, .int o_undos, .int o_reached, .int o_length, .int o_begin, .int o_letters, .int o_sort, .long o_word, .int o_wrongAt, .int o_badAt, .int o_bad, .ref h_o_told, .ref h_o_shift, .int o_firstX, .int o_firstY, .int o_secondX, .int o_secondY, .ref h_o_rootOf, .ref h_o_becomes, .ref h_o_comes, .ref h_o_next, .int o_x])), (h_o_told, .inl (ca 0, 67, .inl o_told_r)), (h_o_text, .inl (ca 2, 1000, .inl o_text_r))] H) (hD : va_D A [(h_o, .inr (7, [.ref h_o_plans, .ref h_o_makers, .ref h_o_halves, .int o_raised, .ref h_o_all, .ref h_o_text, .ref h_o_saved, .ref h_o_undone, .int o_undos, .int o_reached, .int o_length, .int o_begin, .int o_letters, .int o_sort, .long o_word, .int o_wrongAt, .int o_badAt, .int o_bad, .ref h_o_told, .ref h_o_shift, .int o_firstX, .int o_firstY, .int o_secondX, .int o_secondY, .ref h_o_rootOf, .ref h_o_becomes, .ref h_o_comes, .ref h_o_next, .int o_x])), (h_o_told, .inl (ca 0, 67, .inl o_told_r)), (h_o_text, .inl (ca 2, 1000, .inl o_text_r))]) (hS : va_S A s.heap H locs) (ls : Array Slot) (hl : lv_has ls 2 [(0, .ref h_o), (1, .int v1)]), WW H locs (F0 m 128 ls []) := by
    intro o_reached o_begin o_letters o_sort o_word o_wrongAt o_badAt o_bad n
    induction n with
    | zero => intro v1 o_told_r rr hf; exact (ds_it_zero hf).elim
    | succ n ih128 =>
      intro v1 o_told_r rr hf hG H locs hP hD hS ls hl
      refine h2 ?_
      obtain ⟨rr, hf, hG⟩ := ds_it_succ hf hG
      replace hf : fX8_line_128_b o_reached o_length o_begin o_letters o_wrongAt o_badAt o_bad o_text_r v1 o_told_r = some rr := hf
      obtain ⟨G1, eG1⟩ : ∃ G : ((Int32 × (Nat → Int32)) ⊕ (Int32 × Int32 × Int32 × Int32 × Int32 × Int64 × Int32 × Int32 × Int32 × (Nat → Int32))) → Prop, G = ds_G (fun s' => ∃ r', ds_it (fun s => fX8_line_128_b o_reached o_length o_begin o_letters o_wrongAt o_badAt o_bad o_text_r s.1 s.2) n s' = some r' ∧ G0 r') G0 := ⟨_, rfl⟩
      rw [← eG1] at hG
      unfold fX8_line_128_b at hf
      refine lv_iload_n hx hb dX8_line_128 rfl (lv_at hl 1 rfl) ?_
      refine lv_aload_n hx hb dX8_line_129 rfl (lv_at hl 0 rfl) ?_
      refine va_get (D := (dC, dI)) (ci := 7) (v := .int o_letters) (C := RX8) (T := TX8) (N := 29) hx hb hts (fun w h => List.mem_cons_of_mem _ (kc_X8 w h)) hown hK hP 0 rfl rfl 12 (by decide) (hg kw_614) (fun _ h9 => h9) rfl dX8_line_130 ?_
      refine lv_icmp_ge (tgt := 174) hx hb dX8_line_133 (by decide) (fun c_133 => ?_) (fun c_133 => ?_)
      · replace hf := ds_t c_133 hf
        obtain ⟨rr, hr_0, hf⟩ := ds_ob hf
        have hf := Option.some.inj hf
        subst hf
        rw [eG1] at hG
        replace hG : G0 rr := hG
        have hf := hr_0
        exact h1 (J_174 o_reached o_begin o_letters o_sort o_word o_wrongAt o_badAt o_bad o_told_r _ hf hG _ _ hP hD hS _ (lv_sub hl [0] rfl))
      · replace hf := ds_f c_133 hf
        refine lv_aload_n hx hb dX8_line_136 rfl (lv_at hl 0 rfl) ?_
        refine va_get (D := (dC, dI)) (ci := 7) (v := .ref h_o_told) (C := RX8) (T := TX8) (N := 29) hx hb hts (fun w h => List.mem_cons_of_mem _ (kc_X8 w h)) hown hK hP 0 rfl rfl 18 (by decide) (hg kw_630) (fun _ h9 => h9) rfl dX8_line_137 ?_
        refine lv_iconst (v := 3) hx hb dX8_line_140 (by decide) ?_
        refine lv_bipush (v := 8) hx hb dX8_line_141 (by decide) ?_
        refine lv_aload_n hx hb dX8_line_143 rfl (lv_at hl 0 rfl) ?_
        refine va_get (D := (dC, dI)) (ci := 7) (v := .ref h_o_told) (C := RX8) (T := TX8) (N := 29) hx hb hts (fun w h => List.mem_cons_of_mem _ (kc_X8 w h)) hown hK hP 0 rfl rfl 18 (by decide) (hg kw_630) (fun _ h9 => h9) rfl dX8_line_144 ?_
        refine lv_iconst (v := 1) hx hb dX8_line_147 (by decide) ?_
        refine va_iald hx hb hK hP 1 0 rfl rfl (ds_in_ok (i := 1) (n := 67) (by decide)) dX8_line_148 ?_
        refine lv_imul hx hb dX8_line_149 ?_
        refine lv_iadd hx hb dX8_line_150 ?_
        refine lv_iload_n hx hb dX8_line_151 rfl (lv_at hl 1 rfl) ?_
        refine lv_iadd hx hb dX8_line_152 ?_
        refine lv_aload_n hx hb dX8_line_153 rfl (lv_at hl 0 rfl) ?_
        refine va_get (D := (dC, dI)) (ci := 7) (v := .ref h_o_text) (C := RX8) (T := TX8) (N := 29) hx hb hts (fun w h => List.mem_cons_of_mem _ (kc_X8 w h)) hown hK hP 0 rfl rfl 5 (by decide) (hg kw_608) (fun _ h9 => h9) rfl dX8_line_154 ?_
        refine lv_aload_n hx hb dX8_line_157 rfl (lv_at hl 0 rfl) ?_
        refine va_get (D := (dC, dI)) (ci := 7) (v := .int o_begin) (C := RX8) (T := TX8) (N := 29) hx hb hts (fun w h => List.mem_cons_of_mem _ (kc_X8 w h)) hown hK hP 0 rfl rfl 11 (by decide) (hg kw_622) (fun _ h9 => h9) rfl dX8_line_158 ?_
        refine lv_iload_n hx hb dX8_line_161 rfl (lv_at hl 1 rfl) ?_
        refine lv_iadd hx hb dX8_line_162 ?_
        obtain ⟨i_163, hf⟩ := ds_ci hf
        refine va_bald hx hb hK hP 2 2 rfl rfl i_163 dX8_line_163 ?_
        refine lv_bipush (v := 97) hx hb dX8_line_164 (by decide) ?_
        refine lv_isub hx hb dX8_line_166 ?_
        obtain ⟨i_167, hf⟩ := ds_ci hf
        refine va_iast hx hb hK hP hD hS 1 0 rfl rfl i_167 dX8_line_167 (fun H locs hP hD hS => ?_)
        have hP : va_P (dC, dI) vwCl [(h_o, .inr (7, [.ref h_o_plans, .ref h_o_makers, .ref h_o_halves, .int o_raised, .ref h_o_all, .ref h_o_text, .ref h_o_saved, .ref h_o_undone, .int o_undos, .int o_reached, .int o_length, .int o_begin, .int o_letters, .int o_sort, .long o_word, .int o_wrongAt, .int o_badAt, .int o_bad, .ref h_o_told, .ref h_o_shift, .int o_firstX, .int o_firstY, .int o_secondX, .int o_secondY, .ref h_o_rootOf, .ref h_o_becomes, .ref h_o_comes, .ref h_o_next, .int o_x])), (h_o_told, .inl (ca 0, 67, .inl (upd o_told_r ((((3 : Int32) + ((8 : Int32) * (o_told_r (1 : Int32).toNatClampNeg))) + v1).toNatClampNeg) ((o_text_r (o_begin + v1).toNatClampNeg) - (97 : Int32))))), (h_o_text, .inl (ca 2, 1000, .inl o_text_r))] H := hP
        have hD : va_D A [(h_o, .inr (7, [.ref h_o_plans, .ref h_o_makers, .ref h_o_halves, .int o_raised, .ref h_o_all, .ref h_o_text, .ref h_o_saved, .ref h_o_undone, .int o_undos, .int o_reached, .int o_length, .int o_begin, .int o_letters, .int o_sort, .long o_word, .int o_wrongAt, .int o_badAt, .int o_bad, .ref h_o_told, .ref h_o_shift, .int o_firstX, .int o_firstY, .int o_secondX, .int o_secondY, .ref h_o_rootOf, .ref h_o_becomes, .ref h_o_comes, .ref h_o_next, .int o_x])), (h_o_told, .inl (ca 0, 67, .inl (upd o_told_r ((((3 : Int32) + ((8 : Int32) * (o_told_r (1 : Int32).toNatClampNeg))) + v1).toNatClampNeg) ((o_text_r (o_begin + v1).toNatClampNeg) - (97 : Int32))))), (h_o_text, .inl (ca 2, 1000, .inl o_text_r))] := hD
        refine lv_iinc (v := (v1 + 1)) (lv' := [(1, .int (v1 + 1)), (0, .ref h_o)]) hx hb dX8_line_168 hl (k := 1) rfl rfl (by decide) rfl (fun ls hl => ?_)
        refine lv_goto (tgt := 128) hx hb dX8_line_171 (by decide) ?_
        have hf := Option.some.inj hf
        subst hf
        rw [eG1] at hG
        obtain ⟨rr, hf, hG⟩ := hG
        exact h1 (ih128 (v1 + 1) (upd o_told_r ((((3 : Int32) + ((8 : Int32) * (o_told_r (1 : Int32).toNatClampNeg))) + v1).toNatClampNeg) ((o_text_r (o_begin + v1).toNatClampNeg) - (97 : Int32))) rr hf hG _ _ hP hD hS _ (lv_sub hl [1, 0] rfl))
  have J_126 : ∀ (o_reached : Int32) (o_begin : Int32) (o_letters : Int32) (o_sort : Int32) (o_word : Int64) (o_wrongAt : Int32) (o_badAt : Int32) (o_bad : Int32) (o_told_r : Nat → Int32) (rr : Int32 × Int32 × Int32 × Int32 × Int32 × Int64 × Int32 × Int32 × Int32 × (Nat → Int32)) (hf : fX8_line_126 o_reached o_length o_begin o_letters o_wrongAt o_badAt o_bad o_told_r o_text_r = some rr) (hG : G0 rr) (H : Heap) (locs : List Loc) (hP : va_P (dC, dI) vwCl [(h_o, .inr (7, [.ref h_o_plans, .ref h_o_makers, .ref h_o_halves, .int o_raised, .ref h_o_all, .ref h_o_text, .ref h_o_saved, .ref h_o_undone, .int o_undos, .int o_reached, .int o_length, .int o_begin, .int o_letters, .int o_sort, .long o_word, .int o_wrongAt, .int o_badAt, .int o_bad, .ref h_o_told, .ref h_o_shift, .int o_firstX, .int o_firstY, .int o_secondX, .int o_secondY, .ref h_o_rootOf, .ref h_o_becomes, .ref h_o_comes, .ref h_o_next, .int o_x])), (h_o_told, .inl (ca 0, 67, .inl o_told_r)), (h_o_text, .inl (ca 2, 1000, .inl o_text_r))] H) (hD : va_D A [(h_o, .inr (7, [.ref h_o_plans, .ref h_o_makers, .ref h_o_halves, .int o_raised, .ref h_o_all, .ref h_o_text, .ref h_o_saved, .ref h_o_undone, .int o_undos, .int o_reached, .int o_length, .int o_begin, .int o_letters, .int o_sort, .long o_word, .int o_wrongAt, .int o_badAt, .int o_bad, .ref h_o_told, .ref h_o_shift, .int o_firstX, .int o_firstY, .int o_secondX, .int o_secondY, .ref h_o_rootOf, .ref h_o_becomes, .ref h_o_comes, .ref h_o_next, .int o_x])), (h_o_told, .inl (ca 0, 67, .inl o_told_r)), (h_o_text, .inl (ca 2, 1000, .inl o_text_r))]) (hS : va_S A s.heap H locs) (ls : Array Slot) (hl : lv_has ls 2 [(0, .ref h_o)]), WW H locs (F0 m 126 ls []) := by
    intro o_reached o_begin o_letters o_sort o_word o_wrongAt o_badAt o_bad o_told_r rr hf hG H locs hP hD hS ls hl
    refine h2 ?_
    unfold fX8_line_126 at hf
    refine lv_iconst (v := 0) hx hb dX8_line_126 (by decide) ?_
    refine lv_istore_n (lv' := [(1, .int (0 : Int32)), (0, .ref h_o)]) hx hb dX8_line_127 rfl hl (by decide) rfl (fun ls hl => ?_)
    exact h1 (J_128 o_reached o_begin o_letters o_sort o_word o_wrongAt o_badAt o_bad 1000 (0 : Int32) o_told_r _ hf hG _ _ hP hD hS _ (lv_sub hl [1, 0] rfl))
  have J_108 : ∀ (o_reached : Int32) (o_begin : Int32) (o_letters : Int32) (o_sort : Int32) (o_word : Int64) (o_wrongAt : Int32) (o_badAt : Int32) (o_bad : Int32) (o_told_r : Nat → Int32) (rr : Int32 × Int32 × Int32 × Int32 × Int32 × Int64 × Int32 × Int32 × Int32 × (Nat → Int32)) (hf : fX8_line_108 o_reached o_length o_begin o_letters o_wrongAt o_badAt o_bad o_told_r o_text_r = some rr) (hG : G0 rr) (H : Heap) (locs : List Loc) (hP : va_P (dC, dI) vwCl [(h_o, .inr (7, [.ref h_o_plans, .ref h_o_makers, .ref h_o_halves, .int o_raised, .ref h_o_all, .ref h_o_text, .ref h_o_saved, .ref h_o_undone, .int o_undos, .int o_reached, .int o_length, .int o_begin, .int o_letters, .int o_sort, .long o_word, .int o_wrongAt, .int o_badAt, .int o_bad, .ref h_o_told, .ref h_o_shift, .int o_firstX, .int o_firstY, .int o_secondX, .int o_secondY, .ref h_o_rootOf, .ref h_o_becomes, .ref h_o_comes, .ref h_o_next, .int o_x])), (h_o_told, .inl (ca 0, 67, .inl o_told_r)), (h_o_text, .inl (ca 2, 1000, .inl o_text_r))] H) (hD : va_D A [(h_o, .inr (7, [.ref h_o_plans, .ref h_o_makers, .ref h_o_halves, .int o_raised, .ref h_o_all, .ref h_o_text, .ref h_o_saved, .ref h_o_undone, .int o_undos, .int o_reached, .int o_length, .int o_begin, .int o_letters, .int o_sort, .long o_word, .int o_wrongAt, .int o_badAt, .int o_bad, .ref h_o_told, .ref h_o_shift, .int o_firstX, .int o_firstY, .int o_secondX, .int o_secondY, .ref h_o_rootOf, .ref h_o_becomes, .ref h_o_comes, .ref h_o_next, .int o_x])), (h_o_told, .inl (ca 0, 67, .inl o_told_r)), (h_o_text, .inl (ca 2, 1000, .inl o_text_r))]) (hS : va_S A s.heap H locs) (ls : Array Slot) (hl : lv_has ls 2 [(0, .ref h_o)]), WW H locs (F0 m 108 ls []) := by
    intro o_reached o_begin o_letters o_sort o_word o_wrongAt o_badAt o_bad o_told_r rr hf hG H locs hP hD hS ls hl
    refine h2 ?_
    unfold fX8_line_108 at hf
    refine lv_aload_n hx hb dX8_line_108 rfl (lv_at hl 0 rfl) ?_
    refine va_get (D := (dC, dI)) (ci := 7) (v := .int o_letters) (C := RX8) (T := TX8) (N := 29) hx hb hts (fun w h => List.mem_cons_of_mem _ (kc_X8 w h)) hown hK hP 0 rfl rfl 12 (by decide) (hg kw_614) (fun _ h9 => h9) rfl dX8_line_109 ?_
    refine lv_aload_n hx hb dX8_line_112 rfl (lv_at hl 0 rfl) ?_
    refine va_get (D := (dC, dI)) (ci := 7) (v := .ref h_o_told) (C := RX8) (T := TX8) (N := 29) hx hb hts (fun w h => List.mem_cons_of_mem _ (kc_X8 w h)) hown hK hP 0 rfl rfl 18 (by decide) (hg kw_630) (fun _ h9 => h9) rfl dX8_line_113 ?_
    refine lv_iconst (v := 0) hx hb dX8_line_116 (by decide) ?_
    refine va_iald hx hb hK hP 1 0 rfl rfl (ds_in_ok (i := 0) (n := 67) (by decide)) dX8_line_117 ?_
    refine lv_icmp_eq (tgt := 126) hx hb dX8_line_118 (by decide) (fun c_118 => ?_) (fun c_118 => ?_)
    · replace hf := ds_t c_118 hf
      exact h1 (J_126 o_reached o_begin o_letters o_sort o_word o_wrongAt o_badAt o_bad o_told_r _ hf hG _ _ hP hD hS _ (lv_sub hl [0] rfl))
    · replace hf := ds_f c_118 hf
      refine lv_aload_n hx hb dX8_line_121 rfl (lv_at hl 0 rfl) ?_
      refine lv_iconst (v := 2) hx hb dX8_line_122 (by decide) ?_
      obtain ⟨q123, hq123, hf⟩ := ds_ob hf
      refine ds_callv (wr := [(h_o_told, .inl (ca 0, 67, .inl o_told_r)), (h_o_text, .inl (ca 2, 1000, .inl o_text_r))]) (va_runV (As := [.int (2 : Int32)]) (rest := []) ⟨hx, hb, hml, hown, hts⟩ (c_X8_isBad l dC dI ca sa h_o h_o_plans h_o_makers h_o_halves h_o_all h_o_text h_o_saved h_o_undone h_o_told h_o_shift h_o_rootOf h_o_becomes h_o_comes h_o_next H.size o_raised o_undos o_reached o_length o_begin o_letters o_sort o_word o_wrongAt o_badAt o_bad o_firstX o_firstY o_secondX o_secondY o_x (2 : Int32) q123 hq123) (cwV 1 hts (ds_gV kw_631 kw_632 kw_633 kw_597 kw_634) rfl rfl rfl (by decide +kernel) ⟨Nat.le_of_ble_eq_true rfl, Nat.le_of_ble_eq_true rfl⟩) ⟨ds_blind, va_recv hK hP (ci := 7) (q0 := 0) rfl rfl, ds_at hP hD hK hE hS hA [0] rfl rfl _⟩ rfl rfl hl.1 rfl (lv_room (Nat.le_of_ble_eq_true rfl)) dX8_line_123 ⟨Nat.zero_le _, Nat.zero_le _⟩) hP hD hS hA [0] [1, 2] rfl rfl rfl (by decide) (fun H locs hP hD hS => ?_)
      have hP : va_P (dC, dI) vwCl [(h_o_told, .inl (ca 0, 67, .inl o_told_r)), (h_o_text, .inl (ca 2, 1000, .inl o_text_r)), (h_o, .inr (7, [.ref h_o_plans, .ref h_o_makers, .ref h_o_halves, .int o_raised, .ref h_o_all, .ref h_o_text, .ref h_o_saved, .ref h_o_undone, .int o_undos, .int o_reached, .int o_length, .int o_begin, .int o_letters, .int o_sort, .long o_word, .int o_wrongAt, .int q123.1, .int q123.2, .ref h_o_told, .ref h_o_shift, .int o_firstX, .int o_firstY, .int o_secondX, .int o_secondY, .ref h_o_rootOf, .ref h_o_becomes, .ref h_o_comes, .ref h_o_next, .int o_x]))] H := hP
      have hD : va_D A [(h_o_told, .inl (ca 0, 67, .inl o_told_r)), (h_o_text, .inl (ca 2, 1000, .inl o_text_r)), (h_o, .inr (7, [.ref h_o_plans, .ref h_o_makers, .ref h_o_halves, .int o_raised, .ref h_o_all, .ref h_o_text, .ref h_o_saved, .ref h_o_undone, .int o_undos, .int o_reached, .int o_length, .int o_begin, .int o_letters, .int o_sort, .long o_word, .int o_wrongAt, .int q123.1, .int q123.2, .ref h_o_told, .ref h_o_shift, .int o_firstX, .int o_firstY, .int o_secondX, .int o_secondY, .ref h_o_rootOf, .ref h_o_becomes, .ref h_o_comes, .ref h_o_next, .int o_x]))] := hD
      exact h1 (J_126 o_reached o_begin o_letters o_sort o_word o_wrongAt q123.1 q123.2 o_told_r _ hf hG _ _ (hP.sub [2, 0, 1] rfl) (hD.sub [2, 0, 1] rfl rfl) hS _ (lv_sub hl [0] rfl))
  have J_58 : ∀ (o_reached : Int32) (o_begin : Int32) (o_letters : Int32) (o_sort : Int32) (o_word : Int64) (o_wrongAt : Int32) (o_badAt : Int32) (o_bad : Int32) (o_told_r : Nat → Int32) (rr : Int32 × Int32 × Int32 × Int32 × Int32 × Int64 × Int32 × Int32 × Int32 × (Nat → Int32)) (hf : fX8_line_58 o_reached o_length o_begin o_letters o_sort o_word o_wrongAt o_badAt o_bad o_told_r o_text_r = some rr) (hG : G0 rr) (H : Heap) (locs : List Loc) (hP : va_P (dC, dI) vwCl [(h_o, .inr (7, [.ref h_o_plans, .ref h_o_makers, .ref h_o_halves, .int o_raised, .ref h_o_all, .ref h_o_text, .ref h_o_saved, .ref h_o_undone, .int o_undos, .int o_reached, .int o_length, .int o_begin, .int o_letters, .int o_sort, .long o_word, .int o_wrongAt, .int o_badAt, .int o_bad, .ref h_o_told, .ref h_o_shift, .int o_firstX, .int o_firstY, .int o_secondX, .int o_secondY, .ref h_o_rootOf, .ref h_o_becomes, .ref h_o_comes, .ref h_o_next, .int o_x])), (h_o_told, .inl (ca 0, 67, .inl o_told_r)), (h_o_text, .inl (ca 2, 1000, .inl o_text_r))] H) (hD : va_D A [(h_o, .inr (7, [.ref h_o_plans, .ref h_o_makers, .ref h_o_halves, .int o_raised, .ref h_o_all, .ref h_o_text, .ref h_o_saved, .ref h_o_undone, .int o_undos, .int o_reached, .int o_length, .int o_begin, .int o_letters, .int o_sort, .long o_word, .int o_wrongAt, .int o_badAt, .int o_bad, .ref h_o_told, .ref h_o_shift, .int o_firstX, .int o_firstY, .int o_secondX, .int o_secondY, .ref h_o_rootOf, .ref h_o_becomes, .ref h_o_comes, .ref h_o_next, .int o_x])), (h_o_told, .inl (ca 0, 67, .inl o_told_r)), (h_o_text, .inl (ca 2, 1000, .inl o_text_r))]) (hS : va_S A s.heap H locs) (ls : Array Slot) (hl : lv_has ls 2 [(0, .ref h_o)]), WW H locs (F0 m 58 ls []) := by
    intro o_reached o_begin o_letters o_sort o_word o_wrongAt o_badAt o_bad o_told_r rr hf hG H locs hP hD hS ls hl
    refine h2 ?_
    unfold fX8_line_58 at hf
    refine lv_aload_n hx hb dX8_line_58 rfl (lv_at hl 0 rfl) ?_
    obtain ⟨q59, hq59, hf⟩ := ds_ob hf
    refine ds_calli (wr := [(h_o_told, .inl (ca 0, 67, .inl o_told_r))]) (va_runV (As := []) (rest := []) ⟨hx, hb, hml, hown, hts⟩ (c_X8_isRow l dC dI ca sa h_o h_o_plans h_o_makers h_o_halves h_o_all h_o_text h_o_saved h_o_undone h_o_told h_o_shift h_o_rootOf h_o_becomes h_o_comes h_o_next H.size o_raised o_undos o_reached o_length o_begin o_letters o_sort o_word o_wrongAt o_badAt o_bad o_firstX o_firstY o_secondX o_secondY o_x o_text_r  q59 hq59) (cwV 0 hts (ds_gV kw_635 kw_636 kw_637 kw_597 kw_638) rfl rfl rfl (by decide +kernel) ⟨Nat.le_of_ble_eq_true rfl, Nat.le_of_ble_eq_true rfl⟩) ⟨ds_blind, va_recv hK hP (ci := 7) (q0 := 0) rfl rfl, ds_at hP hD hK hE hS hA [0, 2] rfl rfl _⟩ rfl rfl hl.1 rfl (lv_room (Nat.le_of_ble_eq_true rfl)) dX8_line_59 ⟨Nat.zero_le _, Nat.zero_le _⟩) hP hD hS hA [0, 2] [1] rfl rfl rfl (by decide) (fun H locs hP hD hS => ?_)
    have hP : va_P (dC, dI) vwCl [(h_o_told, .inl (ca 0, 67, .inl o_told_r)), (h_o, .inr (7, [.ref h_o_plans, .ref h_o_makers, .ref h_o_halves, .int o_raised, .ref h_o_all, .ref h_o_text, .ref h_o_saved, .ref h_o_undone, .int o_undos, .int o_reached, .int o_length, .int o_begin, .int o_letters, .int o_sort, .long o_word, .int o_wrongAt, .int o_badAt, .int o_bad, .ref h_o_told, .ref h_o_shift, .int o_firstX, .int o_firstY, .int o_secondX, .int o_secondY, .ref h_o_rootOf, .ref h_o_becomes, .ref h_o_comes, .ref h_o_next, .int o_x])), (h_o_text, .inl (ca 2, 1000, .inl o_text_r))] H := hP
    have hD : va_D A [(h_o_told, .inl (ca 0, 67, .inl o_told_r)), (h_o, .inr (7, [.ref h_o_plans, .ref h_o_makers, .ref h_o_halves, .int o_raised, .ref h_o_all, .ref h_o_text, .ref h_o_saved, .ref h_o_undone, .int o_undos, .int o_reached, .int o_length, .int o_begin, .int o_letters, .int o_sort, .long o_word, .int o_wrongAt, .int o_badAt, .int o_bad, .ref h_o_told, .ref h_o_shift, .int o_firstX, .int o_firstY, .int o_secondX, .int o_secondY, .ref h_o_rootOf, .ref h_o_becomes, .ref h_o_comes, .ref h_o_next, .int o_x])), (h_o_text, .inl (ca 2, 1000, .inl o_text_r))] := hD
    refine lv_if_ne (tgt := 70) hx hb dX8_line_62 (by decide) (fun c_62 => ?_) (fun c_62 => ?_)
    · replace hf := ds_f c_62 hf
      refine lv_aload_n hx hb dX8_line_70 rfl (lv_at hl 0 rfl) ?_
      refine va_get (D := (dC, dI)) (ci := 7) (v := .ref h_o_told) (C := RX8) (T := TX8) (N := 29) hx hb hts (fun w h => List.mem_cons_of_mem _ (kc_X8 w h)) hown hK hP 1 rfl rfl 18 (by decide) (hg kw_630) (fun _ h9 => h9) rfl dX8_line_71 ?_
      refine lv_iconst (v := 1) hx hb dX8_line_74 (by decide) ?_
      refine va_iald hx hb hK hP 0 0 rfl rfl (ds_in_ok (i := 1) (n := 67) (by decide)) dX8_line_75 ?_
      refine lv_bipush (v := 8) hx hb dX8_line_76 (by decide) ?_
      refine lv_icmp_ne (tgt := 89) hx hb dX8_line_78 (by decide) (fun c_78 => ?_) (fun c_78 => ?_)
      · replace hf := ds_f c_78 hf
        refine lv_aload_n hx hb dX8_line_89 rfl (lv_at hl 0 rfl) ?_
        refine va_get (D := (dC, dI)) (ci := 7) (v := .ref h_o_told) (C := RX8) (T := TX8) (N := 29) hx hb hts (fun w h => List.mem_cons_of_mem _ (kc_X8 w h)) hown hK hP 1 rfl rfl 18 (by decide) (hg kw_630) (fun _ h9 => h9) rfl dX8_line_90 ?_
        refine lv_iconst (v := 1) hx hb dX8_line_93 (by decide) ?_
        refine va_iald hx hb hK hP 0 0 rfl rfl (ds_in_ok (i := 1) (n := 67) (by decide)) dX8_line_94 ?_
        refine lv_if_ne (tgt := 108) hx hb dX8_line_95 (by decide) (fun c_95 => ?_) (fun c_95 => ?_)
        · replace hf := ds_f c_95 hf
          exact h1 (J_108 o_reached o_begin o_letters o_sort o_word o_wrongAt o_badAt o_bad o_told_r _ hf hG _ _ (hP.sub [1, 0, 2] rfl) (hD.sub [1, 0, 2] rfl rfl) hS _ (lv_sub hl [0] rfl))
        · replace hf := ds_t c_95 hf
          refine lv_aload_n hx hb dX8_line_98 rfl (lv_at hl 0 rfl) ?_
          refine va_get (D := (dC, dI)) (ci := 7) (v := .ref h_o_told) (C := RX8) (T := TX8) (N := 29) hx hb hts (fun w h => List.mem_cons_of_mem _ (kc_X8 w h)) hown hK hP 1 rfl rfl 18 (by decide) (hg kw_630) (fun _ h9 => h9) rfl dX8_line_99 ?_
          refine lv_iconst (v := 0) hx hb dX8_line_102 (by decide) ?_
          refine lv_aload_n hx hb dX8_line_103 rfl (lv_at hl 0 rfl) ?_
          refine va_get (D := (dC, dI)) (ci := 7) (v := .int o_letters) (C := RX8) (T := TX8) (N := 29) hx hb hts (fun w h => List.mem_cons_of_mem _ (kc_X8 w h)) hown hK hP 1 rfl rfl 12 (by decide) (hg kw_614) (fun _ h9 => h9) rfl dX8_line_104 ?_
          refine va_iast hx hb hK hP hD hS 0 0 rfl rfl (ds_in_ok (i := 0) (n := 67) (by decide)) dX8_line_107 (fun H locs hP hD hS => ?_)
          have hP : va_P (dC, dI) vwCl [(h_o_told, .inl (ca 0, 67, .inl (upd o_told_r ((0 : Int32).toNatClampNeg) o_letters))), (h_o, .inr (7, [.ref h_o_plans, .ref h_o_makers, .ref h_o_halves, .int o_raised, .ref h_o_all, .ref h_o_text, .ref h_o_saved, .ref h_o_undone, .int o_undos, .int o_reached, .int o_length, .int o_begin, .int o_letters, .int o_sort, .long o_word, .int o_wrongAt, .int o_badAt, .int o_bad, .ref h_o_told, .ref h_o_shift, .int o_firstX, .int o_firstY, .int o_secondX, .int o_secondY, .ref h_o_rootOf, .ref h_o_becomes, .ref h_o_comes, .ref h_o_next, .int o_x])), (h_o_text, .inl (ca 2, 1000, .inl o_text_r))] H := hP
          have hD : va_D A [(h_o_told, .inl (ca 0, 67, .inl (upd o_told_r ((0 : Int32).toNatClampNeg) o_letters))), (h_o, .inr (7, [.ref h_o_plans, .ref h_o_makers, .ref h_o_halves, .int o_raised, .ref h_o_all, .ref h_o_text, .ref h_o_saved, .ref h_o_undone, .int o_undos, .int o_reached, .int o_length, .int o_begin, .int o_letters, .int o_sort, .long o_word, .int o_wrongAt, .int o_badAt, .int o_bad, .ref h_o_told, .ref h_o_shift, .int o_firstX, .int o_firstY, .int o_secondX, .int o_secondY, .ref h_o_rootOf, .ref h_o_becomes, .ref h_o_comes, .ref h_o_next, .int o_x])), (h_o_text, .inl (ca 2, 1000, .inl o_text_r))] := hD
          exact h1 (J_108 o_reached o_begin o_letters o_sort o_word o_wrongAt o_badAt o_bad (upd o_told_r ((0 : Int32).toNatClampNeg) o_letters) _ hf hG _ _ (hP.sub [1, 0, 2] rfl) (hD.sub [1, 0, 2] rfl rfl) hS _ (lv_sub hl [0] rfl))
      · replace hf := ds_t c_78 hf
        refine lv_aload_n hx hb dX8_line_81 rfl (lv_at hl 0 rfl) ?_
        refine lv_iconst (v := 3) hx hb dX8_line_82 (by decide) ?_
        obtain ⟨q83, hq83, hf⟩ := ds_ob hf
        refine ds_callv (wr := [(h_o_told, .inl (ca 0, 67, .inl o_told_r)), (h_o_text, .inl (ca 2, 1000, .inl o_text_r))]) (va_runV (As := [.int (3 : Int32)]) (rest := []) ⟨hx, hb, hml, hown, hts⟩ (c_X8_isBad l dC dI ca sa h_o h_o_plans h_o_makers h_o_halves h_o_all h_o_text h_o_saved h_o_undone h_o_told h_o_shift h_o_rootOf h_o_becomes h_o_comes h_o_next H.size o_raised o_undos o_reached o_length o_begin o_letters o_sort o_word o_wrongAt o_badAt o_bad o_firstX o_firstY o_secondX o_secondY o_x (3 : Int32) q83 hq83) (cwV 1 hts (ds_gV kw_631 kw_632 kw_633 kw_597 kw_634) rfl rfl rfl (by decide +kernel) ⟨Nat.le_of_ble_eq_true rfl, Nat.le_of_ble_eq_true rfl⟩) ⟨ds_blind, va_recv hK hP (ci := 7) (q0 := 1) rfl rfl, ds_at hP hD hK hE hS hA [1] rfl rfl _⟩ rfl rfl hl.1 rfl (lv_room (Nat.le_of_ble_eq_true rfl)) dX8_line_83 ⟨Nat.zero_le _, Nat.zero_le _⟩) hP hD hS hA [1] [0, 2] rfl rfl rfl (by decide) (fun H locs hP hD hS => ?_)
        have hP : va_P (dC, dI) vwCl [(h_o_told, .inl (ca 0, 67, .inl o_told_r)), (h_o_text, .inl (ca 2, 1000, .inl o_text_r)), (h_o, .inr (7, [.ref h_o_plans, .ref h_o_makers, .ref h_o_halves, .int o_raised, .ref h_o_all, .ref h_o_text, .ref h_o_saved, .ref h_o_undone, .int o_undos, .int o_reached, .int o_length, .int o_begin, .int o_letters, .int o_sort, .long o_word, .int o_wrongAt, .int q83.1, .int q83.2, .ref h_o_told, .ref h_o_shift, .int o_firstX, .int o_firstY, .int o_secondX, .int o_secondY, .ref h_o_rootOf, .ref h_o_becomes, .ref h_o_comes, .ref h_o_next, .int o_x]))] H := hP
        have hD : va_D A [(h_o_told, .inl (ca 0, 67, .inl o_told_r)), (h_o_text, .inl (ca 2, 1000, .inl o_text_r)), (h_o, .inr (7, [.ref h_o_plans, .ref h_o_makers, .ref h_o_halves, .int o_raised, .ref h_o_all, .ref h_o_text, .ref h_o_saved, .ref h_o_undone, .int o_undos, .int o_reached, .int o_length, .int o_begin, .int o_letters, .int o_sort, .long o_word, .int o_wrongAt, .int q83.1, .int q83.2, .ref h_o_told, .ref h_o_shift, .int o_firstX, .int o_firstY, .int o_secondX, .int o_secondY, .ref h_o_rootOf, .ref h_o_becomes, .ref h_o_comes, .ref h_o_next, .int o_x]))] := hD
        refine lv_goto (tgt := 184) hx hb dX8_line_86 (by decide) ?_
        exact h1 (J_184 o_reached o_begin o_letters o_sort o_word o_wrongAt q83.1 q83.2 o_told_r _ hf hG _ _ (hP.sub [2, 0, 1] rfl) (hD.sub [2, 0, 1] rfl rfl) hS _ (lv_sub hl [0] rfl))
    · replace hf := ds_t c_62 hf
      refine lv_aload_n hx hb dX8_line_65 rfl (lv_at hl 0 rfl) ?_
      obtain ⟨q66, hq66, hf⟩ := ds_ob hf
      refine ds_calli (wr := [(h_o_told, .inl (ca 0, 67, .inl o_told_r)), (h_o_text, .inl (ca 2, 1000, .inl o_text_r))]) (va_runV (As := []) (rest := []) ⟨hx, hb, hml, hown, hts⟩ (c_X8_fails l dC dI ca sa h_o h_o_plans h_o_makers h_o_halves h_o_all h_o_text h_o_saved h_o_undone h_o_told h_o_shift h_o_rootOf h_o_becomes h_o_comes h_o_next H.size o_raised o_undos o_reached o_length o_begin o_letters o_sort o_word o_wrongAt o_badAt o_bad o_firstX o_firstY o_secondX o_secondY o_x  q66 hq66) (cwV 0 hts (ds_gV kw_639 kw_640 kw_641 kw_597 kw_642) rfl rfl rfl (by decide +kernel) ⟨Nat.le_of_ble_eq_true rfl, Nat.le_of_ble_eq_true rfl⟩) ⟨ds_blind, va_recv hK hP (ci := 7) (q0 := 1) rfl rfl, ds_at hP hD hK hE hS hA [1] rfl rfl _⟩ rfl rfl hl.1 rfl (lv_room (Nat.le_of_ble_eq_true rfl)) dX8_line_66 ⟨Nat.zero_le _, Nat.zero_le _⟩) hP hD hS hA [1] [0, 2] rfl rfl rfl (by decide) (fun H locs hP hD hS => ?_)
      have hP : va_P (dC, dI) vwCl [(h_o_told, .inl (ca 0, 67, .inl o_told_r)), (h_o_text, .inl (ca 2, 1000, .inl o_text_r)), (h_o, .inr (7, [.ref h_o_plans, .ref h_o_makers, .ref h_o_halves, .int o_raised, .ref h_o_all, .ref h_o_text, .ref h_o_saved, .ref h_o_undone, .int o_undos, .int o_reached, .int o_length, .int o_begin, .int o_letters, .int o_sort, .long o_word, .int q66.2, .int o_badAt, .int o_bad, .ref h_o_told, .ref h_o_shift, .int o_firstX, .int o_firstY, .int o_secondX, .int o_secondY, .ref h_o_rootOf, .ref h_o_becomes, .ref h_o_comes, .ref h_o_next, .int o_x]))] H := hP
      have hD : va_D A [(h_o_told, .inl (ca 0, 67, .inl o_told_r)), (h_o_text, .inl (ca 2, 1000, .inl o_text_r)), (h_o, .inr (7, [.ref h_o_plans, .ref h_o_makers, .ref h_o_halves, .int o_raised, .ref h_o_all, .ref h_o_text, .ref h_o_saved, .ref h_o_undone, .int o_undos, .int o_reached, .int o_length, .int o_begin, .int o_letters, .int o_sort, .long o_word, .int q66.2, .int o_badAt, .int o_bad, .ref h_o_told, .ref h_o_shift, .int o_firstX, .int o_firstY, .int o_secondX, .int o_secondY, .ref h_o_rootOf, .ref h_o_becomes, .ref h_o_comes, .ref h_o_next, .int o_x]))] := hD
      obtain ⟨z_69, hf⟩ := ds_c hf
      have hf := Option.some.inj hf
      subst hf
      rw [eG0] at hG
      have hG : _ = res := hG
      subst hG
      exact W.zret (v := q66.1) (ty := .boolean) hx hb hr (ds_zn z_69) (fun t ht hW => ⟨⟨q66.1, (), rfl, rfl, by rw [ht]; exact (hP.sub [2, 0, 1] rfl), (hD.sub [2, 0, 1] rfl rfl)⟩, hS.F ht⟩) hS.2.2 dX8_line_69
  have J_51 : ∀ (s0 : Int32) (s1 : Int32) (o_reached : Int32) (o_begin : Int32) (o_letters : Int32) (o_sort : Int32) (o_word : Int64) (o_wrongAt : Int32) (o_badAt : Int32) (o_bad : Int32) (o_told_r : Nat → Int32) (rr : Int32 × Int32 × Int32 × Int32 × Int32 × Int64 × Int32 × Int32 × Int32 × (Nat → Int32)) (hf : fX8_line_51 o_reached o_length o_wrongAt o_badAt o_bad o_told_r o_text_r s0 s1 = some rr) (hG : G0 rr) (H : Heap) (locs : List Loc) (hP : va_P (dC, dI) vwCl [(h_o, .inr (7, [.ref h_o_plans, .ref h_o_makers, .ref h_o_halves, .int o_raised, .ref h_o_all, .ref h_o_text, .ref h_o_saved, .ref h_o_undone, .int o_undos, .int o_reached, .int o_length, .int o_begin, .int o_letters, .int o_sort, .long o_word, .int o_wrongAt, .int o_badAt, .int o_bad, .ref h_o_told, .ref h_o_shift, .int o_firstX, .int o_firstY, .int o_secondX, .int o_secondY, .ref h_o_rootOf, .ref h_o_becomes, .ref h_o_comes, .ref h_o_next, .int o_x])), (h_o_told, .inl (ca 0, 67, .inl o_told_r)), (h_o_text, .inl (ca 2, 1000, .inl o_text_r))] H) (hD : va_D A [(h_o, .inr (7, [.ref h_o_plans, .ref h_o_makers, .ref h_o_halves, .int o_raised, .ref h_o_all, .ref h_o_text, .ref h_o_saved, .ref h_o_undone, .int o_undos, .int o_reached, .int o_length, .int o_begin, .int o_letters, .int o_sort, .long o_word, .int o_wrongAt, .int o_badAt, .int o_bad, .ref h_o_told, .ref h_o_shift, .int o_firstX, .int o_firstY, .int o_secondX, .int o_secondY, .ref h_o_rootOf, .ref h_o_becomes, .ref h_o_comes, .ref h_o_next, .int o_x])), (h_o_told, .inl (ca 0, 67, .inl o_told_r)), (h_o_text, .inl (ca 2, 1000, .inl o_text_r))]) (hS : va_S A s.heap H locs) (ls : Array Slot) (hl : lv_has ls 2 [(0, .ref h_o)]), WW H locs (F0 m 51 ls [.int s0, .int s1, .ref h_o_told]) := by
    intro s0 s1 o_reached o_begin o_letters o_sort o_word o_wrongAt o_badAt o_bad o_told_r rr hf hG H locs hP hD hS ls hl
    refine h2 ?_
    unfold fX8_line_51 at hf
    obtain ⟨i_51, hf⟩ := ds_ci hf
    refine va_iast hx hb hK hP hD hS 1 0 rfl rfl i_51 dX8_line_51 (fun H locs hP hD hS => ?_)
    have hP : va_P (dC, dI) vwCl [(h_o, .inr (7, [.ref h_o_plans, .ref h_o_makers, .ref h_o_halves, .int o_raised, .ref h_o_all, .ref h_o_text, .ref h_o_saved, .ref h_o_undone, .int o_undos, .int o_reached, .int o_length, .int o_begin, .int o_letters, .int o_sort, .long o_word, .int o_wrongAt, .int o_badAt, .int o_bad, .ref h_o_told, .ref h_o_shift, .int o_firstX, .int o_firstY, .int o_secondX, .int o_secondY, .ref h_o_rootOf, .ref h_o_becomes, .ref h_o_comes, .ref h_o_next, .int o_x])), (h_o_told, .inl (ca 0, 67, .inl (upd o_told_r s1.toNatClampNeg s0))), (h_o_text, .inl (ca 2, 1000, .inl o_text_r))] H := hP
    have hD : va_D A [(h_o, .inr (7, [.ref h_o_plans, .ref h_o_makers, .ref h_o_halves, .int o_raised, .ref h_o_all, .ref h_o_text, .ref h_o_saved, .ref h_o_undone, .int o_undos, .int o_reached, .int o_length, .int o_begin, .int o_letters, .int o_sort, .long o_word, .int o_wrongAt, .int o_badAt, .int o_bad, .ref h_o_told, .ref h_o_shift, .int o_firstX, .int o_firstY, .int o_secondX, .int o_secondY, .ref h_o_rootOf, .ref h_o_becomes, .ref h_o_comes, .ref h_o_next, .int o_x])), (h_o_told, .inl (ca 0, 67, .inl (upd o_told_r s1.toNatClampNeg s0))), (h_o_text, .inl (ca 2, 1000, .inl o_text_r))] := hD
    refine lv_aload_n hx hb dX8_line_52 rfl (lv_at hl 0 rfl) ?_
    obtain ⟨q53, hq53, hf⟩ := ds_ob hf
    refine ds_callv (wr := [(h_o_told, .inl (ca 0, 67, .inl (upd o_told_r s1.toNatClampNeg s0)))]) (va_runV (As := []) (rest := []) ⟨hx, hb, hml, hown, hts⟩ (c_X8_token l dC dI ca sa h_o h_o_plans h_o_makers h_o_halves h_o_all h_o_text h_o_saved h_o_undone h_o_told h_o_shift h_o_rootOf h_o_becomes h_o_comes h_o_next H.size o_raised o_undos o_reached o_length o_begin o_letters o_sort o_word o_wrongAt o_badAt o_bad o_firstX o_firstY o_secondX o_secondY o_x o_text_r  q53 hq53) (cwV 0 hts (ds_gV kw_626 kw_627 kw_628 kw_597 kw_629) rfl rfl rfl (by decide +kernel) ⟨Nat.le_of_ble_eq_true rfl, Nat.le_of_ble_eq_true rfl⟩) ⟨ds_blind, va_recv hK hP (ci := 7) (q0 := 0) rfl rfl, ds_at hP hD hK hE hS hA [0, 2] rfl rfl _⟩ rfl rfl hl.1 rfl (lv_room (Nat.le_of_ble_eq_true rfl)) dX8_line_53 ⟨Nat.zero_le _, Nat.zero_le _⟩) hP hD hS hA [0, 2] [1] rfl rfl rfl (by decide) (fun H locs hP hD hS => ?_)
    have hP : va_P (dC, dI) vwCl [(h_o_told, .inl (ca 0, 67, .inl (upd o_told_r s1.toNatClampNeg s0))), (h_o, .inr (7, [.ref h_o_plans, .ref h_o_makers, .ref h_o_halves, .int o_raised, .ref h_o_all, .ref h_o_text, .ref h_o_saved, .ref h_o_undone, .int o_undos, .int q53.1, .int o_length, .int q53.2.1, .int q53.2.2.1, .int q53.2.2.2.1, .long q53.2.2.2.2, .int o_wrongAt, .int o_badAt, .int o_bad, .ref h_o_told, .ref h_o_shift, .int o_firstX, .int o_firstY, .int o_secondX, .int o_secondY, .ref h_o_rootOf, .ref h_o_becomes, .ref h_o_comes, .ref h_o_next, .int o_x])), (h_o_text, .inl (ca 2, 1000, .inl o_text_r))] H := hP
    have hD : va_D A [(h_o_told, .inl (ca 0, 67, .inl (upd o_told_r s1.toNatClampNeg s0))), (h_o, .inr (7, [.ref h_o_plans, .ref h_o_makers, .ref h_o_halves, .int o_raised, .ref h_o_all, .ref h_o_text, .ref h_o_saved, .ref h_o_undone, .int o_undos, .int q53.1, .int o_length, .int q53.2.1, .int q53.2.2.1, .int q53.2.2.2.1, .long q53.2.2.2.2, .int o_wrongAt, .int o_badAt, .int o_bad, .ref h_o_told, .ref h_o_shift, .int o_firstX, .int o_firstY, .int o_secondX, .int o_secondY, .ref h_o_rootOf, .ref h_o_becomes, .ref h_o_comes, .ref h_o_next, .int o_x])), (h_o_text, .inl (ca 2, 1000, .inl o_text_r))] := hD
    refine lv_iconst (v := 1) hx hb dX8_line_56 (by decide) ?_
    have hf := Option.some.inj hf
    subst hf
    rw [eG0] at hG
    have hG : _ = res := hG
    subst hG
    exact W.zret (v := (1 : Int32)) (ty := .boolean) hx hb hr rfl (fun t ht hW => ⟨⟨(1 : Int32), (), rfl, rfl, by rw [ht]; exact (hP.sub [1, 0, 2] rfl), (hD.sub [1, 0, 2] rfl rfl)⟩, hS.F ht⟩) hS.2.2 dX8_line_57
  have J_30 : ∀ (o_reached : Int32) (o_begin : Int32) (o_letters : Int32) (o_sort : Int32) (o_word : Int64) (o_wrongAt : Int32) (o_badAt : Int32) (o_bad : Int32) (o_told_r : Nat → Int32) (rr : Int32 × Int32 × Int32 × Int32 × Int32 × Int64 × Int32 × Int32 × Int32 × (Nat → Int32)) (hf : fX8_line_30 o_reached o_length o_word o_wrongAt o_badAt o_bad o_told_r o_text_r = some rr) (hG : G0 rr) (H : Heap) (locs : List Loc) (hP : va_P (dC, dI) vwCl [(h_o, .inr (7, [.ref h_o_plans, .ref h_o_makers, .ref h_o_halves, .int o_raised, .ref h_o_all, .ref h_o_text, .ref h_o_saved, .ref h_o_undone, .int o_undos, .int o_reached, .int o_length, .int o_begin, .int o_letters, .int o_sort, .long o_word, .int o_wrongAt, .int o_badAt, .int o_bad, .ref h_o_told, .ref h_o_shift, .int o_firstX, .int o_firstY, .int o_secondX, .int o_secondY, .ref h_o_rootOf, .ref h_o_becomes, .ref h_o_comes, .ref h_o_next, .int o_x])), (h_o_told, .inl (ca 0, 67, .inl o_told_r)), (h_o_text, .inl (ca 2, 1000, .inl o_text_r))] H) (hD : va_D A [(h_o, .inr (7, [.ref h_o_plans, .ref h_o_makers, .ref h_o_halves, .int o_raised, .ref h_o_all, .ref h_o_text, .ref h_o_saved, .ref h_o_undone, .int o_undos, .int o_reached, .int o_length, .int o_begin, .int o_letters, .int o_sort, .long o_word, .int o_wrongAt, .int o_badAt, .int o_bad, .ref h_o_told, .ref h_o_shift, .int o_firstX, .int o_firstY, .int o_secondX, .int o_secondY, .ref h_o_rootOf, .ref h_o_becomes, .ref h_o_comes, .ref h_o_next, .int o_x])), (h_o_told, .inl (ca 0, 67, .inl o_told_r)), (h_o_text, .inl (ca 2, 1000, .inl o_text_r))]) (hS : va_S A s.heap H locs) (ls : Array Slot) (hl : lv_has ls 2 [(0, .ref h_o)]), WW H locs (F0 m 30 ls []) := by
    intro o_reached o_begin o_letters o_sort o_word o_wrongAt o_badAt o_bad o_told_r rr hf hG H locs hP hD hS ls hl
    refine h2 ?_
    unfold fX8_line_30 at hf
    refine lv_aload_n hx hb dX8_line_30 rfl (lv_at hl 0 rfl) ?_
    refine va_get (D := (dC, dI)) (ci := 7) (v := .ref h_o_told) (C := RX8) (T := TX8) (N := 29) hx hb hts (fun w h => List.mem_cons_of_mem _ (kc_X8 w h)) hown hK hP 0 rfl rfl 18 (by decide) (hg kw_630) (fun _ h9 => h9) rfl dX8_line_31 ?_
    refine lv_iconst (v := 2) hx hb dX8_line_34 (by decide) ?_
    refine lv_aload_n hx hb dX8_line_35 rfl (lv_at hl 0 rfl) ?_
    refine va_get (D := (dC, dI)) (ci := 7) (v := .long o_word) (C := RX8) (T := TX8) (N := 29) hx hb hts (fun w h => List.mem_cons_of_mem _ (kc_X8 w h)) hown hK hP 0 rfl rfl 14 (by decide) (hg kw_613) (fun _ h9 => h9) rfl dX8_line_36 ?_
    refine lv_ldc2 (own := RX8) (v := 6841720) hx hb hown (hg kw_643) dX8_line_39 ?_
    refine W.lcmp hx hb dX8_line_42 ?_
    refine lv_if_ne (tgt := 50) hx hb dX8_line_43 (by decide) (fun c_43 => ?_) (fun c_43 => ?_)
    · replace hf := ds_f c_43 hf
      refine lv_iconst (v := 0) hx hb dX8_line_50 (by decide) ?_
      exact h1 (J_51 (0 : Int32) (2 : Int32) o_reached o_begin o_letters o_sort o_word o_wrongAt o_badAt o_bad o_told_r _ hf hG _ _ hP hD hS _ (lv_sub hl [0] rfl))
    · replace hf := ds_t c_43 hf
      refine lv_iconst (v := 1) hx hb dX8_line_46 (by decide) ?_
      refine lv_goto (tgt := 51) hx hb dX8_line_47 (by decide) ?_
      exact h1 (J_51 (1 : Int32) (2 : Int32) o_reached o_begin o_letters o_sort o_word o_wrongAt o_badAt o_bad o_told_r _ hf hG _ _ hP hD hS _ (lv_sub hl [0] rfl))
  unfold fX8_line at hf
  refine lv_aload_n hx hb dX8_line_0 rfl (lv_at hl 0 rfl) ?_
  refine va_get (D := (dC, dI)) (ci := 7) (v := .int o_sort) (C := RX8) (T := TX8) (N := 29) hx hb hts (fun w h => List.mem_cons_of_mem _ (kc_X8 w h)) hown hK hP 0 rfl rfl 13 (by decide) (hg kw_612) (fun _ h9 => h9) rfl dX8_line_1 ?_
  refine lv_iconst (v := 2) hx hb dX8_line_4 (by decide) ?_
  refine lv_icmp_ne (tgt := 58) hx hb dX8_line_5 (by decide) (fun c_5 => ?_) (fun c_5 => ?_)
  · replace hf := ds_f c_5 hf
    exact h1 (J_58 o_reached o_begin o_letters o_sort o_word o_wrongAt o_badAt o_bad o_told_r _ hf hG _ _ hP hD hS _ (lv_sub hl [0] rfl))
  · replace hf := ds_t c_5 hf
    refine lv_aload_n hx hb dX8_line_8 rfl (lv_at hl 0 rfl) ?_
    refine va_get (D := (dC, dI)) (ci := 7) (v := .long o_word) (C := RX8) (T := TX8) (N := 29) hx hb hts (fun w h => List.mem_cons_of_mem _ (kc_X8 w h)) hown hK hP 0 rfl rfl 14 (by decide) (hg kw_613) (fun _ h9 => h9) rfl dX8_line_9 ?_
    refine lv_ldc2 (own := RX8) (v := 126931137819237) hx hb hown (hg kw_644) dX8_line_12 ?_
    refine W.lcmp hx hb dX8_line_15 ?_
    refine lv_if_eq (tgt := 30) hx hb dX8_line_16 (by decide) (fun c_16 => ?_) (fun c_16 => ?_)
    · replace hf := ds_t c_16 hf
      exact h1 (J_30 o_reached o_begin o_letters o_sort o_word o_wrongAt o_badAt o_bad o_told_r _ hf hG _ _ hP hD hS _ (lv_sub hl [0] rfl))
    · replace hf := ds_f c_16 hf
      refine lv_aload_n hx hb dX8_line_19 rfl (lv_at hl 0 rfl) ?_
      refine va_get (D := (dC, dI)) (ci := 7) (v := .long o_word) (C := RX8) (T := TX8) (N := 29) hx hb hts (fun w h => List.mem_cons_of_mem _ (kc_X8 w h)) hown hK hP 0 rfl rfl 14 (by decide) (hg kw_613) (fun _ h9 => h9) rfl dX8_line_20 ?_
      refine lv_ldc2 (own := RX8) (v := 6841720) hx hb hown (hg kw_643) dX8_line_23 ?_
      refine W.lcmp hx hb dX8_line_26 ?_
      refine lv_if_ne (tgt := 58) hx hb dX8_line_27 (by decide) (fun c_27 => ?_) (fun c_27 => ?_)
      · replace hf := ds_f c_27 hf
        exact h1 (J_58 o_reached o_begin o_letters o_sort o_word o_wrongAt o_badAt o_bad o_told_r _ hf hG _ _ hP hD hS _ (lv_sub hl [0] rfl))
      · replace hf := ds_t c_27 hf
        exact h1 (J_30 o_reached o_begin o_letters o_sort o_word o_wrongAt o_badAt o_bad o_told_r _ hf hG _ _ hP hD hS _ (lv_sub hl [0] rfl))
theorem dX8_read_0 : decode cX8_read 0 = .ok (.aload_n 0, 1) := by decide +kernel
theorem dX8_read_1 : decode cX8_read 1 = .ok (.iconst 0, 1) := by decide +kernel
theorem dX8_read_2 : decode cX8_read 2 = .ok (.putfield 51, 3) := by decide +kernel
theorem dX8_read_5 : decode cX8_read 5 = .ok (.aload_n 0, 1) := by decide +kernel
theorem dX8_read_6 : decode cX8_read 6 = .ok (.aload_n 0, 1) := by decide +kernel
theorem dX8_read_7 : decode cX8_read 7 = .ok (.getfield 19, 3) := by decide +kernel
theorem dX8_read_10 : decode cX8_read 10 = .ok (.bipush 67, 2) := by decide +kernel
theorem dX8_read_12 : decode cX8_read 12 = .ok (.iaload, 1) := by decide +kernel
theorem dX8_read_13 : decode cX8_read 13 = .ok (.putfield 71, 3) := by decide +kernel
theorem dX8_read_16 : decode cX8_read 16 = .ok (.aload_n 0, 1) := by decide +kernel
theorem dX8_read_17 : decode cX8_read 17 = .ok (.getfield 19, 3) := by decide +kernel
theorem dX8_read_20 : decode cX8_read 20 = .ok (.bipush 67, 2) := by decide +kernel
theorem dX8_read_22 : decode cX8_read 22 = .ok (.iconst 0, 1) := by decide +kernel
theorem dX8_read_23 : decode cX8_read 23 = .ok (.iastore, 1) := by decide +kernel
theorem dX8_read_24 : decode cX8_read 24 = .ok (.iconst 0, 1) := by decide +kernel
theorem dX8_read_25 : decode cX8_read 25 = .ok (.istore_n 1, 1) := by decide +kernel
theorem dX8_read_26 : decode cX8_read 26 = .ok (.iload_n 1, 1) := by decide +kernel
theorem dX8_read_27 : decode cX8_read 27 = .ok (.bipush 67, 2) := by decide +kernel
theorem dX8_read_29 : decode cX8_read 29 = .ok (.if_icmp .ge 16, 3) := by decide +kernel
theorem dX8_read_32 : decode cX8_read 32 = .ok (.aload_n 0, 1) := by decide +kernel
theorem dX8_read_33 : decode cX8_read 33 = .ok (.getfield 33, 3) := by decide +kernel
theorem dX8_read_36 : decode cX8_read 36 = .ok (.iload_n 1, 1) := by decide +kernel
theorem dX8_read_37 : decode cX8_read 37 = .ok (.iconst 0, 1) := by decide +kernel
theorem dX8_read_38 : decode cX8_read 38 = .ok (.iastore, 1) := by decide +kernel
theorem dX8_read_39 : decode cX8_read 39 = .ok (.iinc 1 1, 3) := by decide +kernel
theorem dX8_read_42 : decode cX8_read 42 = .ok (.goto (-16), 3) := by decide +kernel
theorem dX8_read_45 : decode cX8_read 45 = .ok (.aload_n 0, 1) := by decide +kernel
theorem dX8_read_46 : decode cX8_read 46 = .ok (.iconst 0, 1) := by decide +kernel
theorem dX8_read_47 : decode cX8_read 47 = .ok (.putfield 115, 3) := by decide +kernel
theorem dX8_read_50 : decode cX8_read 50 = .ok (.aload_n 0, 1) := by decide +kernel
theorem dX8_read_51 : decode cX8_read 51 = .ok (.iconst (-1), 1) := by decide +kernel
theorem dX8_read_52 : decode cX8_read 52 = .ok (.putfield 118, 3) := by decide +kernel
theorem dX8_read_55 : decode cX8_read 55 = .ok (.aload_n 0, 1) := by decide +kernel
theorem dX8_read_56 : decode cX8_read 56 = .ok (.iconst 0, 1) := by decide +kernel
theorem dX8_read_57 : decode cX8_read 57 = .ok (.putfield 68, 3) := by decide +kernel
theorem dX8_read_60 : decode cX8_read 60 = .ok (.aload_n 0, 1) := by decide +kernel
theorem dX8_read_61 : decode cX8_read 61 = .ok (.invokevirtual 101, 3) := by decide +kernel
theorem dX8_read_64 : decode cX8_read 64 = .ok (.iconst 1, 1) := by decide +kernel
theorem dX8_read_65 : decode cX8_read 65 = .ok (.istore_n 1, 1) := by decide +kernel
theorem dX8_read_66 : decode cX8_read 66 = .ok (.iload_n 1, 1) := by decide +kernel
theorem dX8_read_67 : decode cX8_read 67 = .ok (.ifCond .eq 43, 3) := by decide +kernel
theorem dX8_read_70 : decode cX8_read 70 = .ok (.aload_n 0, 1) := by decide +kernel
theorem dX8_read_71 : decode cX8_read 71 = .ok (.getfield 87, 3) := by decide +kernel
theorem dX8_read_74 : decode cX8_read 74 = .ok (.ifCond .eq 36, 3) := by decide +kernel
theorem dX8_read_77 : decode cX8_read 77 = .ok (.aload_n 0, 1) := by decide +kernel
theorem dX8_read_78 : decode cX8_read 78 = .ok (.invokevirtual 121, 3) := by decide +kernel
theorem dX8_read_81 : decode cX8_read 81 = .ok (.istore_n 1, 1) := by decide +kernel
theorem dX8_read_82 : decode cX8_read 82 = .ok (.iload_n 1, 1) := by decide +kernel
theorem dX8_read_83 : decode cX8_read 83 = .ok (.ifCond .eq 16, 3) := by decide +kernel
theorem dX8_read_86 : decode cX8_read 86 = .ok (.aload_n 0, 1) := by decide +kernel
theorem dX8_read_87 : decode cX8_read 87 = .ok (.getfield 87, 3) := by decide +kernel
theorem dX8_read_90 : decode cX8_read 90 = .ok (.iconst 3, 1) := by decide +kernel
theorem dX8_read_91 : decode cX8_read 91 = .ok (.if_icmp .eq 8, 3) := by decide +kernel
theorem dX8_read_94 : decode cX8_read 94 = .ok (.aload_n 0, 1) := by decide +kernel
theorem dX8_read_95 : decode cX8_read 95 = .ok (.invokevirtual 108, 3) := by decide +kernel
theorem dX8_read_98 : decode cX8_read 98 = .ok (.istore_n 1, 1) := by decide +kernel
theorem dX8_read_99 : decode cX8_read 99 = .ok (.iload_n 1, 1) := by decide +kernel
theorem dX8_read_100 : decode cX8_read 100 = .ok (.ifCond .eq (-34), 3) := by decide +kernel
theorem dX8_read_103 : decode cX8_read 103 = .ok (.aload_n 0, 1) := by decide +kernel
theorem dX8_read_104 : decode cX8_read 104 = .ok (.invokevirtual 101, 3) := by decide +kernel
theorem dX8_read_107 : decode cX8_read 107 = .ok (.goto (-41), 3) := by decide +kernel
theorem dX8_read_110 : decode cX8_read 110 = .ok (.iload_n 1, 1) := by decide +kernel
theorem dX8_read_111 : decode cX8_read 111 = .ok (.ifCond .eq 17, 3) := by decide +kernel
theorem dX8_read_114 : decode cX8_read 114 = .ok (.aload_n 0, 1) := by decide +kernel
theorem dX8_read_115 : decode cX8_read 115 = .ok (.getfield 33, 3) := by decide +kernel
theorem dX8_read_118 : decode cX8_read 118 = .ok (.iconst 1, 1) := by decide +kernel
theorem dX8_read_119 : decode cX8_read 119 = .ok (.iaload, 1) := by decide +kernel
theorem dX8_read_120 : decode cX8_read 120 = .ok (.ifCond .ne 8, 3) := by decide +kernel
theorem dX8_read_123 : decode cX8_read 123 = .ok (.aload_n 0, 1) := by decide +kernel
theorem dX8_read_124 : decode cX8_read 124 = .ok (.invokevirtual 108, 3) := by decide +kernel
theorem dX8_read_127 : decode cX8_read 127 = .ok (.istore_n 1, 1) := by decide +kernel
theorem dX8_read_128 : decode cX8_read 128 = .ok (.aload_n 0, 1) := by decide +kernel
theorem dX8_read_129 : decode cX8_read 129 = .ok (.getfield 19, 3) := by decide +kernel
theorem dX8_read_132 : decode cX8_read 132 = .ok (.bipush 68, 2) := by decide +kernel
theorem dX8_read_134 : decode cX8_read 134 = .ok (.iload_n 1, 1) := by decide +kernel
theorem dX8_read_135 : decode cX8_read 135 = .ok (.ifCond .eq 10, 3) := by decide +kernel
theorem dX8_read_138 : decode cX8_read 138 = .ok (.aload_n 0, 1) := by decide +kernel
theorem dX8_read_139 : decode cX8_read 139 = .ok (.getfield 115, 3) := by decide +kernel
theorem dX8_read_142 : decode cX8_read 142 = .ok (.goto 4, 3) := by decide +kernel
theorem dX8_read_145 : decode cX8_read 145 = .ok (.iconst 1, 1) := by decide +kernel
theorem dX8_read_146 : decode cX8_read 146 = .ok (.iastore, 1) := by decide +kernel
theorem dX8_read_147 : decode cX8_read 147 = .ok (.aload_n 0, 1) := by decide +kernel
theorem dX8_read_148 : decode cX8_read 148 = .ok (.getfield 19, 3) := by decide +kernel
theorem dX8_read_151 : decode cX8_read 151 = .ok (.bipush 69, 2) := by decide +kernel
theorem dX8_read_153 : decode cX8_read 153 = .ok (.iload_n 1, 1) := by decide +kernel
theorem dX8_read_154 : decode cX8_read 154 = .ok (.ifCond .eq 10, 3) := by decide +kernel
theorem dX8_read_157 : decode cX8_read 157 = .ok (.aload_n 0, 1) := by decide +kernel
theorem dX8_read_158 : decode cX8_read 158 = .ok (.getfield 118, 3) := by decide +kernel
theorem dX8_read_161 : decode cX8_read 161 = .ok (.goto 7, 3) := by decide +kernel
theorem dX8_read_164 : decode cX8_read 164 = .ok (.aload_n 0, 1) := by decide +kernel
theorem dX8_read_165 : decode cX8_read 165 = .ok (.getfield 94, 3) := by decide +kernel
theorem dX8_read_168 : decode cX8_read 168 = .ok (.iastore, 1) := by decide +kernel
theorem dX8_read_169 : decode cX8_read 169 = .ok (.aload_n 0, 1) := by decide +kernel
theorem dX8_read_170 : decode cX8_read 170 = .ok (.getfield 19, 3) := by decide +kernel
theorem dX8_read_173 : decode cX8_read 173 = .ok (.bipush 68, 2) := by decide +kernel
theorem dX8_read_175 : decode cX8_read 175 = .ok (.iaload, 1) := by decide +kernel
theorem dX8_read_176 : decode cX8_read 176 = .ok (.ifCond .eq 5, 3) := by decide +kernel
theorem dX8_read_179 : decode cX8_read 179 = .ok (.iconst (-1), 1) := by decide +kernel
theorem dX8_read_180 : decode cX8_read 180 = .ok (.ireturn, 1) := by decide +kernel
theorem dX8_read_181 : decode cX8_read 181 = .ok (.iconst 0, 1) := by decide +kernel
theorem dX8_read_182 : decode cX8_read 182 = .ok (.istore_n 2, 1) := by decide +kernel
theorem dX8_read_183 : decode cX8_read 183 = .ok (.iload_n 2, 1) := by decide +kernel
theorem dX8_read_184 : decode cX8_read 184 = .ok (.bipush 67, 2) := by decide +kernel
theorem dX8_read_186 : decode cX8_read 186 = .ok (.if_icmp .ge 21, 3) := by decide +kernel
theorem dX8_read_189 : decode cX8_read 189 = .ok (.aload_n 0, 1) := by decide +kernel
theorem dX8_read_190 : decode cX8_read 190 = .ok (.getfield 19, 3) := by decide +kernel
theorem dX8_read_193 : decode cX8_read 193 = .ok (.iload_n 2, 1) := by decide +kernel
theorem dX8_read_194 : decode cX8_read 194 = .ok (.aload_n 0, 1) := by decide +kernel
theorem dX8_read_195 : decode cX8_read 195 = .ok (.getfield 33, 3) := by decide +kernel
theorem dX8_read_198 : decode cX8_read 198 = .ok (.iload_n 2, 1) := by decide +kernel
theorem dX8_read_199 : decode cX8_read 199 = .ok (.iaload, 1) := by decide +kernel
theorem dX8_read_200 : decode cX8_read 200 = .ok (.iastore, 1) := by decide +kernel
theorem dX8_read_201 : decode cX8_read 201 = .ok (.iinc 2 1, 3) := by decide +kernel
theorem dX8_read_204 : decode cX8_read 204 = .ok (.goto (-21), 3) := by decide +kernel
theorem dX8_read_207 : decode cX8_read 207 = .ok (.aload_n 0, 1) := by decide +kernel
theorem dX8_read_208 : decode cX8_read 208 = .ok (.iconst 0, 1) := by decide +kernel
theorem dX8_read_209 : decode cX8_read 209 = .ok (.putfield 124, 3) := by decide +kernel
theorem dX8_read_212 : decode cX8_read 212 = .ok (.aload_n 0, 1) := by decide +kernel
theorem dX8_read_213 : decode cX8_read 213 = .ok (.getfield 19, 3) := by decide +kernel
theorem dX8_read_216 : decode cX8_read 216 = .ok (.iconst 0, 1) := by decide +kernel
theorem dX8_read_217 : decode cX8_read 217 = .ok (.iaload, 1) := by decide +kernel
theorem dX8_read_218 : decode cX8_read 218 = .ok (.aload_n 0, 1) := by decide +kernel
theorem dX8_read_219 : decode cX8_read 219 = .ok (.getfield 19, 3) := by decide +kernel
theorem dX8_read_222 : decode cX8_read 222 = .ok (.iconst 1, 1) := by decide +kernel
theorem dX8_read_223 : decode cX8_read 223 = .ok (.iaload, 1) := by decide +kernel
theorem dX8_read_224 : decode cX8_read 224 = .ok (.imul, 1) := by decide +kernel
theorem dX8_read_225 : decode cX8_read 225 = .ok (.ireturn, 1) := by decide +kernel
def fX8_read_207 (o_raised : Int32) (o_reached : Int32) (o_length : Int32) (o_begin : Int32) (o_letters : Int32) (o_sort : Int32) (o_word : Int64) (o_wrongAt : Int32) (o_badAt : Int32) (o_bad : Int32) (o_all_r : Nat → Int32) (o_told_r : Nat → Int32) : Option (Int32 × Int32 × Int32 × Int32 × Int32 × Int32 × Int32 × Int32 × Int64 × Int32 × Int32 × Int32 × (Nat → Int32) × (Nat → Int32)) :=
  some (((o_all_r (0 : Int32).toNatClampNeg) * (o_all_r (1 : Int32).toNatClampNeg)), o_raised, (0 : Int32), o_reached, o_length, o_begin, o_letters, o_sort, o_word, o_wrongAt, o_badAt, o_bad, o_all_r, o_told_r)
def fX8_read_183_b (o_raised : Int32) (o_reached : Int32) (o_length : Int32) (o_begin : Int32) (o_letters : Int32) (o_sort : Int32) (o_word : Int64) (o_wrongAt : Int32) (o_badAt : Int32) (o_bad : Int32) (o_told_r : Nat → Int32) (v2 : Int32) (o_all_r : Nat → Int32) : Option ((Int32 × (Nat → Int32)) ⊕ (Int32 × Int32 × Int32 × Int32 × Int32 × Int32 × Int32 × Int32 × Int64 × Int32 × Int32 × Int32 × (Nat → Int32) × (Nat → Int32))) :=
  if (67 : Int32) ≤ v2 then Option.bind (fX8_read_207 o_raised o_reached o_length o_begin o_letters o_sort o_word o_wrongAt o_badAt o_bad o_all_r o_told_r) fun z => some (.inr z) else if ds_in v2 67 = true then if ds_in v2 350 = true then some (.inl ((v2 + 1), (upd o_all_r v2.toNatClampNeg (o_told_r v2.toNatClampNeg)))) else none else none
def fX8_read_183 (o_raised : Int32) (o_reached : Int32) (o_length : Int32) (o_begin : Int32) (o_letters : Int32) (o_sort : Int32) (o_word : Int64) (o_wrongAt : Int32) (o_badAt : Int32) (o_bad : Int32) (o_told_r : Nat → Int32) (v2 : Int32) (o_all_r : Nat → Int32) : Option (Int32 × Int32 × Int32 × Int32 × Int32 × Int32 × Int32 × Int32 × Int64 × Int32 × Int32 × Int32 × (Nat → Int32) × (Nat → Int32)) := ds_it (fun s => fX8_read_183_b o_raised o_reached o_length o_begin o_letters o_sort o_word o_wrongAt o_badAt o_bad o_told_r s.1 s.2) 1000 (v2, o_all_r)
def fX8_read_168 (o_raised : Int32) (o_undos : Int32) (o_reached : Int32) (o_length : Int32) (o_begin : Int32) (o_letters : Int32) (o_sort : Int32) (o_word : Int64) (o_wrongAt : Int32) (o_badAt : Int32) (o_bad : Int32) (o_all_r : Nat → Int32) (o_told_r : Nat → Int32) (s0 : Int32) (s1 : Int32) : Option (Int32 × Int32 × Int32 × Int32 × Int32 × Int32 × Int32 × Int32 × Int64 × Int32 × Int32 × Int32 × (Nat → Int32) × (Nat → Int32)) :=
  if ds_in s1 350 = true then if ((upd o_all_r s1.toNatClampNeg s0) (68 : Int32).toNatClampNeg) = 0 then fX8_read_183 o_raised o_reached o_length o_begin o_letters o_sort o_word o_wrongAt o_badAt o_bad o_told_r (0 : Int32) (upd o_all_r s1.toNatClampNeg s0) else some ((-1 : Int32), o_raised, o_undos, o_reached, o_length, o_begin, o_letters, o_sort, o_word, o_wrongAt, o_badAt, o_bad, (upd o_all_r s1.toNatClampNeg s0), o_told_r) else none
def fX8_read_146 (o_raised : Int32) (o_undos : Int32) (o_reached : Int32) (o_length : Int32) (o_begin : Int32) (o_letters : Int32) (o_sort : Int32) (o_word : Int64) (o_wrongAt : Int32) (o_badAt : Int32) (o_bad : Int32) (o_all_r : Nat → Int32) (o_told_r : Nat → Int32) (s0 : Int32) (s1 : Int32) (v1 : Int32) : Option (Int32 × Int32 × Int32 × Int32 × Int32 × Int32 × Int32 × Int32 × Int64 × Int32 × Int32 × Int32 × (Nat → Int32) × (Nat → Int32)) :=
  if ds_in s1 350 = true then if v1 = 0 then fX8_read_168 o_raised o_undos o_reached o_length o_begin o_letters o_sort o_word o_wrongAt o_badAt o_bad (upd o_all_r s1.toNatClampNeg s0) o_told_r o_wrongAt (69 : Int32) else fX8_read_168 o_raised o_undos o_reached o_length o_begin o_letters o_sort o_word o_wrongAt o_badAt o_bad (upd o_all_r s1.toNatClampNeg s0) o_told_r o_badAt (69 : Int32) else none
def fX8_read_128 (o_raised : Int32) (o_undos : Int32) (o_reached : Int32) (o_length : Int32) (o_begin : Int32) (o_letters : Int32) (o_sort : Int32) (o_word : Int64) (o_wrongAt : Int32) (o_badAt : Int32) (o_bad : Int32) (o_all_r : Nat → Int32) (o_told_r : Nat → Int32) (v1 : Int32) : Option (Int32 × Int32 × Int32 × Int32 × Int32 × Int32 × Int32 × Int32 × Int64 × Int32 × Int32 × Int32 × (Nat → Int32) × (Nat → Int32)) :=
  if v1 = 0 then fX8_read_146 o_raised o_undos o_reached o_length o_begin o_letters o_sort o_word o_wrongAt o_badAt o_bad o_all_r o_told_r (1 : Int32) (68 : Int32) v1 else fX8_read_146 o_raised o_undos o_reached o_length o_begin o_letters o_sort o_word o_wrongAt o_badAt o_bad o_all_r o_told_r o_bad (68 : Int32) v1
def fX8_read_110 (o_raised : Int32) (o_undos : Int32) (o_reached : Int32) (o_length : Int32) (o_begin : Int32) (o_letters : Int32) (o_sort : Int32) (o_word : Int64) (o_wrongAt : Int32) (o_badAt : Int32) (o_bad : Int32) (o_all_r : Nat → Int32) (o_told_r : Nat → Int32) (v1 : Int32) : Option (Int32 × Int32 × Int32 × Int32 × Int32 × Int32 × Int32 × Int32 × Int64 × Int32 × Int32 × Int32 × (Nat → Int32) × (Nat → Int32)) :=
  if v1 = 0 then fX8_read_128 o_raised o_undos o_reached o_length o_begin o_letters o_sort o_word o_wrongAt o_badAt o_bad o_all_r o_told_r v1 else if (o_told_r (1 : Int32).toNatClampNeg) = 0 then Option.bind (fX8_fails o_begin) fun q124 => fX8_read_128 o_raised o_undos o_reached o_length o_begin o_letters o_sort o_word q124.2 o_badAt o_bad o_all_r o_told_r q124.1 else fX8_read_128 o_raised o_undos o_reached o_length o_begin o_letters o_sort o_word o_wrongAt o_badAt o_bad o_all_r o_told_r v1
def fX8_read_99 (o_reached : Int32) (o_length : Int32) (o_begin : Int32) (o_letters : Int32) (o_sort : Int32) (o_word : Int64) (o_wrongAt : Int32) (o_badAt : Int32) (o_bad : Int32) (o_told_r : Nat → Int32) (o_text_r : Nat → Int32) (v1 : Int32) : Option ((Int32 × Int32 × Int32 × Int32 × Int32 × Int64 × Int32 × Int32 × Int32 × (Nat → Int32)) ⊕ (Int32 × Int32 × Int32 × Int32 × Int32 × Int32 × Int32 × Int32 × Int64 × Int32 × Int32 × Int32 × (Nat → Int32) × (Nat → Int32))) :=
  if v1 = 0 then some (.inl (v1, o_reached, o_begin, o_letters, o_sort, o_word, o_wrongAt, o_badAt, o_bad, o_told_r)) else Option.bind (fX8_token o_reached o_length o_text_r) fun q104 => some (.inl (v1, q104.1, q104.2.1, q104.2.2.1, q104.2.2.2.1, q104.2.2.2.2, o_wrongAt, o_badAt, o_bad, o_told_r))
def fX8_read_66_b (o_raised : Int32) (o_undos : Int32) (o_length : Int32) (o_all_r : Nat → Int32) (o_text_r : Nat → Int32) (v1 : Int32) (o_reached : Int32) (o_begin : Int32) (o_letters : Int32) (o_sort : Int32) (o_word : Int64) (o_wrongAt : Int32) (o_badAt : Int32) (o_bad : Int32) (o_told_r : Nat → Int32) : Option ((Int32 × Int32 × Int32 × Int32 × Int32 × Int64 × Int32 × Int32 × Int32 × (Nat → Int32)) ⊕ (Int32 × Int32 × Int32 × Int32 × Int32 × Int32 × Int32 × Int32 × Int64 × Int32 × Int32 × Int32 × (Nat → Int32) × (Nat → Int32))) :=
  if v1 = 0 then Option.bind (fX8_read_110 o_raised o_undos o_reached o_length o_begin o_letters o_sort o_word o_wrongAt o_badAt o_bad o_all_r o_told_r v1) fun z => some (.inr z) else if o_sort = 0 then Option.bind (fX8_read_110 o_raised o_undos o_reached o_length o_begin o_letters o_sort o_word o_wrongAt o_badAt o_bad o_all_r o_told_r v1) fun z => some (.inr z) else Option.bind (fX8_line o_reached o_length o_begin o_letters o_sort o_word o_wrongAt o_badAt o_bad o_told_r o_text_r) fun q78 => if q78.1 = 0 then fX8_read_99 q78.2.1 o_length q78.2.2.1 q78.2.2.2.1 q78.2.2.2.2.1 q78.2.2.2.2.2.1 q78.2.2.2.2.2.2.1 q78.2.2.2.2.2.2.2.1 q78.2.2.2.2.2.2.2.2.1 q78.2.2.2.2.2.2.2.2.2 o_text_r q78.1 else if q78.2.2.2.2.1 = (3 : Int32) then fX8_read_99 q78.2.1 o_length q78.2.2.1 q78.2.2.2.1 q78.2.2.2.2.1 q78.2.2.2.2.2.1 q78.2.2.2.2.2.2.1 q78.2.2.2.2.2.2.2.1 q78.2.2.2.2.2.2.2.2.1 q78.2.2.2.2.2.2.2.2.2 o_text_r q78.1 else Option.bind (fX8_fails q78.2.2.1) fun q95 => fX8_read_99 q78.2.1 o_length q78.2.2.1 q78.2.2.2.1 q78.2.2.2.2.1 q78.2.2.2.2.2.1 q95.2 q78.2.2.2.2.2.2.2.1 q78.2.2.2.2.2.2.2.2.1 q78.2.2.2.2.2.2.2.2.2 o_text_r q95.1
def fX8_read_66 (o_raised : Int32) (o_undos : Int32) (o_length : Int32) (o_all_r : Nat → Int32) (o_text_r : Nat → Int32) (v1 : Int32) (o_reached : Int32) (o_begin : Int32) (o_letters : Int32) (o_sort : Int32) (o_word : Int64) (o_wrongAt : Int32) (o_badAt : Int32) (o_bad : Int32) (o_told_r : Nat → Int32) : Option (Int32 × Int32 × Int32 × Int32 × Int32 × Int32 × Int32 × Int32 × Int64 × Int32 × Int32 × Int32 × (Nat → Int32) × (Nat → Int32)) := ds_it (fun s => fX8_read_66_b o_raised o_undos o_length o_all_r o_text_r s.1 s.2.1 s.2.2.1 s.2.2.2.1 s.2.2.2.2.1 s.2.2.2.2.2.1 s.2.2.2.2.2.2.1 s.2.2.2.2.2.2.2.1 s.2.2.2.2.2.2.2.2.1 s.2.2.2.2.2.2.2.2.2) 1000 (v1, o_reached, o_begin, o_letters, o_sort, o_word, o_wrongAt, o_badAt, o_bad, o_told_r)
def fX8_read_45 (o_raised : Int32) (o_undos : Int32) (o_length : Int32) (o_wrongAt : Int32) (o_all_r : Nat → Int32) (o_told_r : Nat → Int32) (o_text_r : Nat → Int32) : Option (Int32 × Int32 × Int32 × Int32 × Int32 × Int32 × Int32 × Int32 × Int64 × Int32 × Int32 × Int32 × (Nat → Int32) × (Nat → Int32)) :=
  Option.bind (fX8_token (0 : Int32) o_length o_text_r) fun q61 => fX8_read_66 o_raised o_undos o_length o_all_r o_text_r (1 : Int32) q61.1 q61.2.1 q61.2.2.1 q61.2.2.2.1 q61.2.2.2.2 o_wrongAt (-1 : Int32) (0 : Int32) o_told_r
def fX8_read_26_b (o_raised : Int32) (o_undos : Int32) (o_length : Int32) (o_wrongAt : Int32) (o_all_r : Nat → Int32) (o_text_r : Nat → Int32) (v1 : Int32) (o_told_r : Nat → Int32) : Option ((Int32 × (Nat → Int32)) ⊕ (Int32 × Int32 × Int32 × Int32 × Int32 × Int32 × Int32 × Int32 × Int64 × Int32 × Int32 × Int32 × (Nat → Int32) × (Nat → Int32))) :=
  if (67 : Int32) ≤ v1 then Option.bind (fX8_read_45 o_raised o_undos o_length o_wrongAt o_all_r o_told_r o_text_r) fun z => some (.inr z) else if ds_in v1 67 = true then some (.inl ((v1 + 1), (upd o_told_r v1.toNatClampNeg (0 : Int32)))) else none
def fX8_read_26 (o_raised : Int32) (o_undos : Int32) (o_length : Int32) (o_wrongAt : Int32) (o_all_r : Nat → Int32) (o_text_r : Nat → Int32) (v1 : Int32) (o_told_r : Nat → Int32) : Option (Int32 × Int32 × Int32 × Int32 × Int32 × Int32 × Int32 × Int32 × Int64 × Int32 × Int32 × Int32 × (Nat → Int32) × (Nat → Int32)) := ds_it (fun s => fX8_read_26_b o_raised o_undos o_length o_wrongAt o_all_r o_text_r s.1 s.2) 1000 (v1, o_told_r)
def fX8_read (o_undos : Int32) (o_wrongAt : Int32) (o_all_r : Nat → Int32) (o_told_r : Nat → Int32) (o_text_r : Nat → Int32) : Option (Int32 × Int32 × Int32 × Int32 × Int32 × Int32 × Int32 × Int32 × Int64 × Int32 × Int32 × Int32 × (Nat → Int32) × (Nat → Int32)) :=
  fX8_read_26 (0 : Int32) o_undos (o_all_r (67 : Int32).toNatClampNeg) o_wrongAt (upd o_all_r ((67 : Int32).toNatClampNeg) (0 : Int32)) o_text_r (0 : Int32) o_told_r
set_option maxHeartbeats 4000000 in
set_option maxRecDepth 100000 in
theorem c_X8_read (l : Launch) (dC : Nat → ClassId) (dI : Nat → Nat → Nat) (ca : Nat → ClassId) (sa : Nat → Nat) (h_o : Nat) (h_o_plans : Nat) (h_o_makers : Nat) (h_o_halves : Nat) (h_o_all : Nat) (h_o_text : Nat) (h_o_saved : Nat) (h_o_undone : Nat) (h_o_told : Nat) (h_o_shift : Nat) (h_o_rootOf : Nat) (h_o_becomes : Nat) (h_o_comes : Nat) (h_o_next : Nat) (sz : Nat) (o_raised : Int32) (o_undos : Int32) (o_reached : Int32) (o_length : Int32) (o_begin : Int32) (o_letters : Int32) (o_sort : Int32) (o_word : Int64) (o_wrongAt : Int32) (o_badAt : Int32) (o_bad : Int32) (o_firstX : Int32) (o_firstY : Int32) (o_secondX : Int32) (o_secondY : Int32) (o_x : Int32) (o_all_r : Nat → Int32) (o_told_r : Nat → Int32) (o_text_r : Nat → Int32) (res : Int32 × Int32 × Int32 × Int32 × Int32 × Int32 × Int32 × Int32 × Int64 × Int32 × Int32 × Int32 × (Nat → Int32) × (Nat → Int32)) (hf : fX8_read o_undos o_wrongAt o_all_r o_told_r o_text_r = some res) : Met l yX8_read (Cond.code yX8_read cX8_read 3 (some .int) :: ds_gw) { frames := 3, cells := 0, slots := 0, locals := 64 } (va_Pc [.ref h_o] (ds_Pre dC dI ca sa [(h_o, .inr (7, [.ref h_o_plans, .ref h_o_makers, .ref h_o_halves, .int o_raised, .ref h_o_all, .ref h_o_text, .ref h_o_saved, .ref h_o_undone, .int o_undos, .int o_reached, .int o_length, .int o_begin, .int o_letters, .int o_sort, .long o_word, .int o_wrongAt, .int o_badAt, .int o_bad, .ref h_o_told, .ref h_o_shift, .int o_firstX, .int o_firstY, .int o_secondX, .int o_secondY, .ref h_o_rootOf, .ref h_o_becomes, .ref h_o_comes, .ref h_o_next, .int o_x])), (h_o_all, .inl (ca 0, 350, .inl o_all_r)), (h_o_told, .inl (ca 0, 67, .inl o_told_r)), (h_o_text, .inl (ca 2, 1000, .inl o_text_r))] sz)) (va_Qi (fun r (_ : Unit) => r = res.1) (ds_B dC dI (va_A [(h_o, .inr (7, [.ref h_o_plans, .ref h_o_makers, .ref h_o_halves, .int o_raised, .ref h_o_all, .ref h_o_text, .ref h_o_saved, .ref h_o_undone, .int o_undos, .int o_reached, .int o_length, .int o_begin, .int o_letters, .int o_sort, .long o_word, .int o_wrongAt, .int o_badAt, .int o_bad, .ref h_o_told, .ref h_o_shift, .int o_firstX, .int o_firstY, .int o_secondX, .int o_secondY, .ref h_o_rootOf, .ref h_o_becomes, .ref h_o_comes, .ref h_o_next, .int o_x])), (h_o_all, .inl (ca 0, 350, .inl o_all_r)), (h_o_told, .inl (ca 0, 67, .inl o_told_r)), (h_o_text, .inl (ca 2, 1000, .inl o_text_r))] sz) [(h_o, .inr (7, [.ref h_o_plans, .ref h_o_makers, .ref h_o_halves, .int res.2.1, .ref h_o_all, .ref h_o_text, .ref h_o_saved, .ref h_o_undone, .int res.2.2.1, .int res.2.2.2.1, .int res.2.2.2.2.1, .int res.2.2.2.2.2.1, .int res.2.2.2.2.2.2.1, .int res.2.2.2.2.2.2.2.1, .long res.2.2.2.2.2.2.2.2.1, .int res.2.2.2.2.2.2.2.2.2.1, .int res.2.2.2.2.2.2.2.2.2.2.1, .int res.2.2.2.2.2.2.2.2.2.2.2.1, .ref h_o_told, .ref h_o_shift, .int o_firstX, .int o_firstY, .int o_secondX, .int o_secondY, .ref h_o_rootOf, .ref h_o_becomes, .ref h_o_comes, .ref h_o_next, .int o_x])), (h_o_all, .inl (ca 0, 350, .inl res.2.2.2.2.2.2.2.2.2.2.2.2.1)), (h_o_told, .inl (ca 0, 67, .inl res.2.2.2.2.2.2.2.2.2.2.2.2.2)), (h_o_text, .inl (ca 2, 1000, .inl o_text_r))]) (va_A [(h_o, .inr (7, [.ref h_o_plans, .ref h_o_makers, .ref h_o_halves, .int o_raised, .ref h_o_all, .ref h_o_text, .ref h_o_saved, .ref h_o_undone, .int o_undos, .int o_reached, .int o_length, .int o_begin, .int o_letters, .int o_sort, .long o_word, .int o_wrongAt, .int o_badAt, .int o_bad, .ref h_o_told, .ref h_o_shift, .int o_firstX, .int o_firstY, .int o_secondX, .int o_secondY, .ref h_o_rootOf, .ref h_o_becomes, .ref h_o_comes, .ref h_o_next, .int o_x])), (h_o_all, .inl (ca 0, 350, .inl o_all_r)), (h_o_told, .inl (ca 0, 67, .inl o_told_r)), (h_o_text, .inl (ca 2, 1000, .inl o_text_r))] sz)) 0 0 (va_A [(h_o, .inr (7, [.ref h_o_plans, .ref h_o_makers, .ref h_o_halves, .int o_raised, .ref h_o_all, .ref h_o_text, .ref h_o_saved, .ref h_o_undone, .int o_undos, .int o_reached, .int o_length, .int o_begin, .int o_letters, .int o_sort, .long o_word, .int o_wrongAt, .int o_badAt, .int o_bad, .ref h_o_told, .ref h_o_shift, .int o_firstX, .int o_firstY, .int o_secondX, .int o_secondY, .ref h_o_rootOf, .ref h_o_becomes, .ref h_o_comes, .ref h_o_next, .int o_x])), (h_o_all, .inl (ca 0, 350, .inl o_all_r)), (h_o_told, .inl (ca 0, 67, .inl o_told_r)), (h_o_text, .inl (ca 2, 1000, .inl o_text_r))] sz) := by
  refine Met.ofW (cc := cX8_read) (maxL := 3) (ret := (some .int)) (by decide) rfl ?_
  intro p e s m args below meth c s₁ B hml hv
  obtain ⟨rfl, hsz, hP, hK, hD0, hE⟩ := hv
  have hx := B.exec
  have hb := B.bytes
  have hr := B.returns
  have hts := atoms_spec (ws := Cond.code yX8_read cX8_read 3 (some .int) :: ds_gw) B.pre
  have hg : ∀ {w : Cond}, w ∈ ds_gw → w.before _ s = true := fun h => hts _ (List.mem_cons_of_mem _ h)
  have hown : s.vm.findClass RX8 = some m.cls := findClass_of_methodNamed B.named
  have hlocks := B.notSynchronized
  subst hsz
  have hD := hD0.self (sz := s.heap.size)
  generalize hAe : va_A [(h_o, .inr (7, [.ref h_o_plans, .ref h_o_makers, .ref h_o_halves, .int o_raised, .ref h_o_all, .ref h_o_text, .ref h_o_saved, .ref h_o_undone, .int o_undos, .int o_reached, .int o_length, .int o_begin, .int o_letters, .int o_sort, .long o_word, .int o_wrongAt, .int o_badAt, .int o_bad, .ref h_o_told, .ref h_o_shift, .int o_firstX, .int o_firstY, .int o_secondX, .int o_secondY, .ref h_o_rootOf, .ref h_o_becomes, .ref h_o_comes, .ref h_o_next, .int o_x])), (h_o_all, .inl (ca 0, 350, .inl o_all_r)), (h_o_told, .inl (ca 0, 67, .inl o_told_r)), (h_o_text, .inl (ca 2, 1000, .inl o_text_r))] s.heap.size = A at hD hE ⊢
  have hA : ∀ q : Nat, s.heap.size ≤ q → A q := fun q h => by rw [← hAe]; exact Or.inr h
  have hS : va_S A s.heap s.heap [] := va_S.rf
  have hl := lv_entry ([.ref h_o]) (n := 3) (Nat.le_of_ble_eq_true rfl)
  rw [lg_entry_eq]
  generalize (lg_sl ([.ref h_o]) ++ List.replicate (3 - (lg_sl ([.ref h_o])).length) Slot.unset).toArray = ls at hl ⊢
  have hl : lv_has ls 3 [(0, .ref h_o)] := hl
  obtain ⟨G0, eG0⟩ : ∃ G : (Int32 × Int32 × Int32 × Int32 × Int32 × Int32 × Int32 × Int32 × Int64 × Int32 × Int32 × Int32 × (Nat → Int32) × (Nat → Int32)) → Prop, G = (fun r => r = res) := ⟨_, rfl⟩
  obtain ⟨rr, hrr⟩ : ∃ z, z = res := ⟨_, rfl⟩
  rw [← hrr] at hf
  have hG : G0 rr := by subst eG0; exact hrr
  refine ds_cap (fun WW h1 h2 => ?_)
  have J_207 : ∀ (o_raised : Int32) (o_undos : Int32) (o_reached : Int32) (o_length : Int32) (o_begin : Int32) (o_letters : Int32) (o_sort : Int32) (o_word : Int64) (o_wrongAt : Int32) (o_badAt : Int32) (o_bad : Int32) (o_all_r : Nat → Int32) (o_told_r : Nat → Int32) (rr : Int32 × Int32 × Int32 × Int32 × Int32 × Int32 × Int32 × Int32 × Int64 × Int32 × Int32 × Int32 × (Nat → Int32) × (Nat → Int32)) (hf : fX8_read_207 o_raised o_reached o_length o_begin o_letters o_sort o_word o_wrongAt o_badAt o_bad o_all_r o_told_r = some rr) (hG : G0 rr) (H : Heap) (locs : List Loc) (hP : va_P (dC, dI) vwCl [(h_o, .inr (7, [.ref h_o_plans, .ref h_o_makers, .ref h_o_halves, .int o_raised, .ref h_o_all, .ref h_o_text, .ref h_o_saved, .ref h_o_undone, .int o_undos, .int o_reached, .int o_length, .int o_begin, .int o_letters, .int o_sort, .long o_word, .int o_wrongAt, .int o_badAt, .int o_bad, .ref h_o_told, .ref h_o_shift, .int o_firstX, .int o_firstY, .int o_secondX, .int o_secondY, .ref h_o_rootOf, .ref h_o_becomes, .ref h_o_comes, .ref h_o_next, .int o_x])), (h_o_all, .inl (ca 0, 350, .inl o_all_r)), (h_o_told, .inl (ca 0, 67, .inl o_told_r)), (h_o_text, .inl (ca 2, 1000, .inl o_text_r))] H) (hD : va_D A [(h_o, .inr (7, [.ref h_o_plans, .ref h_o_makers, .ref h_o_halves, .int o_raised, .ref h_o_all, .ref h_o_text, .ref h_o_saved, .ref h_o_undone, .int o_undos, .int o_reached, .int o_length, .int o_begin, .int o_letters, .int o_sort, .long o_word, .int o_wrongAt, .int o_badAt, .int o_bad, .ref h_o_told, .ref h_o_shift, .int o_firstX, .int o_firstY, .int o_secondX, .int o_secondY, .ref h_o_rootOf, .ref h_o_becomes, .ref h_o_comes, .ref h_o_next, .int o_x])), (h_o_all, .inl (ca 0, 350, .inl o_all_r)), (h_o_told, .inl (ca 0, 67, .inl o_told_r)), (h_o_text, .inl (ca 2, 1000, .inl o_text_r))]) (hS : va_S A s.heap H locs) (ls : Array Slot) (hl : lv_has ls 3 [(0, .ref h_o)]), WW H locs (F0 m 207 ls []) := by
    intro o_raised o_undos o_reached o_length o_begin o_letters o_sort o_word o_wrongAt o_badAt o_bad o_all_r o_told_r rr hf hG H locs hP hD hS ls hl
    refine h2 ?_
    unfold fX8_read_207 at hf
    refine lv_aload_n hx hb dX8_read_207 rfl (lv_at hl 0 rfl) ?_
    refine lv_iconst (v := 0) hx hb dX8_read_208 (by decide) ?_
    refine va_put (D := (dC, dI)) (ci := 7) (v := .int (0 : Int32)) (ty := tyX8 8) (C := RX8) (T := TX8) (N := 29) hx hb hts (fun w h => List.mem_cons_of_mem _ (kc_X8 w h)) tyX8 tyX8_ok nmX8 hown hK hP hD hS 0 rfl rfl 8 (by decide) (hg kw_645) (fun _ h9 => h9) rfl (by decide +kernel) rfl rfl (Nat.le_of_ble_eq_true rfl) dX8_read_209 (fun H locs hP hD hS => ?_)
    have hP : va_P (dC, dI) vwCl [(h_o, .inr (7, [.ref h_o_plans, .ref h_o_makers, .ref h_o_halves, .int o_raised, .ref h_o_all, .ref h_o_text, .ref h_o_saved, .ref h_o_undone, .int (0 : Int32), .int o_reached, .int o_length, .int o_begin, .int o_letters, .int o_sort, .long o_word, .int o_wrongAt, .int o_badAt, .int o_bad, .ref h_o_told, .ref h_o_shift, .int o_firstX, .int o_firstY, .int o_secondX, .int o_secondY, .ref h_o_rootOf, .ref h_o_becomes, .ref h_o_comes, .ref h_o_next, .int o_x])), (h_o_all, .inl (ca 0, 350, .inl o_all_r)), (h_o_told, .inl (ca 0, 67, .inl o_told_r)), (h_o_text, .inl (ca 2, 1000, .inl o_text_r))] H := hP
    have hD : va_D A [(h_o, .inr (7, [.ref h_o_plans, .ref h_o_makers, .ref h_o_halves, .int o_raised, .ref h_o_all, .ref h_o_text, .ref h_o_saved, .ref h_o_undone, .int (0 : Int32), .int o_reached, .int o_length, .int o_begin, .int o_letters, .int o_sort, .long o_word, .int o_wrongAt, .int o_badAt, .int o_bad, .ref h_o_told, .ref h_o_shift, .int o_firstX, .int o_firstY, .int o_secondX, .int o_secondY, .ref h_o_rootOf, .ref h_o_becomes, .ref h_o_comes, .ref h_o_next, .int o_x])), (h_o_all, .inl (ca 0, 350, .inl o_all_r)), (h_o_told, .inl (ca 0, 67, .inl o_told_r)), (h_o_text, .inl (ca 2, 1000, .inl o_text_r))] := hD
    refine lv_aload_n hx hb dX8_read_212 rfl (lv_at hl 0 rfl) ?_
    refine va_get (D := (dC, dI)) (ci := 7) (v := .ref h_o_all) (C := RX8) (T := TX8) (N := 29) hx hb hts (fun w h => List.mem_cons_of_mem _ (kc_X8 w h)) hown hK hP 0 rfl rfl 4 (by decide) (hg kw_594) (fun _ h9 => h9) rfl dX8_read_213 ?_
    refine lv_iconst (v := 0) hx hb dX8_read_216 (by decide) ?_
    refine va_iald hx hb hK hP 1 0 rfl rfl (ds_in_ok (i := 0) (n := 350) (by decide)) dX8_read_217 ?_
    refine lv_aload_n hx hb dX8_read_218 rfl (lv_at hl 0 rfl) ?_
    refine va_get (D := (dC, dI)) (ci := 7) (v := .ref h_o_all) (C := RX8) (T := TX8) (N := 29) hx hb hts (fun w h => List.mem_cons_of_mem _ (kc_X8 w h)) hown hK hP 0 rfl rfl 4 (by decide) (hg kw_594) (fun _ h9 => h9) rfl dX8_read_219 ?_
    refine lv_iconst (v := 1) hx hb dX8_read_222 (by decide) ?_
    refine va_iald hx hb hK hP 1 0 rfl rfl (ds_in_ok (i := 1) (n := 350) (by decide)) dX8_read_223 ?_
    refine lv_imul hx hb dX8_read_224 ?_
    have hf := Option.some.inj hf
    subst hf
    rw [eG0] at hG
    have hG : _ = res := hG
    subst hG
    exact W.iret (v := ((o_all_r (0 : Int32).toNatClampNeg) * (o_all_r (1 : Int32).toNatClampNeg))) hx hb hr (fun t ht hW => ⟨⟨((o_all_r (0 : Int32).toNatClampNeg) * (o_all_r (1 : Int32).toNatClampNeg)), (), rfl, rfl, by rw [ht]; exact hP, hD⟩, hS.F ht⟩) hS.2.2 dX8_read_225
  have J_183 : ∀ (o_raised : Int32) (o_undos : Int32) (o_reached : Int32) (o_length : Int32) (o_begin : Int32) (o_letters : Int32) (o_sort : Int32) (o_word : Int64) (o_wrongAt : Int32) (o_badAt : Int32) (o_bad : Int32) (o_told_r : Nat → Int32) (n : Nat) (v2 : Int32) (o_all_r : Nat → Int32) (rr : Int32 × Int32 × Int32 × Int32 × Int32 × Int32 × Int32 × Int32 × Int64 × Int32 × Int32 × Int32 × (Nat → Int32) × (Nat → Int32)) (hf : ds_it (fun s => fX8_read_183_b o_raised o_reached o_length o_begin o_letters o_sort o_word o_wrongAt o_badAt o_bad o_told_r s.1 s.2) n (v2, o_all_r) = some rr) (hG : G0 rr) (H : Heap) (locs : List Loc) (hP : va_P (dC, dI) vwCl [(h_o, .inr (7, [.ref h_o_plans, .ref h_o_makers, .ref h_o_halves, .int o_raised, .ref h_o_all, .ref h_o_text, .ref h_o_saved, .ref h_o_undone, .int o_undos, .int o_reached, .int o_length, .int o_begin, .int o_letters, .int o_sort, .long o_word, .int o_wrongAt, .int o_badAt, .int o_bad, .ref h_o_told, .ref h_o_shift, .int o_firstX, .int o_firstY, .int o_secondX, .int o_secondY, .ref h_o_rootOf, .ref h_o_becomes, .ref h_o_comes, .ref h_o_next, .int o_x])), (h_o_all, .inl (ca 0, 350, .inl o_all_r)), (h_o_told, .inl (ca 0, 67, .inl o_told_r)), (h_o_text, .inl (ca 2, 1000, .inl o_text_r))] H) (hD : va_D A [(h_o, .inr (7, [.ref h_o_plans, .ref h_o_makers, .ref h_o_halves, .int o_raised, .ref h_o_all, .ref h_o_text, .ref h_o_saved, .ref h_o_undone, .int o_undos, .int o_reached, .int o_length, .int o_begin, .int o_letters, .int o_sort, .long o_word, .int o_wrongAt, .int o_badAt, .int o_bad, .ref h_o_told, .ref h_o_shift, .int o_firstX, .int o_firstY, .int o_secondX, .int o_secondY, .ref h_o_rootOf, .ref h_o_becomes, .ref h_o_comes, .ref h_o_next, .int o_x])), (h_o_all, .inl (ca 0, 350, .inl o_all_r)), (h_o_told, .inl (ca 0, 67, .inl o_told_r)), (h_o_text, .inl (ca 2, 1000, .inl o_text_r))]) (hS : va_S A s.heap H locs) (ls : Array Slot) (hl : lv_has ls 3 [(0, .ref h_o), (2, .int v2)]), WW H locs (F0 m 183 ls []) := by
    intro o_raised o_undos o_reached o_length o_begin o_letters o_sort o_word o_wrongAt o_badAt o_bad o_told_r n
    induction n with
    | zero => intro v2 o_all_r rr hf; exact (ds_it_zero hf).elim
    | succ n ih183 =>
      intro v2 o_all_r rr hf hG H locs hP hD hS ls hl
      refine h2 ?_
      obtain ⟨rr, hf, hG⟩ := ds_it_succ hf hG
      replace hf : fX8_read_183_b o_raised o_reached o_length o_begin o_letters o_sort o_word o_wrongAt o_badAt o_bad o_told_r v2 o_all_r = some rr := hf
      obtain ⟨G1, eG1⟩ : ∃ G : ((Int32 × (Nat → Int32)) ⊕ (Int32 × Int32 × Int32 × Int32 × Int32 × Int32 × Int32 × Int32 × Int64 × Int32 × Int32 × Int32 × (Nat → Int32) × (Nat → Int32))) → Prop, G = ds_G (fun s' => ∃ r', ds_it (fun s => fX8_read_183_b o_raised o_reached o_length o_begin o_letters o_sort o_word o_wrongAt o_badAt o_bad o_told_r s.1 s.2) n s' = some r' ∧ G0 r') G0 := ⟨_, rfl⟩
      rw [← eG1] at hG
      unfold fX8_read_183_b at hf
      refine lv_iload_n hx hb dX8_read_183 rfl (lv_at hl 1 rfl) ?_
      refine lv_bipush (v := 67) hx hb dX8_read_184 (by decide) ?_
      refine lv_icmp_ge (tgt := 207) hx hb dX8_read_186 (by decide) (fun c_186 => ?_) (fun c_186 => ?_)
      · replace hf := ds_t c_186 hf
        obtain ⟨rr, hr_0, hf⟩ := ds_ob hf
        have hf := Option.some.inj hf
        subst hf
        rw [eG1] at hG
        replace hG : G0 rr := hG
        have hf := hr_0
        exact h1 (J_207 o_raised o_undos o_reached o_length o_begin o_letters o_sort o_word o_wrongAt o_badAt o_bad o_all_r o_told_r _ hf hG _ _ hP hD hS _ (lv_sub hl [0] rfl))
      · replace hf := ds_f c_186 hf
        refine lv_aload_n hx hb dX8_read_189 rfl (lv_at hl 0 rfl) ?_
        refine va_get (D := (dC, dI)) (ci := 7) (v := .ref h_o_all) (C := RX8) (T := TX8) (N := 29) hx hb hts (fun w h => List.mem_cons_of_mem _ (kc_X8 w h)) hown hK hP 0 rfl rfl 4 (by decide) (hg kw_594) (fun _ h9 => h9) rfl dX8_read_190 ?_
        refine lv_iload_n hx hb dX8_read_193 rfl (lv_at hl 1 rfl) ?_
        refine lv_aload_n hx hb dX8_read_194 rfl (lv_at hl 0 rfl) ?_
        refine va_get (D := (dC, dI)) (ci := 7) (v := .ref h_o_told) (C := RX8) (T := TX8) (N := 29) hx hb hts (fun w h => List.mem_cons_of_mem _ (kc_X8 w h)) hown hK hP 0 rfl rfl 18 (by decide) (hg kw_630) (fun _ h9 => h9) rfl dX8_read_195 ?_
        refine lv_iload_n hx hb dX8_read_198 rfl (lv_at hl 1 rfl) ?_
        obtain ⟨i_199, hf⟩ := ds_ci hf
        refine va_iald hx hb hK hP 2 0 rfl rfl i_199 dX8_read_199 ?_
        obtain ⟨i_200, hf⟩ := ds_ci hf
        refine va_iast hx hb hK hP hD hS 1 0 rfl rfl i_200 dX8_read_200 (fun H locs hP hD hS => ?_)
        have hP : va_P (dC, dI) vwCl [(h_o, .inr (7, [.ref h_o_plans, .ref h_o_makers, .ref h_o_halves, .int o_raised, .ref h_o_all, .ref h_o_text, .ref h_o_saved, .ref h_o_undone, .int o_undos, .int o_reached, .int o_length, .int o_begin, .int o_letters, .int o_sort, .long o_word, .int o_wrongAt, .int o_badAt, .int o_bad, .ref h_o_told, .ref h_o_shift, .int o_firstX, .int o_firstY, .int o_secondX, .int o_secondY, .ref h_o_rootOf, .ref h_o_becomes, .ref h_o_comes, .ref h_o_next, .int o_x])), (h_o_all, .inl (ca 0, 350, .inl (upd o_all_r v2.toNatClampNeg (o_told_r v2.toNatClampNeg)))), (h_o_told, .inl (ca 0, 67, .inl o_told_r)), (h_o_text, .inl (ca 2, 1000, .inl o_text_r))] H := hP
        have hD : va_D A [(h_o, .inr (7, [.ref h_o_plans, .ref h_o_makers, .ref h_o_halves, .int o_raised, .ref h_o_all, .ref h_o_text, .ref h_o_saved, .ref h_o_undone, .int o_undos, .int o_reached, .int o_length, .int o_begin, .int o_letters, .int o_sort, .long o_word, .int o_wrongAt, .int o_badAt, .int o_bad, .ref h_o_told, .ref h_o_shift, .int o_firstX, .int o_firstY, .int o_secondX, .int o_secondY, .ref h_o_rootOf, .ref h_o_becomes, .ref h_o_comes, .ref h_o_next, .int o_x])), (h_o_all, .inl (ca 0, 350, .inl (upd o_all_r v2.toNatClampNeg (o_told_r v2.toNatClampNeg)))), (h_o_told, .inl (ca 0, 67, .inl o_told_r)), (h_o_text, .inl (ca 2, 1000, .inl o_text_r))] := hD
        refine lv_iinc (v := (v2 + 1)) (lv' := [(2, .int (v2 + 1)), (0, .ref h_o)]) hx hb dX8_read_201 hl (k := 1) rfl rfl (by decide) rfl (fun ls hl => ?_)
        refine lv_goto (tgt := 183) hx hb dX8_read_204 (by decide) ?_
        have hf := Option.some.inj hf
        subst hf
        rw [eG1] at hG
        obtain ⟨rr, hf, hG⟩ := hG
        exact h1 (ih183 (v2 + 1) (upd o_all_r v2.toNatClampNeg (o_told_r v2.toNatClampNeg)) rr hf hG _ _ hP hD hS _ (lv_sub hl [1, 0] rfl))
  have J_168 : ∀ (s0 : Int32) (s1 : Int32) (o_raised : Int32) (o_undos : Int32) (o_reached : Int32) (o_length : Int32) (o_begin : Int32) (o_letters : Int32) (o_sort : Int32) (o_word : Int64) (o_wrongAt : Int32) (o_badAt : Int32) (o_bad : Int32) (o_all_r : Nat → Int32) (o_told_r : Nat → Int32) (rr : Int32 × Int32 × Int32 × Int32 × Int32 × Int32 × Int32 × Int32 × Int64 × Int32 × Int32 × Int32 × (Nat → Int32) × (Nat → Int32)) (hf : fX8_read_168 o_raised o_undos o_reached o_length o_begin o_letters o_sort o_word o_wrongAt o_badAt o_bad o_all_r o_told_r s0 s1 = some rr) (hG : G0 rr) (H : Heap) (locs : List Loc) (hP : va_P (dC, dI) vwCl [(h_o, .inr (7, [.ref h_o_plans, .ref h_o_makers, .ref h_o_halves, .int o_raised, .ref h_o_all, .ref h_o_text, .ref h_o_saved, .ref h_o_undone, .int o_undos, .int o_reached, .int o_length, .int o_begin, .int o_letters, .int o_sort, .long o_word, .int o_wrongAt, .int o_badAt, .int o_bad, .ref h_o_told, .ref h_o_shift, .int o_firstX, .int o_firstY, .int o_secondX, .int o_secondY, .ref h_o_rootOf, .ref h_o_becomes, .ref h_o_comes, .ref h_o_next, .int o_x])), (h_o_all, .inl (ca 0, 350, .inl o_all_r)), (h_o_told, .inl (ca 0, 67, .inl o_told_r)), (h_o_text, .inl (ca 2, 1000, .inl o_text_r))] H) (hD : va_D A [(h_o, .inr (7, [.ref h_o_plans, .ref h_o_makers, .ref h_o_halves, .int o_raised, .ref h_o_all, .ref h_o_text, .ref h_o_saved, .ref h_o_undone, .int o_undos, .int o_reached, .int o_length, .int o_begin, .int o_letters, .int o_sort, .long o_word, .int o_wrongAt, .int o_badAt, .int o_bad, .ref h_o_told, .ref h_o_shift, .int o_firstX, .int o_firstY, .int o_secondX, .int o_secondY, .ref h_o_rootOf, .ref h_o_becomes, .ref h_o_comes, .ref h_o_next, .int o_x])), (h_o_all, .inl (ca 0, 350, .inl o_all_r)), (h_o_told, .inl (ca 0, 67, .inl o_told_r)), (h_o_text, .inl (ca 2, 1000, .inl o_text_r))]) (hS : va_S A s.heap H locs) (ls : Array Slot) (hl : lv_has ls 3 [(0, .ref h_o)]), WW H locs (F0 m 168 ls [.int s0, .int s1, .ref h_o_all]) := by
    intro s0 s1 o_raised o_undos o_reached o_length o_begin o_letters o_sort o_word o_wrongAt o_badAt o_bad o_all_r o_told_r rr hf hG H locs hP hD hS ls hl
    refine h2 ?_
    unfold fX8_read_168 at hf
    obtain ⟨i_168, hf⟩ := ds_ci hf
    refine va_iast hx hb hK hP hD hS 1 0 rfl rfl i_168 dX8_read_168 (fun H locs hP hD hS => ?_)
    have hP : va_P (dC, dI) vwCl [(h_o, .inr (7, [.ref h_o_plans, .ref h_o_makers, .ref h_o_halves, .int o_raised, .ref h_o_all, .ref h_o_text, .ref h_o_saved, .ref h_o_undone, .int o_undos, .int o_reached, .int o_length, .int o_begin, .int o_letters, .int o_sort, .long o_word, .int o_wrongAt, .int o_badAt, .int o_bad, .ref h_o_told, .ref h_o_shift, .int o_firstX, .int o_firstY, .int o_secondX, .int o_secondY, .ref h_o_rootOf, .ref h_o_becomes, .ref h_o_comes, .ref h_o_next, .int o_x])), (h_o_all, .inl (ca 0, 350, .inl (upd o_all_r s1.toNatClampNeg s0))), (h_o_told, .inl (ca 0, 67, .inl o_told_r)), (h_o_text, .inl (ca 2, 1000, .inl o_text_r))] H := hP
    have hD : va_D A [(h_o, .inr (7, [.ref h_o_plans, .ref h_o_makers, .ref h_o_halves, .int o_raised, .ref h_o_all, .ref h_o_text, .ref h_o_saved, .ref h_o_undone, .int o_undos, .int o_reached, .int o_length, .int o_begin, .int o_letters, .int o_sort, .long o_word, .int o_wrongAt, .int o_badAt, .int o_bad, .ref h_o_told, .ref h_o_shift, .int o_firstX, .int o_firstY, .int o_secondX, .int o_secondY, .ref h_o_rootOf, .ref h_o_becomes, .ref h_o_comes, .ref h_o_next, .int o_x])), (h_o_all, .inl (ca 0, 350, .inl (upd o_all_r s1.toNatClampNeg s0))), (h_o_told, .inl (ca 0, 67, .inl o_told_r)), (h_o_text, .inl (ca 2, 1000, .inl o_text_r))] := hD
    refine lv_aload_n hx hb dX8_read_169 rfl (lv_at hl 0 rfl) ?_
    refine va_get (D := (dC, dI)) (ci := 7) (v := .ref h_o_all) (C := RX8) (T := TX8) (N := 29) hx hb hts (fun w h => List.mem_cons_of_mem _ (kc_X8 w h)) hown hK hP 0 rfl rfl 4 (by decide) (hg kw_594) (fun _ h9 => h9) rfl dX8_read_170 ?_
    refine lv_bipush (v := 68) hx hb dX8_read_173 (by decide) ?_
    refine va_iald hx hb hK hP 1 0 rfl rfl (ds_in_ok (i := 68) (n := 350) (by decide)) dX8_read_175 ?_
    refine lv_if_eq (tgt := 181) hx hb dX8_read_176 (by decide) (fun c_176 => ?_) (fun c_176 => ?_)
    · replace hf := ds_t c_176 hf
      refine lv_iconst (v := 0) hx hb dX8_read_181 (by decide) ?_
      refine lv_istore_n (lv' := [(2, .int (0 : Int32)), (0, .ref h_o)]) hx hb dX8_read_182 rfl hl (by decide) rfl (fun ls hl => ?_)
      exact h1 (J_183 o_raised o_undos o_reached o_length o_begin o_letters o_sort o_word o_wrongAt o_badAt o_bad o_told_r 1000 (0 : Int32) (upd o_all_r s1.toNatClampNeg s0) _ hf hG _ _ hP hD hS _ (lv_sub hl [1, 0] rfl))
    · replace hf := ds_f c_176 hf
      refine lv_iconst (v := -1) hx hb dX8_read_179 (by decide) ?_
      have hf := Option.some.inj hf
      subst hf
      rw [eG0] at hG
      have hG : _ = res := hG
      subst hG
      exact W.iret (v := (-1 : Int32)) hx hb hr (fun t ht hW => ⟨⟨(-1 : Int32), (), rfl, rfl, by rw [ht]; exact hP, hD⟩, hS.F ht⟩) hS.2.2 dX8_read_180
  have J_146 : ∀ (v1 : Int32) (s0 : Int32) (s1 : Int32) (o_raised : Int32) (o_undos : Int32) (o_reached : Int32) (o_length : Int32) (o_begin : Int32) (o_letters : Int32) (o_sort : Int32) (o_word : Int64) (o_wrongAt : Int32) (o_badAt : Int32) (o_bad : Int32) (o_all_r : Nat → Int32) (o_told_r : Nat → Int32) (rr : Int32 × Int32 × Int32 × Int32 × Int32 × Int32 × Int32 × Int32 × Int64 × Int32 × Int32 × Int32 × (Nat → Int32) × (Nat → Int32)) (hf : fX8_read_146 o_raised o_undos o_reached o_length o_begin o_letters o_sort o_word o_wrongAt o_badAt o_bad o_all_r o_told_r s0 s1 v1 = some rr) (hG : G0 rr) (H : Heap) (locs : List Loc) (hP : va_P (dC, dI) vwCl [(h_o, .inr (7, [.ref h_o_plans, .ref h_o_makers, .ref h_o_halves, .int o_raised, .ref h_o_all, .ref h_o_text, .ref h_o_saved, .ref h_o_undone, .int o_undos, .int o_reached, .int o_length, .int o_begin, .int o_letters, .int o_sort, .long o_word, .int o_wrongAt, .int o_badAt, .int o_bad, .ref h_o_told, .ref h_o_shift, .int o_firstX, .int o_firstY, .int o_secondX, .int o_secondY, .ref h_o_rootOf, .ref h_o_becomes, .ref h_o_comes, .ref h_o_next, .int o_x])), (h_o_all, .inl (ca 0, 350, .inl o_all_r)), (h_o_told, .inl (ca 0, 67, .inl o_told_r)), (h_o_text, .inl (ca 2, 1000, .inl o_text_r))] H) (hD : va_D A [(h_o, .inr (7, [.ref h_o_plans, .ref h_o_makers, .ref h_o_halves, .int o_raised, .ref h_o_all, .ref h_o_text, .ref h_o_saved, .ref h_o_undone, .int o_undos, .int o_reached, .int o_length, .int o_begin, .int o_letters, .int o_sort, .long o_word, .int o_wrongAt, .int o_badAt, .int o_bad, .ref h_o_told, .ref h_o_shift, .int o_firstX, .int o_firstY, .int o_secondX, .int o_secondY, .ref h_o_rootOf, .ref h_o_becomes, .ref h_o_comes, .ref h_o_next, .int o_x])), (h_o_all, .inl (ca 0, 350, .inl o_all_r)), (h_o_told, .inl (ca 0, 67, .inl o_told_r)), (h_o_text, .inl (ca 2, 1000, .inl o_text_r))]) (hS : va_S A s.heap H locs) (ls : Array Slot) (hl : lv_has ls 3 [(0, .ref h_o), (1, .int v1)]), WW H locs (F0 m 146 ls [.int s0, .int s1, .ref h_o_all]) := by
    intro v1 s0 s1 o_raised o_undos o_reached o_length o_begin o_letters o_sort o_word o_wrongAt o_badAt o_bad o_all_r o_told_r rr hf hG H locs hP hD hS ls hl
    refine h2 ?_
    unfold fX8_read_146 at hf
    obtain ⟨i_146, hf⟩ := ds_ci hf
    refine va_iast hx hb hK hP hD hS 1 0 rfl rfl i_146 dX8_read_146 (fun H locs hP hD hS => ?_)
    have hP : va_P (dC, dI) vwCl [(h_o, .inr (7, [.ref h_o_plans, .ref h_o_makers, .ref h_o_halves, .int o_raised, .ref h_o_all, .ref h_o_text, .ref h_o_saved, .ref h_o_undone, .int o_undos, .int o_reached, .int o_length, .int o_begin, .int o_letters, .int o_sort, .long o_word, .int o_wrongAt, .int o_badAt, .int o_bad, .ref h_o_told, .ref h_o_shift, .int o_firstX, .int o_firstY, .int o_secondX, .int o_secondY, .ref h_o_rootOf, .ref h_o_becomes, .ref h_o_comes, .ref h_o_next, .int o_x])), (h_o_all, .inl (ca 0, 350, .inl (upd o_all_r s1.toNatClampNeg s0))), (h_o_told, .inl (ca 0, 67, .inl o_told_r)), (h_o_text, .inl (ca 2, 1000, .inl o_text_r))] H := hP
    have hD : va_D A [(h_o, .inr (7, [.ref h_o_plans, .ref h_o_makers, .ref h_o_halves, .int o_raised, .ref h_o_all, .ref h_o_text, .ref h_o_saved, .ref h_o_undone, .int o_undos, .int o_reached, .int o_length, .int o_begin, .int o_letters, .int o_sort, .long o_word, .int o_wrongAt, .int o_badAt, .int o_bad, .ref h_o_told, .ref h_o_shift, .int o_firstX, .int o_firstY, .int o_secondX, .int o_secondY, .ref h_o_rootOf, .ref h_o_becomes, .ref h_o_comes, .ref h_o_next, .int o_x])), (h_o_all, .inl (ca 0, 350, .inl (upd o_all_r s1.toNatClampNeg s0))), (h_o_told, .inl (ca 0, 67, .inl o_told_r)), (h_o_text, .inl (ca 2, 1000, .inl o_text_r))] := hD
    refine lv_aload_n hx hb dX8_read_147 rfl (lv_at hl 0 rfl) ?_
    refine va_get (D := (dC, dI)) (ci := 7) (v := .ref h_o_all) (C := RX8) (T := TX8) (N := 29) hx hb hts (fun w h => List.mem_cons_of_mem _ (kc_X8 w h)) hown hK hP 0 rfl rfl 4 (by decide) (hg kw_594) (fun _ h9 => h9) rfl dX8_read_148 ?_
    refine lv_bipush (v := 69) hx hb dX8_read_151 (by decide) ?_
    refine lv_iload_n hx hb dX8_read_153 rfl (lv_at hl 1 rfl) ?_
    refine lv_if_eq (tgt := 164) hx hb dX8_read_154 (by decide) (fun c_154 => ?_) (fun c_154 => ?_)
    · replace hf := ds_t c_154 hf
      refine lv_aload_n hx hb dX8_read_164 rfl (lv_at hl 0 rfl) ?_
      refine va_get (D := (dC, dI)) (ci := 7) (v := .int o_wrongAt) (C := RX8) (T := TX8) (N := 29) hx hb hts (fun w h => List.mem_cons_of_mem _ (kc_X8 w h)) hown hK hP 0 rfl rfl 15 (by decide) (hg kw_623) (fun _ h9 => h9) rfl dX8_read_165 ?_
      exact h1 (J_168 o_wrongAt (69 : Int32) o_raised o_undos o_reached o_length o_begin o_letters o_sort o_word o_wrongAt o_badAt o_bad (upd o_all_r s1.toNatClampNeg s0) o_told_r _ hf hG _ _ hP hD hS _ (lv_sub hl [0] rfl))
    · replace hf := ds_f c_154 hf
      refine lv_aload_n hx hb dX8_read_157 rfl (lv_at hl 0 rfl) ?_
      refine va_get (D := (dC, dI)) (ci := 7) (v := .int o_badAt) (C := RX8) (T := TX8) (N := 29) hx hb hts (fun w h => List.mem_cons_of_mem _ (kc_X8 w h)) hown hK hP 0 rfl rfl 16 (by decide) (hg kw_625) (fun _ h9 => h9) rfl dX8_read_158 ?_
      refine lv_goto (tgt := 168) hx hb dX8_read_161 (by decide) ?_
      exact h1 (J_168 o_badAt (69 : Int32) o_raised o_undos o_reached o_length o_begin o_letters o_sort o_word o_wrongAt o_badAt o_bad (upd o_all_r s1.toNatClampNeg s0) o_told_r _ hf hG _ _ hP hD hS _ (lv_sub hl [0] rfl))
  have J_128 : ∀ (v1 : Int32) (o_raised : Int32) (o_undos : Int32) (o_reached : Int32) (o_length : Int32) (o_begin : Int32) (o_letters : Int32) (o_sort : Int32) (o_word : Int64) (o_wrongAt : Int32) (o_badAt : Int32) (o_bad : Int32) (o_all_r : Nat → Int32) (o_told_r : Nat → Int32) (rr : Int32 × Int32 × Int32 × Int32 × Int32 × Int32 × Int32 × Int32 × Int64 × Int32 × Int32 × Int32 × (Nat → Int32) × (Nat → Int32)) (hf : fX8_read_128 o_raised o_undos o_reached o_length o_begin o_letters o_sort o_word o_wrongAt o_badAt o_bad o_all_r o_told_r v1 = some rr) (hG : G0 rr) (H : Heap) (locs : List Loc) (hP : va_P (dC, dI) vwCl [(h_o, .inr (7, [.ref h_o_plans, .ref h_o_makers, .ref h_o_halves, .int o_raised, .ref h_o_all, .ref h_o_text, .ref h_o_saved, .ref h_o_undone, .int o_undos, .int o_reached, .int o_length, .int o_begin, .int o_letters, .int o_sort, .long o_word, .int o_wrongAt, .int o_badAt, .int o_bad, .ref h_o_told, .ref h_o_shift, .int o_firstX, .int o_firstY, .int o_secondX, .int o_secondY, .ref h_o_rootOf, .ref h_o_becomes, .ref h_o_comes, .ref h_o_next, .int o_x])), (h_o_all, .inl (ca 0, 350, .inl o_all_r)), (h_o_told, .inl (ca 0, 67, .inl o_told_r)), (h_o_text, .inl (ca 2, 1000, .inl o_text_r))] H) (hD : va_D A [(h_o, .inr (7, [.ref h_o_plans, .ref h_o_makers, .ref h_o_halves, .int o_raised, .ref h_o_all, .ref h_o_text, .ref h_o_saved, .ref h_o_undone, .int o_undos, .int o_reached, .int o_length, .int o_begin, .int o_letters, .int o_sort, .long o_word, .int o_wrongAt, .int o_badAt, .int o_bad, .ref h_o_told, .ref h_o_shift, .int o_firstX, .int o_firstY, .int o_secondX, .int o_secondY, .ref h_o_rootOf, .ref h_o_becomes, .ref h_o_comes, .ref h_o_next, .int o_x])), (h_o_all, .inl (ca 0, 350, .inl o_all_r)), (h_o_told, .inl (ca 0, 67, .inl o_told_r)), (h_o_text, .inl (ca 2, 1000, .inl o_text_r))]) (hS : va_S A s.heap H locs) (ls : Array Slot) (hl : lv_has ls 3 [(0, .ref h_o), (1, .int v1)]), WW H locs (F0 m 128 ls []) := by
    intro v1 o_raised o_undos o_reached o_length o_begin o_letters o_sort o_word o_wrongAt o_badAt o_bad o_all_r o_told_r rr hf hG H locs hP hD hS ls hl
    refine h2 ?_
    unfold fX8_read_128 at hf
    refine lv_aload_n hx hb dX8_read_128 rfl (lv_at hl 0 rfl) ?_
    refine va_get (D := (dC, dI)) (ci := 7) (v := .ref h_o_all) (C := RX8) (T := TX8) (N := 29) hx hb hts (fun w h => List.mem_cons_of_mem _ (kc_X8 w h)) hown hK hP 0 rfl rfl 4 (by decide) (hg kw_594) (fun _ h9 => h9) rfl dX8_read_129 ?_
    refine lv_bipush (v := 68) hx hb dX8_read_132 (by decide) ?_
    refine lv_iload_n hx hb dX8_read_134 rfl (lv_at hl 1 rfl) ?_
    refine lv_if_eq (tgt := 145) hx hb dX8_read_135 (by decide) (fun c_135 => ?_) (fun c_135 => ?_)
    · replace hf := ds_t c_135 hf
      refine lv_iconst (v := 1) hx hb dX8_read_145 (by decide) ?_
      exact h1 (J_146 v1 (1 : Int32) (68 : Int32) o_raised o_undos o_reached o_length o_begin o_letters o_sort o_word o_wrongAt o_badAt o_bad o_all_r o_told_r _ hf hG _ _ hP hD hS _ (lv_sub hl [0, 1] rfl))
    · replace hf := ds_f c_135 hf
      refine lv_aload_n hx hb dX8_read_138 rfl (lv_at hl 0 rfl) ?_
      refine va_get (D := (dC, dI)) (ci := 7) (v := .int o_bad) (C := RX8) (T := TX8) (N := 29) hx hb hts (fun w h => List.mem_cons_of_mem _ (kc_X8 w h)) hown hK hP 0 rfl rfl 17 (by decide) (hg kw_624) (fun _ h9 => h9) rfl dX8_read_139 ?_
      refine lv_goto (tgt := 146) hx hb dX8_read_142 (by decide) ?_
      exact h1 (J_146 v1 o_bad (68 : Int32) o_raised o_undos o_reached o_length o_begin o_letters o_sort o_word o_wrongAt o_badAt o_bad o_all_r o_told_r _ hf hG _ _ hP hD hS _ (lv_sub hl [0, 1] rfl))
  have J_110 : ∀ (v1 : Int32) (o_raised : Int32) (o_undos : Int32) (o_reached : Int32) (o_length : Int32) (o_begin : Int32) (o_letters : Int32) (o_sort : Int32) (o_word : Int64) (o_wrongAt : Int32) (o_badAt : Int32) (o_bad : Int32) (o_all_r : Nat → Int32) (o_told_r : Nat → Int32) (rr : Int32 × Int32 × Int32 × Int32 × Int32 × Int32 × Int32 × Int32 × Int64 × Int32 × Int32 × Int32 × (Nat → Int32) × (Nat → Int32)) (hf : fX8_read_110 o_raised o_undos o_reached o_length o_begin o_letters o_sort o_word o_wrongAt o_badAt o_bad o_all_r o_told_r v1 = some rr) (hG : G0 rr) (H : Heap) (locs : List Loc) (hP : va_P (dC, dI) vwCl [(h_o, .inr (7, [.ref h_o_plans, .ref h_o_makers, .ref h_o_halves, .int o_raised, .ref h_o_all, .ref h_o_text, .ref h_o_saved, .ref h_o_undone, .int o_undos, .int o_reached, .int o_length, .int o_begin, .int o_letters, .int o_sort, .long o_word, .int o_wrongAt, .int o_badAt, .int o_bad, .ref h_o_told, .ref h_o_shift, .int o_firstX, .int o_firstY, .int o_secondX, .int o_secondY, .ref h_o_rootOf, .ref h_o_becomes, .ref h_o_comes, .ref h_o_next, .int o_x])), (h_o_all, .inl (ca 0, 350, .inl o_all_r)), (h_o_told, .inl (ca 0, 67, .inl o_told_r)), (h_o_text, .inl (ca 2, 1000, .inl o_text_r))] H) (hD : va_D A [(h_o, .inr (7, [.ref h_o_plans, .ref h_o_makers, .ref h_o_halves, .int o_raised, .ref h_o_all, .ref h_o_text, .ref h_o_saved, .ref h_o_undone, .int o_undos, .int o_reached, .int o_length, .int o_begin, .int o_letters, .int o_sort, .long o_word, .int o_wrongAt, .int o_badAt, .int o_bad, .ref h_o_told, .ref h_o_shift, .int o_firstX, .int o_firstY, .int o_secondX, .int o_secondY, .ref h_o_rootOf, .ref h_o_becomes, .ref h_o_comes, .ref h_o_next, .int o_x])), (h_o_all, .inl (ca 0, 350, .inl o_all_r)), (h_o_told, .inl (ca 0, 67, .inl o_told_r)), (h_o_text, .inl (ca 2, 1000, .inl o_text_r))]) (hS : va_S A s.heap H locs) (ls : Array Slot) (hl : lv_has ls 3 [(0, .ref h_o), (1, .int v1)]), WW H locs (F0 m 110 ls []) := by
    intro v1 o_raised o_undos o_reached o_length o_begin o_letters o_sort o_word o_wrongAt o_badAt o_bad o_all_r o_told_r rr hf hG H locs hP hD hS ls hl
    refine h2 ?_
    unfold fX8_read_110 at hf
    refine lv_iload_n hx hb dX8_read_110 rfl (lv_at hl 1 rfl) ?_
    refine lv_if_eq (tgt := 128) hx hb dX8_read_111 (by decide) (fun c_111 => ?_) (fun c_111 => ?_)
    · replace hf := ds_t c_111 hf
      exact h1 (J_128 v1 o_raised o_undos o_reached o_length o_begin o_letters o_sort o_word o_wrongAt o_badAt o_bad o_all_r o_told_r _ hf hG _ _ hP hD hS _ (lv_sub hl [0, 1] rfl))
    · replace hf := ds_f c_111 hf
      refine lv_aload_n hx hb dX8_read_114 rfl (lv_at hl 0 rfl) ?_
      refine va_get (D := (dC, dI)) (ci := 7) (v := .ref h_o_told) (C := RX8) (T := TX8) (N := 29) hx hb hts (fun w h => List.mem_cons_of_mem _ (kc_X8 w h)) hown hK hP 0 rfl rfl 18 (by decide) (hg kw_630) (fun _ h9 => h9) rfl dX8_read_115 ?_
      refine lv_iconst (v := 1) hx hb dX8_read_118 (by decide) ?_
      refine va_iald hx hb hK hP 2 0 rfl rfl (ds_in_ok (i := 1) (n := 67) (by decide)) dX8_read_119 ?_
      refine lv_if_ne (tgt := 128) hx hb dX8_read_120 (by decide) (fun c_120 => ?_) (fun c_120 => ?_)
      · replace hf := ds_f c_120 hf
        exact h1 (J_128 v1 o_raised o_undos o_reached o_length o_begin o_letters o_sort o_word o_wrongAt o_badAt o_bad o_all_r o_told_r _ hf hG _ _ hP hD hS _ (lv_sub hl [0, 1] rfl))
      · replace hf := ds_t c_120 hf
        refine lv_aload_n hx hb dX8_read_123 rfl (lv_at hl 0 rfl) ?_
        obtain ⟨q124, hq124, hf⟩ := ds_ob hf
        refine ds_calli (wr := [(h_o_all, .inl (ca 0, 350, .inl o_all_r)), (h_o_told, .inl (ca 0, 67, .inl o_told_r)), (h_o_text, .inl (ca 2, 1000, .inl o_text_r))]) (va_runV (As := []) (rest := []) ⟨hx, hb, hml, hown, hts⟩ (c_X8_fails l dC dI ca sa h_o h_o_plans h_o_makers h_o_halves h_o_all h_o_text h_o_saved h_o_undone h_o_told h_o_shift h_o_rootOf h_o_becomes h_o_comes h_o_next H.size o_raised o_undos o_reached o_length o_begin o_letters o_sort o_word o_wrongAt o_badAt o_bad o_firstX o_firstY o_secondX o_secondY o_x  q124 hq124) (cwV 0 hts (ds_gV kw_639 kw_640 kw_641 kw_597 kw_642) rfl rfl rfl (by decide +kernel) ⟨Nat.le_of_ble_eq_true rfl, Nat.le_of_ble_eq_true rfl⟩) ⟨ds_blind, va_recv hK hP (ci := 7) (q0 := 0) rfl rfl, ds_at hP hD hK hE hS hA [0] rfl rfl _⟩ rfl rfl hl.1 rfl (lv_room (Nat.le_of_ble_eq_true rfl)) dX8_read_124 ⟨Nat.zero_le _, Nat.zero_le _⟩) hP hD hS hA [0] [1, 2, 3] rfl rfl rfl (by decide) (fun H locs hP hD hS => ?_)
        have hP : va_P (dC, dI) vwCl [(h_o_all, .inl (ca 0, 350, .inl o_all_r)), (h_o_told, .inl (ca 0, 67, .inl o_told_r)), (h_o_text, .inl (ca 2, 1000, .inl o_text_r)), (h_o, .inr (7, [.ref h_o_plans, .ref h_o_makers, .ref h_o_halves, .int o_raised, .ref h_o_all, .ref h_o_text, .ref h_o_saved, .ref h_o_undone, .int o_undos, .int o_reached, .int o_length, .int o_begin, .int o_letters, .int o_sort, .long o_word, .int q124.2, .int o_badAt, .int o_bad, .ref h_o_told, .ref h_o_shift, .int o_firstX, .int o_firstY, .int o_secondX, .int o_secondY, .ref h_o_rootOf, .ref h_o_becomes, .ref h_o_comes, .ref h_o_next, .int o_x]))] H := hP
        have hD : va_D A [(h_o_all, .inl (ca 0, 350, .inl o_all_r)), (h_o_told, .inl (ca 0, 67, .inl o_told_r)), (h_o_text, .inl (ca 2, 1000, .inl o_text_r)), (h_o, .inr (7, [.ref h_o_plans, .ref h_o_makers, .ref h_o_halves, .int o_raised, .ref h_o_all, .ref h_o_text, .ref h_o_saved, .ref h_o_undone, .int o_undos, .int o_reached, .int o_length, .int o_begin, .int o_letters, .int o_sort, .long o_word, .int q124.2, .int o_badAt, .int o_bad, .ref h_o_told, .ref h_o_shift, .int o_firstX, .int o_firstY, .int o_secondX, .int o_secondY, .ref h_o_rootOf, .ref h_o_becomes, .ref h_o_comes, .ref h_o_next, .int o_x]))] := hD
        refine lv_istore_n (lv' := [(1, .int q124.1), (0, .ref h_o)]) hx hb dX8_read_127 rfl hl (by decide) rfl (fun ls hl => ?_)
        exact h1 (J_128 q124.1 o_raised o_undos o_reached o_length o_begin o_letters o_sort o_word q124.2 o_badAt o_bad o_all_r o_told_r _ hf hG _ _ (hP.sub [3, 0, 1, 2] rfl) (hD.sub [3, 0, 1, 2] rfl rfl) hS _ (lv_sub hl [1, 0] rfl))
  have J_66 : ∀ (o_raised : Int32) (o_undos : Int32) (o_length : Int32) (o_all_r : Nat → Int32) (n : Nat) (v1 : Int32) (o_reached : Int32) (o_begin : Int32) (o_letters : Int32) (o_sort : Int32) (o_word : Int64) (o_wrongAt : Int32) (o_badAt : Int32) (o_bad : Int32) (o_told_r : Nat → Int32) (rr : Int32 × Int32 × Int32 × Int32 × Int32 × Int32 × Int32 × Int32 × Int64 × Int32 × Int32 × Int32 × (Nat → Int32) × (Nat → Int32)) (hf : ds_it (fun s => fX8_read_66_b o_raised o_undos o_length o_all_r o_text_r s.1 s.2.1 s.2.2.1 s.2.2.2.1 s.2.2.2.2.1 s.2.2.2.2.2.1 s.2.2.2.2.2.2.1 s.2.2.2.2.2.2.2.1 s.2.2.2.2.2.2.2.2.1 s.2.2.2.2.2.2.2.2.2) n (v1, o_reached, o_begin, o_letters, o_sort, o_word, o_wrongAt, o_badAt, o_bad, o_told_r) = some rr) (hG : G0 rr) (H : Heap) (locs : List Loc) (hP : va_P (dC, dI) vwCl [(h_o, .inr (7, [.ref h_o_plans, .ref h_o_makers, .ref h_o_halves, .int o_raised, .ref h_o_all, .ref h_o_text, .ref h_o_saved, .ref h_o_undone, .int o_undos, .int o_reached, .int o_length, .int o_begin, .int o_letters, .int o_sort, .long o_word, .int o_wrongAt, .int o_badAt, .int o_bad, .ref h_o_told, .ref h_o_shift, .int o_firstX, .int o_firstY, .int o_secondX, .int o_secondY, .ref h_o_rootOf, .ref h_o_becomes, .ref h_o_comes, .ref h_o_next, .int o_x])), (h_o_all, .inl (ca 0, 350, .inl o_all_r)), (h_o_told, .inl (ca 0, 67, .inl o_told_r)), (h_o_text, .inl (ca 2, 1000, .inl o_text_r))] H) (hD : va_D A [(h_o, .inr (7, [.ref h_o_plans, .ref h_o_makers, .ref h_o_halves, .int o_raised, .ref h_o_all, .ref h_o_text, .ref h_o_saved, .ref h_o_undone, .int o_undos, .int o_reached, .int o_length, .int o_begin, .int o_letters, .int o_sort, .long o_word, .int o_wrongAt, .int o_badAt, .int o_bad, .ref h_o_told, .ref h_o_shift, .int o_firstX, .int o_firstY, .int o_secondX, .int o_secondY, .ref h_o_rootOf, .ref h_o_becomes, .ref h_o_comes, .ref h_o_next, .int o_x])), (h_o_all, .inl (ca 0, 350, .inl o_all_r)), (h_o_told, .inl (ca 0, 67, .inl o_told_r)), (h_o_text, .inl (ca 2, 1000, .inl o_text_r))]) (hS : va_S A s.heap H locs) (ls : Array Slot) (hl : lv_has ls 3 [(0, .ref h_o), (1, .int v1)]), WW H locs (F0 m 66 ls []) := by
    intro o_raised o_undos o_length o_all_r n
    induction n with
    | zero => intro v1 o_reached o_begin o_letters o_sort o_word o_wrongAt o_badAt o_bad o_told_r rr hf; exact (ds_it_zero hf).elim
    | succ n ih66 =>
      intro v1 o_reached o_begin o_letters o_sort o_word o_wrongAt o_badAt o_bad o_told_r rr hf hG H locs hP hD hS ls hl
      refine h2 ?_
      obtain ⟨rr, hf, hG⟩ := ds_it_succ hf hG
      replace hf : fX8_read_66_b o_raised o_undos o_length o_all_r o_text_r v1 o_reached o_begin o_letters o_sort o_word o_wrongAt o_badAt o_bad o_told_r = some rr := hf
      obtain ⟨G1, eG1⟩ : ∃ G : ((Int32 × Int32 × Int32 × Int32 × Int32 × Int64 × Int32 × Int32 × Int32 × (Nat → Int32)) ⊕ (Int32 × Int32 × Int32 × Int32 × Int32 × Int32 × Int32 × Int32 × Int64 × Int32 × Int32 × Int32 × (Nat → Int32) × (Nat → Int32))) → Prop, G = ds_G (fun s' => ∃ r', ds_it (fun s => fX8_read_66_b o_raised o_undos o_length o_all_r o_text_r s.1 s.2.1 s.2.2.1 s.2.2.2.1 s.2.2.2.2.1 s.2.2.2.2.2.1 s.2.2.2.2.2.2.1 s.2.2.2.2.2.2.2.1 s.2.2.2.2.2.2.2.2.1 s.2.2.2.2.2.2.2.2.2) n s' = some r' ∧ G0 r') G0 := ⟨_, rfl⟩
      rw [← eG1] at hG
      have J_99 : ∀ (v1 : Int32) (o_reached : Int32) (o_begin : Int32) (o_letters : Int32) (o_sort : Int32) (o_word : Int64) (o_wrongAt : Int32) (o_badAt : Int32) (o_bad : Int32) (o_told_r : Nat → Int32) (rr : (Int32 × Int32 × Int32 × Int32 × Int32 × Int64 × Int32 × Int32 × Int32 × (Nat → Int32)) ⊕ (Int32 × Int32 × Int32 × Int32 × Int32 × Int32 × Int32 × Int32 × Int64 × Int32 × Int32 × Int32 × (Nat → Int32) × (Nat → Int32))) (hf : fX8_read_99 o_reached o_length o_begin o_letters o_sort o_word o_wrongAt o_badAt o_bad o_told_r o_text_r v1 = some rr) (hG : G1 rr) (H : Heap) (locs : List Loc) (hP : va_P (dC, dI) vwCl [(h_o, .inr (7, [.ref h_o_plans, .ref h_o_makers, .ref h_o_halves, .int o_raised, .ref h_o_all, .ref h_o_text, .ref h_o_saved, .ref h_o_undone, .int o_undos, .int o_reached, .int o_length, .int o_begin, .int o_letters, .int o_sort, .long o_word, .int o_wrongAt, .int o_badAt, .int o_bad, .ref h_o_told, .ref h_o_shift, .int o_firstX, .int o_firstY, .int o_secondX, .int o_secondY, .ref h_o_rootOf, .ref h_o_becomes, .ref h_o_comes, .ref h_o_next, .int o_x])), (h_o_all, .inl (ca 0, 350, .inl o_all_r)), (h_o_told, .inl (ca 0, 67, .inl o_told_r)), (h_o_text, .inl (ca 2, 1000, .inl o_text_r))] H) (hD : va_D A [(h_o, .inr (7, [.ref h_o_plans, .ref h_o_makers, .ref h_o_halves, .int o_raised, .ref h_o_all, .ref h_o_text, .ref h_o_saved, .ref h_o_undone, .int o_undos, .int o_reached, .int o_length, .int o_begin, .int o_letters, .int o_sort, .long o_word, .int o_wrongAt, .int o_badAt, .int o_bad, .ref h_o_told, .ref h_o_shift, .int o_firstX, .int o_firstY, .int o_secondX, .int o_secondY, .ref h_o_rootOf, .ref h_o_becomes, .ref h_o_comes, .ref h_o_next, .int o_x])), (h_o_all, .inl (ca 0, 350, .inl o_all_r)), (h_o_told, .inl (ca 0, 67, .inl o_told_r)), (h_o_text, .inl (ca 2, 1000, .inl o_text_r))]) (hS : va_S A s.heap H locs) (ls : Array Slot) (hl : lv_has ls 3 [(0, .ref h_o), (1, .int v1)]), WW H locs (F0 m 99 ls []) := by
        intro v1 o_reached o_begin o_letters o_sort o_word o_wrongAt o_badAt o_bad o_told_r rr hf hG H locs hP hD hS ls hl
        refine h2 ?_
        unfold fX8_read_99 at hf
        refine lv_iload_n hx hb dX8_read_99 rfl (lv_at hl 1 rfl) ?_
        refine lv_if_eq (tgt := 66) hx hb dX8_read_100 (by decide) (fun c_100 => ?_) (fun c_100 => ?_)
        · replace hf := ds_t c_100 hf
          have hf := Option.some.inj hf
          subst hf
          rw [eG1] at hG
          obtain ⟨rr, hf, hG⟩ := hG
          exact h1 (ih66 v1 o_reached o_begin o_letters o_sort o_word o_wrongAt o_badAt o_bad o_told_r rr hf hG _ _ hP hD hS _ (lv_sub hl [0, 1] rfl))
        · replace hf := ds_f c_100 hf
          refine lv_aload_n hx hb dX8_read_103 rfl (lv_at hl 0 rfl) ?_
          obtain ⟨q104, hq104, hf⟩ := ds_ob hf
          refine ds_callv (wr := [(h_o_all, .inl (ca 0, 350, .inl o_all_r)), (h_o_told, .inl (ca 0, 67, .inl o_told_r))]) (va_runV (As := []) (rest := []) ⟨hx, hb, hml, hown, hts⟩ (c_X8_token l dC dI ca sa h_o h_o_plans h_o_makers h_o_halves h_o_all h_o_text h_o_saved h_o_undone h_o_told h_o_shift h_o_rootOf h_o_becomes h_o_comes h_o_next H.size o_raised o_undos o_reached o_length o_begin o_letters o_sort o_word o_wrongAt o_badAt o_bad o_firstX o_firstY o_secondX o_secondY o_x o_text_r  q104 hq104) (cwV 0 hts (ds_gV kw_626 kw_627 kw_628 kw_597 kw_629) rfl rfl rfl (by decide +kernel) ⟨Nat.le_of_ble_eq_true rfl, Nat.le_of_ble_eq_true rfl⟩) ⟨ds_blind, va_recv hK hP (ci := 7) (q0 := 0) rfl rfl, ds_at hP hD hK hE hS hA [0, 3] rfl rfl _⟩ rfl rfl hl.1 rfl (lv_room (Nat.le_of_ble_eq_true rfl)) dX8_read_104 ⟨Nat.zero_le _, Nat.zero_le _⟩) hP hD hS hA [0, 3] [1, 2] rfl rfl rfl (by decide) (fun H locs hP hD hS => ?_)
          have hP : va_P (dC, dI) vwCl [(h_o_all, .inl (ca 0, 350, .inl o_all_r)), (h_o_told, .inl (ca 0, 67, .inl o_told_r)), (h_o, .inr (7, [.ref h_o_plans, .ref h_o_makers, .ref h_o_halves, .int o_raised, .ref h_o_all, .ref h_o_text, .ref h_o_saved, .ref h_o_undone, .int o_undos, .int q104.1, .int o_length, .int q104.2.1, .int q104.2.2.1, .int q104.2.2.2.1, .long q104.2.2.2.2, .int o_wrongAt, .int o_badAt, .int o_bad, .ref h_o_told, .ref h_o_shift, .int o_firstX, .int o_firstY, .int o_secondX, .int o_secondY, .ref h_o_rootOf, .ref h_o_becomes, .ref h_o_comes, .ref h_o_next, .int o_x])), (h_o_text, .inl (ca 2, 1000, .inl o_text_r))] H := hP
          have hD : va_D A [(h_o_all, .inl (ca 0, 350, .inl o_all_r)), (h_o_told, .inl (ca 0, 67, .inl o_told_r)), (h_o, .inr (7, [.ref h_o_plans, .ref h_o_makers, .ref h_o_halves, .int o_raised, .ref h_o_all, .ref h_o_text, .ref h_o_saved, .ref h_o_undone, .int o_undos, .int q104.1, .int o_length, .int q104.2.1, .int q104.2.2.1, .int q104.2.2.2.1, .long q104.2.2.2.2, .int o_wrongAt, .int o_badAt, .int o_bad, .ref h_o_told, .ref h_o_shift, .int o_firstX, .int o_firstY, .int o_secondX, .int o_secondY, .ref h_o_rootOf, .ref h_o_becomes, .ref h_o_comes, .ref h_o_next, .int o_x])), (h_o_text, .inl (ca 2, 1000, .inl o_text_r))] := hD
          refine lv_goto (tgt := 66) hx hb dX8_read_107 (by decide) ?_
          have hf := Option.some.inj hf
          subst hf
          rw [eG1] at hG
          obtain ⟨rr, hf, hG⟩ := hG
          exact h1 (ih66 v1 q104.1 q104.2.1 q104.2.2.1 q104.2.2.2.1 q104.2.2.2.2 o_wrongAt o_badAt o_bad o_told_r rr hf hG _ _ (hP.sub [2, 0, 1, 3] rfl) (hD.sub [2, 0, 1, 3] rfl rfl) hS _ (lv_sub hl [0, 1] rfl))
      unfold fX8_read_66_b at hf
      refine lv_iload_n hx hb dX8_read_66 rfl (lv_at hl 1 rfl) ?_
      refine lv_if_eq (tgt := 110) hx hb dX8_read_67 (by decide) (fun c_67 => ?_) (fun c_67 => ?_)
      · replace hf := ds_t c_67 hf
        obtain ⟨rr, hr_0, hf⟩ := ds_ob hf
        have hf := Option.some.inj hf
        subst hf
        rw [eG1] at hG
        replace hG : G0 rr := hG
        have hf := hr_0
        exact h1 (J_110 v1 o_raised o_undos o_reached o_length o_begin o_letters o_sort o_word o_wrongAt o_badAt o_bad o_all_r o_told_r _ hf hG _ _ hP hD hS _ (lv_sub hl [0, 1] rfl))
      · replace hf := ds_f c_67 hf
        refine lv_aload_n hx hb dX8_read_70 rfl (lv_at hl 0 rfl) ?_
        refine va_get (D := (dC, dI)) (ci := 7) (v := .int o_sort) (C := RX8) (T := TX8) (N := 29) hx hb hts (fun w h => List.mem_cons_of_mem _ (kc_X8 w h)) hown hK hP 0 rfl rfl 13 (by decide) (hg kw_612) (fun _ h9 => h9) rfl dX8_read_71 ?_
        refine lv_if_eq (tgt := 110) hx hb dX8_read_74 (by decide) (fun c_74 => ?_) (fun c_74 => ?_)
        · replace hf := ds_t c_74 hf
          obtain ⟨rr, hr_0, hf⟩ := ds_ob hf
          have hf := Option.some.inj hf
          subst hf
          rw [eG1] at hG
          replace hG : G0 rr := hG
          have hf := hr_0
          exact h1 (J_110 v1 o_raised o_undos o_reached o_length o_begin o_letters o_sort o_word o_wrongAt o_badAt o_bad o_all_r o_told_r _ hf hG _ _ hP hD hS _ (lv_sub hl [0, 1] rfl))
        · replace hf := ds_f c_74 hf
          refine lv_aload_n hx hb dX8_read_77 rfl (lv_at hl 0 rfl) ?_
          obtain ⟨q78, hq78, hf⟩ := ds_ob hf
          refine ds_calli (wr := [(h_o_all, .inl (ca 0, 350, .inl o_all_r))]) (va_runV (As := []) (rest := []) ⟨hx, hb, hml, hown, hts⟩ (c_X8_line l dC dI ca sa h_o h_o_plans h_o_makers h_o_halves h_o_all h_o_text h_o_saved h_o_undone h_o_told h_o_shift h_o_rootOf h_o_becomes h_o_comes h_o_next H.size o_raised o_undos o_reached o_length o_begin o_letters o_sort o_word o_wrongAt o_badAt o_bad o_firstX o_firstY o_secondX o_secondY o_x o_told_r o_text_r  q78 hq78) (cwV 0 hts (ds_gV kw_646 kw_647 kw_648 kw_597 kw_649) rfl rfl rfl (by decide +kernel) ⟨Nat.le_of_ble_eq_true rfl, Nat.le_of_ble_eq_true rfl⟩) ⟨ds_blind, va_recv hK hP (ci := 7) (q0 := 0) rfl rfl, ds_at hP hD hK hE hS hA [0, 2, 3] rfl rfl _⟩ rfl rfl hl.1 rfl (lv_room (Nat.le_of_ble_eq_true rfl)) dX8_read_78 ⟨Nat.zero_le _, Nat.zero_le _⟩) hP hD hS hA [0, 2, 3] [1] rfl rfl rfl (by decide) (fun H locs hP hD hS => ?_)
          have hP : va_P (dC, dI) vwCl [(h_o_all, .inl (ca 0, 350, .inl o_all_r)), (h_o, .inr (7, [.ref h_o_plans, .ref h_o_makers, .ref h_o_halves, .int o_raised, .ref h_o_all, .ref h_o_text, .ref h_o_saved, .ref h_o_undone, .int o_undos, .int q78.2.1, .int o_length, .int q78.2.2.1, .int q78.2.2.2.1, .int q78.2.2.2.2.1, .long q78.2.2.2.2.2.1, .int q78.2.2.2.2.2.2.1, .int q78.2.2.2.2.2.2.2.1, .int q78.2.2.2.2.2.2.2.2.1, .ref h_o_told, .ref h_o_shift, .int o_firstX, .int o_firstY, .int o_secondX, .int o_secondY, .ref h_o_rootOf, .ref h_o_becomes, .ref h_o_comes, .ref h_o_next, .int o_x])), (h_o_told, .inl (ca 0, 67, .inl q78.2.2.2.2.2.2.2.2.2)), (h_o_text, .inl (ca 2, 1000, .inl o_text_r))] H := hP
          have hD : va_D A [(h_o_all, .inl (ca 0, 350, .inl o_all_r)), (h_o, .inr (7, [.ref h_o_plans, .ref h_o_makers, .ref h_o_halves, .int o_raised, .ref h_o_all, .ref h_o_text, .ref h_o_saved, .ref h_o_undone, .int o_undos, .int q78.2.1, .int o_length, .int q78.2.2.1, .int q78.2.2.2.1, .int q78.2.2.2.2.1, .long q78.2.2.2.2.2.1, .int q78.2.2.2.2.2.2.1, .int q78.2.2.2.2.2.2.2.1, .int q78.2.2.2.2.2.2.2.2.1, .ref h_o_told, .ref h_o_shift, .int o_firstX, .int o_firstY, .int o_secondX, .int o_secondY, .ref h_o_rootOf, .ref h_o_becomes, .ref h_o_comes, .ref h_o_next, .int o_x])), (h_o_told, .inl (ca 0, 67, .inl q78.2.2.2.2.2.2.2.2.2)), (h_o_text, .inl (ca 2, 1000, .inl o_text_r))] := hD
          refine lv_istore_n (lv' := [(1, .int q78.1), (0, .ref h_o)]) hx hb dX8_read_81 rfl hl (by decide) rfl (fun ls hl => ?_)
          refine lv_iload_n hx hb dX8_read_82 rfl (lv_at hl 0 rfl) ?_
          refine lv_if_eq (tgt := 99) hx hb dX8_read_83 (by decide) (fun c_83 => ?_) (fun c_83 => ?_)
          · replace hf := ds_t c_83 hf
            exact h1 (J_99 q78.1 q78.2.1 q78.2.2.1 q78.2.2.2.1 q78.2.2.2.2.1 q78.2.2.2.2.2.1 q78.2.2.2.2.2.2.1 q78.2.2.2.2.2.2.2.1 q78.2.2.2.2.2.2.2.2.1 q78.2.2.2.2.2.2.2.2.2 _ hf hG _ _ (hP.sub [1, 0, 2, 3] rfl) (hD.sub [1, 0, 2, 3] rfl rfl) hS _ (lv_sub hl [1, 0] rfl))
          · replace hf := ds_f c_83 hf
            refine lv_aload_n hx hb dX8_read_86 rfl (lv_at hl 1 rfl) ?_
            refine va_get (D := (dC, dI)) (ci := 7) (v := .int q78.2.2.2.2.1) (C := RX8) (T := TX8) (N := 29) hx hb hts (fun w h => List.mem_cons_of_mem _ (kc_X8 w h)) hown hK hP 1 rfl rfl 13 (by decide) (hg kw_612) (fun _ h9 => h9) rfl dX8_read_87 ?_
            refine lv_iconst (v := 3) hx hb dX8_read_90 (by decide) ?_
            refine lv_icmp_eq (tgt := 99) hx hb dX8_read_91 (by decide) (fun c_91 => ?_) (fun c_91 => ?_)
            · replace hf := ds_t c_91 hf
              exact h1 (J_99 q78.1 q78.2.1 q78.2.2.1 q78.2.2.2.1 q78.2.2.2.2.1 q78.2.2.2.2.2.1 q78.2.2.2.2.2.2.1 q78.2.2.2.2.2.2.2.1 q78.2.2.2.2.2.2.2.2.1 q78.2.2.2.2.2.2.2.2.2 _ hf hG _ _ (hP.sub [1, 0, 2, 3] rfl) (hD.sub [1, 0, 2, 3] rfl rfl) hS _ (lv_sub hl [1, 0] rfl))
            · replace hf := ds_f c_91 hf
              refine lv_aload_n hx hb dX8_read_94 rfl (lv_at hl 1 rfl) ?_
              obtain ⟨q95, hq95, hf⟩ := ds_ob hf
              refine ds_calli (wr := [(h_o_all, .inl (ca 0, 350, .inl o_all_r)), (h_o_told, .inl (ca 0, 67, .inl q78.2.2.2.2.2.2.2.2.2)), (h_o_text, .inl (ca 2, 1000, .inl o_text_r))]) (va_runV (As := []) (rest := []) ⟨hx, hb, hml, hown, hts⟩ (c_X8_fails l dC dI ca sa h_o h_o_plans h_o_makers h_o_halves h_o_all h_o_text h_o_saved h_o_undone h_o_told h_o_shift h_o_rootOf h_o_becomes h_o_comes h_o_next H.size o_raised o_undos q78.2.1 o_length q78.2.2.1 q78.2.2.2.1 q78.2.2.2.2.1 q78.2.2.2.2.2.1 q78.2.2.2.2.2.2.1 q78.2.2.2.2.2.2.2.1 q78.2.2.2.2.2.2.2.2.1 o_firstX o_firstY o_secondX o_secondY o_x  q95 hq95) (cwV 0 hts (ds_gV kw_639 kw_640 kw_641 kw_597 kw_642) rfl rfl rfl (by decide +kernel) ⟨Nat.le_of_ble_eq_true rfl, Nat.le_of_ble_eq_true rfl⟩) ⟨ds_blind, va_recv hK hP (ci := 7) (q0 := 1) rfl rfl, ds_at hP hD hK hE hS hA [1] rfl rfl _⟩ rfl rfl hl.1 rfl (lv_room (Nat.le_of_ble_eq_true rfl)) dX8_read_95 ⟨Nat.zero_le _, Nat.zero_le _⟩) hP hD hS hA [1] [0, 2, 3] rfl rfl rfl (by decide) (fun H locs hP hD hS => ?_)
              have hP : va_P (dC, dI) vwCl [(h_o_all, .inl (ca 0, 350, .inl o_all_r)), (h_o_told, .inl (ca 0, 67, .inl q78.2.2.2.2.2.2.2.2.2)), (h_o_text, .inl (ca 2, 1000, .inl o_text_r)), (h_o, .inr (7, [.ref h_o_plans, .ref h_o_makers, .ref h_o_halves, .int o_raised, .ref h_o_all, .ref h_o_text, .ref h_o_saved, .ref h_o_undone, .int o_undos, .int q78.2.1, .int o_length, .int q78.2.2.1, .int q78.2.2.2.1, .int q78.2.2.2.2.1, .long q78.2.2.2.2.2.1, .int q95.2, .int q78.2.2.2.2.2.2.2.1, .int q78.2.2.2.2.2.2.2.2.1, .ref h_o_told, .ref h_o_shift, .int o_firstX, .int o_firstY, .int o_secondX, .int o_secondY, .ref h_o_rootOf, .ref h_o_becomes, .ref h_o_comes, .ref h_o_next, .int o_x]))] H := hP
              have hD : va_D A [(h_o_all, .inl (ca 0, 350, .inl o_all_r)), (h_o_told, .inl (ca 0, 67, .inl q78.2.2.2.2.2.2.2.2.2)), (h_o_text, .inl (ca 2, 1000, .inl o_text_r)), (h_o, .inr (7, [.ref h_o_plans, .ref h_o_makers, .ref h_o_halves, .int o_raised, .ref h_o_all, .ref h_o_text, .ref h_o_saved, .ref h_o_undone, .int o_undos, .int q78.2.1, .int o_length, .int q78.2.2.1, .int q78.2.2.2.1, .int q78.2.2.2.2.1, .long q78.2.2.2.2.2.1, .int q95.2, .int q78.2.2.2.2.2.2.2.1, .int q78.2.2.2.2.2.2.2.2.1, .ref h_o_told, .ref h_o_shift, .int o_firstX, .int o_firstY, .int o_secondX, .int o_secondY, .ref h_o_rootOf, .ref h_o_becomes, .ref h_o_comes, .ref h_o_next, .int o_x]))] := hD
              refine lv_istore_n (lv' := [(1, .int q95.1), (0, .ref h_o)]) hx hb dX8_read_98 rfl hl (by decide) rfl (fun ls hl => ?_)
              exact h1 (J_99 q95.1 q78.2.1 q78.2.2.1 q78.2.2.2.1 q78.2.2.2.2.1 q78.2.2.2.2.2.1 q95.2 q78.2.2.2.2.2.2.2.1 q78.2.2.2.2.2.2.2.2.1 q78.2.2.2.2.2.2.2.2.2 _ hf hG _ _ (hP.sub [3, 0, 1, 2] rfl) (hD.sub [3, 0, 1, 2] rfl rfl) hS _ (lv_sub hl [1, 0] rfl))
  have J_45 : ∀ (o_raised : Int32) (o_undos : Int32) (o_reached : Int32) (o_length : Int32) (o_begin : Int32) (o_letters : Int32) (o_sort : Int32) (o_word : Int64) (o_wrongAt : Int32) (o_badAt : Int32) (o_bad : Int32) (o_all_r : Nat → Int32) (o_told_r : Nat → Int32) (rr : Int32 × Int32 × Int32 × Int32 × Int32 × Int32 × Int32 × Int32 × Int64 × Int32 × Int32 × Int32 × (Nat → Int32) × (Nat → Int32)) (hf : fX8_read_45 o_raised o_undos o_length o_wrongAt o_all_r o_told_r o_text_r = some rr) (hG : G0 rr) (H : Heap) (locs : List Loc) (hP : va_P (dC, dI) vwCl [(h_o, .inr (7, [.ref h_o_plans, .ref h_o_makers, .ref h_o_halves, .int o_raised, .ref h_o_all, .ref h_o_text, .ref h_o_saved, .ref h_o_undone, .int o_undos, .int o_reached, .int o_length, .int o_begin, .int o_letters, .int o_sort, .long o_word, .int o_wrongAt, .int o_badAt, .int o_bad, .ref h_o_told, .ref h_o_shift, .int o_firstX, .int o_firstY, .int o_secondX, .int o_secondY, .ref h_o_rootOf, .ref h_o_becomes, .ref h_o_comes, .ref h_o_next, .int o_x])), (h_o_all, .inl (ca 0, 350, .inl o_all_r)), (h_o_told, .inl (ca 0, 67, .inl o_told_r)), (h_o_text, .inl (ca 2, 1000, .inl o_text_r))] H) (hD : va_D A [(h_o, .inr (7, [.ref h_o_plans, .ref h_o_makers, .ref h_o_halves, .int o_raised, .ref h_o_all, .ref h_o_text, .ref h_o_saved, .ref h_o_undone, .int o_undos, .int o_reached, .int o_length, .int o_begin, .int o_letters, .int o_sort, .long o_word, .int o_wrongAt, .int o_badAt, .int o_bad, .ref h_o_told, .ref h_o_shift, .int o_firstX, .int o_firstY, .int o_secondX, .int o_secondY, .ref h_o_rootOf, .ref h_o_becomes, .ref h_o_comes, .ref h_o_next, .int o_x])), (h_o_all, .inl (ca 0, 350, .inl o_all_r)), (h_o_told, .inl (ca 0, 67, .inl o_told_r)), (h_o_text, .inl (ca 2, 1000, .inl o_text_r))]) (hS : va_S A s.heap H locs) (ls : Array Slot) (hl : lv_has ls 3 [(0, .ref h_o)]), WW H locs (F0 m 45 ls []) := by
    intro o_raised o_undos o_reached o_length o_begin o_letters o_sort o_word o_wrongAt o_badAt o_bad o_all_r o_told_r rr hf hG H locs hP hD hS ls hl
    refine h2 ?_
    unfold fX8_read_45 at hf
    refine lv_aload_n hx hb dX8_read_45 rfl (lv_at hl 0 rfl) ?_
    refine lv_iconst (v := 0) hx hb dX8_read_46 (by decide) ?_
    refine va_put (D := (dC, dI)) (ci := 7) (v := .int (0 : Int32)) (ty := tyX8 17) (C := RX8) (T := TX8) (N := 29) hx hb hts (fun w h => List.mem_cons_of_mem _ (kc_X8 w h)) tyX8 tyX8_ok nmX8 hown hK hP hD hS 0 rfl rfl 17 (by decide) (hg kw_624) (fun _ h9 => h9) rfl (by decide +kernel) rfl rfl (Nat.le_of_ble_eq_true rfl) dX8_read_47 (fun H locs hP hD hS => ?_)
    have hP : va_P (dC, dI) vwCl [(h_o, .inr (7, [.ref h_o_plans, .ref h_o_makers, .ref h_o_halves, .int o_raised, .ref h_o_all, .ref h_o_text, .ref h_o_saved, .ref h_o_undone, .int o_undos, .int o_reached, .int o_length, .int o_begin, .int o_letters, .int o_sort, .long o_word, .int o_wrongAt, .int o_badAt, .int (0 : Int32), .ref h_o_told, .ref h_o_shift, .int o_firstX, .int o_firstY, .int o_secondX, .int o_secondY, .ref h_o_rootOf, .ref h_o_becomes, .ref h_o_comes, .ref h_o_next, .int o_x])), (h_o_all, .inl (ca 0, 350, .inl o_all_r)), (h_o_told, .inl (ca 0, 67, .inl o_told_r)), (h_o_text, .inl (ca 2, 1000, .inl o_text_r))] H := hP
    have hD : va_D A [(h_o, .inr (7, [.ref h_o_plans, .ref h_o_makers, .ref h_o_halves, .int o_raised, .ref h_o_all, .ref h_o_text, .ref h_o_saved, .ref h_o_undone, .int o_undos, .int o_reached, .int o_length, .int o_begin, .int o_letters, .int o_sort, .long o_word, .int o_wrongAt, .int o_badAt, .int (0 : Int32), .ref h_o_told, .ref h_o_shift, .int o_firstX, .int o_firstY, .int o_secondX, .int o_secondY, .ref h_o_rootOf, .ref h_o_becomes, .ref h_o_comes, .ref h_o_next, .int o_x])), (h_o_all, .inl (ca 0, 350, .inl o_all_r)), (h_o_told, .inl (ca 0, 67, .inl o_told_r)), (h_o_text, .inl (ca 2, 1000, .inl o_text_r))] := hD
    refine lv_aload_n hx hb dX8_read_50 rfl (lv_at hl 0 rfl) ?_
    refine lv_iconst (v := -1) hx hb dX8_read_51 (by decide) ?_
    refine va_put (D := (dC, dI)) (ci := 7) (v := .int (-1 : Int32)) (ty := tyX8 16) (C := RX8) (T := TX8) (N := 29) hx hb hts (fun w h => List.mem_cons_of_mem _ (kc_X8 w h)) tyX8 tyX8_ok nmX8 hown hK hP hD hS 0 rfl rfl 16 (by decide) (hg kw_625) (fun _ h9 => h9) rfl (by decide +kernel) rfl rfl (Nat.le_of_ble_eq_true rfl) dX8_read_52 (fun H locs hP hD hS => ?_)
    have hP : va_P (dC, dI) vwCl [(h_o, .inr (7, [.ref h_o_plans, .ref h_o_makers, .ref h_o_halves, .int o_raised, .ref h_o_all, .ref h_o_text, .ref h_o_saved, .ref h_o_undone, .int o_undos, .int o_reached, .int o_length, .int o_begin, .int o_letters, .int o_sort, .long o_word, .int o_wrongAt, .int (-1 : Int32), .int (0 : Int32), .ref h_o_told, .ref h_o_shift, .int o_firstX, .int o_firstY, .int o_secondX, .int o_secondY, .ref h_o_rootOf, .ref h_o_becomes, .ref h_o_comes, .ref h_o_next, .int o_x])), (h_o_all, .inl (ca 0, 350, .inl o_all_r)), (h_o_told, .inl (ca 0, 67, .inl o_told_r)), (h_o_text, .inl (ca 2, 1000, .inl o_text_r))] H := hP
    have hD : va_D A [(h_o, .inr (7, [.ref h_o_plans, .ref h_o_makers, .ref h_o_halves, .int o_raised, .ref h_o_all, .ref h_o_text, .ref h_o_saved, .ref h_o_undone, .int o_undos, .int o_reached, .int o_length, .int o_begin, .int o_letters, .int o_sort, .long o_word, .int o_wrongAt, .int (-1 : Int32), .int (0 : Int32), .ref h_o_told, .ref h_o_shift, .int o_firstX, .int o_firstY, .int o_secondX, .int o_secondY, .ref h_o_rootOf, .ref h_o_becomes, .ref h_o_comes, .ref h_o_next, .int o_x])), (h_o_all, .inl (ca 0, 350, .inl o_all_r)), (h_o_told, .inl (ca 0, 67, .inl o_told_r)), (h_o_text, .inl (ca 2, 1000, .inl o_text_r))] := hD
    refine lv_aload_n hx hb dX8_read_55 rfl (lv_at hl 0 rfl) ?_
    refine lv_iconst (v := 0) hx hb dX8_read_56 (by decide) ?_
    refine va_put (D := (dC, dI)) (ci := 7) (v := .int (0 : Int32)) (ty := tyX8 9) (C := RX8) (T := TX8) (N := 29) hx hb hts (fun w h => List.mem_cons_of_mem _ (kc_X8 w h)) tyX8 tyX8_ok nmX8 hown hK hP hD hS 0 rfl rfl 9 (by decide) (hg kw_610) (fun _ h9 => h9) rfl (by decide +kernel) rfl rfl (Nat.le_of_ble_eq_true rfl) dX8_read_57 (fun H locs hP hD hS => ?_)
    have hP : va_P (dC, dI) vwCl [(h_o, .inr (7, [.ref h_o_plans, .ref h_o_makers, .ref h_o_halves, .int o_raised, .ref h_o_all, .ref h_o_text, .ref h_o_saved, .ref h_o_undone, .int o_undos, .int (0 : Int32), .int o_length, .int o_begin, .int o_letters, .int o_sort, .long o_word, .int o_wrongAt, .int (-1 : Int32), .int (0 : Int32), .ref h_o_told, .ref h_o_shift, .int o_firstX, .int o_firstY, .int o_secondX, .int o_secondY, .ref h_o_rootOf, .ref h_o_becomes, .ref h_o_comes, .ref h_o_next, .int o_x])), (h_o_all, .inl (ca 0, 350, .inl o_all_r)), (h_o_told, .inl (ca 0, 67, .inl o_told_r)), (h_o_text, .inl (ca 2, 1000, .inl o_text_r))] H := hP
    have hD : va_D A [(h_o, .inr (7, [.ref h_o_plans, .ref h_o_makers, .ref h_o_halves, .int o_raised, .ref h_o_all, .ref h_o_text, .ref h_o_saved, .ref h_o_undone, .int o_undos, .int (0 : Int32), .int o_length, .int o_begin, .int o_letters, .int o_sort, .long o_word, .int o_wrongAt, .int (-1 : Int32), .int (0 : Int32), .ref h_o_told, .ref h_o_shift, .int o_firstX, .int o_firstY, .int o_secondX, .int o_secondY, .ref h_o_rootOf, .ref h_o_becomes, .ref h_o_comes, .ref h_o_next, .int o_x])), (h_o_all, .inl (ca 0, 350, .inl o_all_r)), (h_o_told, .inl (ca 0, 67, .inl o_told_r)), (h_o_text, .inl (ca 2, 1000, .inl o_text_r))] := hD
    refine lv_aload_n hx hb dX8_read_60 rfl (lv_at hl 0 rfl) ?_
    obtain ⟨q61, hq61, hf⟩ := ds_ob hf
    refine ds_callv (wr := [(h_o_all, .inl (ca 0, 350, .inl o_all_r)), (h_o_told, .inl (ca 0, 67, .inl o_told_r))]) (va_runV (As := []) (rest := []) ⟨hx, hb, hml, hown, hts⟩ (c_X8_token l dC dI ca sa h_o h_o_plans h_o_makers h_o_halves h_o_all h_o_text h_o_saved h_o_undone h_o_told h_o_shift h_o_rootOf h_o_becomes h_o_comes h_o_next H.size o_raised o_undos (0 : Int32) o_length o_begin o_letters o_sort o_word o_wrongAt (-1 : Int32) (0 : Int32) o_firstX o_firstY o_secondX o_secondY o_x o_text_r  q61 hq61) (cwV 0 hts (ds_gV kw_626 kw_627 kw_628 kw_597 kw_629) rfl rfl rfl (by decide +kernel) ⟨Nat.le_of_ble_eq_true rfl, Nat.le_of_ble_eq_true rfl⟩) ⟨ds_blind, va_recv hK hP (ci := 7) (q0 := 0) rfl rfl, ds_at hP hD hK hE hS hA [0, 3] rfl rfl _⟩ rfl rfl hl.1 rfl (lv_room (Nat.le_of_ble_eq_true rfl)) dX8_read_61 ⟨Nat.zero_le _, Nat.zero_le _⟩) hP hD hS hA [0, 3] [1, 2] rfl rfl rfl (by decide) (fun H locs hP hD hS => ?_)
    have hP : va_P (dC, dI) vwCl [(h_o_all, .inl (ca 0, 350, .inl o_all_r)), (h_o_told, .inl (ca 0, 67, .inl o_told_r)), (h_o, .inr (7, [.ref h_o_plans, .ref h_o_makers, .ref h_o_halves, .int o_raised, .ref h_o_all, .ref h_o_text, .ref h_o_saved, .ref h_o_undone, .int o_undos, .int q61.1, .int o_length, .int q61.2.1, .int q61.2.2.1, .int q61.2.2.2.1, .long q61.2.2.2.2, .int o_wrongAt, .int (-1 : Int32), .int (0 : Int32), .ref h_o_told, .ref h_o_shift, .int o_firstX, .int o_firstY, .int o_secondX, .int o_secondY, .ref h_o_rootOf, .ref h_o_becomes, .ref h_o_comes, .ref h_o_next, .int o_x])), (h_o_text, .inl (ca 2, 1000, .inl o_text_r))] H := hP
    have hD : va_D A [(h_o_all, .inl (ca 0, 350, .inl o_all_r)), (h_o_told, .inl (ca 0, 67, .inl o_told_r)), (h_o, .inr (7, [.ref h_o_plans, .ref h_o_makers, .ref h_o_halves, .int o_raised, .ref h_o_all, .ref h_o_text, .ref h_o_saved, .ref h_o_undone, .int o_undos, .int q61.1, .int o_length, .int q61.2.1, .int q61.2.2.1, .int q61.2.2.2.1, .long q61.2.2.2.2, .int o_wrongAt, .int (-1 : Int32), .int (0 : Int32), .ref h_o_told, .ref h_o_shift, .int o_firstX, .int o_firstY, .int o_secondX, .int o_secondY, .ref h_o_rootOf, .ref h_o_becomes, .ref h_o_comes, .ref h_o_next, .int o_x])), (h_o_text, .inl (ca 2, 1000, .inl o_text_r))] := hD
    refine lv_iconst (v := 1) hx hb dX8_read_64 (by decide) ?_
    refine lv_istore_n (lv' := [(1, .int (1 : Int32)), (0, .ref h_o)]) hx hb dX8_read_65 rfl hl (by decide) rfl (fun ls hl => ?_)
    exact h1 (J_66 o_raised o_undos o_length o_all_r 1000 (1 : Int32) q61.1 q61.2.1 q61.2.2.1 q61.2.2.2.1 q61.2.2.2.2 o_wrongAt (-1 : Int32) (0 : Int32) o_told_r _ hf hG _ _ (hP.sub [2, 0, 1, 3] rfl) (hD.sub [2, 0, 1, 3] rfl rfl) hS _ (lv_sub hl [1, 0] rfl))
  have J_26 : ∀ (o_raised : Int32) (o_undos : Int32) (o_reached : Int32) (o_length : Int32) (o_begin : Int32) (o_letters : Int32) (o_sort : Int32) (o_word : Int64) (o_wrongAt : Int32) (o_badAt : Int32) (o_bad : Int32) (o_all_r : Nat → Int32) (n : Nat) (v1 : Int32) (o_told_r : Nat → Int32) (rr : Int32 × Int32 × Int32 × Int32 × Int32 × Int32 × Int32 × Int32 × Int64 × Int32 × Int32 × Int32 × (Nat → Int32) × (Nat → Int32)) (hf : ds_it (fun s => fX8_read_26_b o_raised o_undos o_length o_wrongAt o_all_r o_text_r s.1 s.2) n (v1, o_told_r) = some rr) (hG : G0 rr) (H : Heap) (locs : List Loc) (hP : va_P (dC, dI) vwCl [(h_o, .inr (7, [.ref h_o_plans, .ref h_o_makers, .ref h_o_halves, .int o_raised, .ref h_o_all, .ref h_o_text, .ref h_o_saved, .ref h_o_undone, .int o_undos, .int o_reached, .int o_length, .int o_begin, .int o_letters, .int o_sort, .long o_word, .int o_wrongAt, .int o_badAt, .int o_bad, .ref h_o_told, .ref h_o_shift, .int o_firstX, .int o_firstY, .int o_secondX, .int o_secondY, .ref h_o_rootOf, .ref h_o_becomes, .ref h_o_comes, .ref h_o_next, .int o_x])), (h_o_all, .inl (ca 0, 350, .inl o_all_r)), (h_o_told, .inl (ca 0, 67, .inl o_told_r)), (h_o_text, .inl (ca 2, 1000, .inl o_text_r))] H) (hD : va_D A [(h_o, .inr (7, [.ref h_o_plans, .ref h_o_makers, .ref h_o_halves, .int o_raised, .ref h_o_all, .ref h_o_text, .ref h_o_saved, .ref h_o_undone, .int o_undos, .int o_reached, .int o_length, .int o_begin, .int o_letters, .int o_sort, .long o_word, .int o_wrongAt, .int o_badAt, .int o_bad, .ref h_o_told, .ref h_o_shift, .int o_firstX, .int o_firstY, .int o_secondX, .int o_secondY, .ref h_o_rootOf, .ref h_o_becomes, .ref h_o_comes, .ref h_o_next, .int o_x])), (h_o_all, .inl (ca 0, 350, .inl o_all_r)), (h_o_told, .inl (ca 0, 67, .inl o_told_r)), (h_o_text, .inl (ca 2, 1000, .inl o_text_r))]) (hS : va_S A s.heap H locs) (ls : Array Slot) (hl : lv_has ls 3 [(0, .ref h_o), (1, .int v1)]), WW H locs (F0 m 26 ls []) := by
    intro o_raised o_undos o_reached o_length o_begin o_letters o_sort o_word o_wrongAt o_badAt o_bad o_all_r n
    induction n with
    | zero => intro v1 o_told_r rr hf; exact (ds_it_zero hf).elim
    | succ n ih26 =>
      intro v1 o_told_r rr hf hG H locs hP hD hS ls hl
      refine h2 ?_
      obtain ⟨rr, hf, hG⟩ := ds_it_succ hf hG
      replace hf : fX8_read_26_b o_raised o_undos o_length o_wrongAt o_all_r o_text_r v1 o_told_r = some rr := hf
      obtain ⟨G1, eG1⟩ : ∃ G : ((Int32 × (Nat → Int32)) ⊕ (Int32 × Int32 × Int32 × Int32 × Int32 × Int32 × Int32 × Int32 × Int64 × Int32 × Int32 × Int32 × (Nat → Int32) × (Nat → Int32))) → Prop, G = ds_G (fun s' => ∃ r', ds_it (fun s => fX8_read_26_b o_raised o_undos o_length o_wrongAt o_all_r o_text_r s.1 s.2) n s' = some r' ∧ G0 r') G0 := ⟨_, rfl⟩
      rw [← eG1] at hG
      unfold fX8_read_26_b at hf
      refine lv_iload_n hx hb dX8_read_26 rfl (lv_at hl 1 rfl) ?_
      refine lv_bipush (v := 67) hx hb dX8_read_27 (by decide) ?_
      refine lv_icmp_ge (tgt := 45) hx hb dX8_read_29 (by decide) (fun c_29 => ?_) (fun c_29 => ?_)
      · replace hf := ds_t c_29 hf
        obtain ⟨rr, hr_0, hf⟩ := ds_ob hf
        have hf := Option.some.inj hf
        subst hf
        rw [eG1] at hG
        replace hG : G0 rr := hG
        have hf := hr_0
        exact h1 (J_45 o_raised o_undos o_reached o_length o_begin o_letters o_sort o_word o_wrongAt o_badAt o_bad o_all_r o_told_r _ hf hG _ _ hP hD hS _ (lv_sub hl [0] rfl))
      · replace hf := ds_f c_29 hf
        refine lv_aload_n hx hb dX8_read_32 rfl (lv_at hl 0 rfl) ?_
        refine va_get (D := (dC, dI)) (ci := 7) (v := .ref h_o_told) (C := RX8) (T := TX8) (N := 29) hx hb hts (fun w h => List.mem_cons_of_mem _ (kc_X8 w h)) hown hK hP 0 rfl rfl 18 (by decide) (hg kw_630) (fun _ h9 => h9) rfl dX8_read_33 ?_
        refine lv_iload_n hx hb dX8_read_36 rfl (lv_at hl 1 rfl) ?_
        refine lv_iconst (v := 0) hx hb dX8_read_37 (by decide) ?_
        obtain ⟨i_38, hf⟩ := ds_ci hf
        refine va_iast hx hb hK hP hD hS 2 0 rfl rfl i_38 dX8_read_38 (fun H locs hP hD hS => ?_)
        have hP : va_P (dC, dI) vwCl [(h_o, .inr (7, [.ref h_o_plans, .ref h_o_makers, .ref h_o_halves, .int o_raised, .ref h_o_all, .ref h_o_text, .ref h_o_saved, .ref h_o_undone, .int o_undos, .int o_reached, .int o_length, .int o_begin, .int o_letters, .int o_sort, .long o_word, .int o_wrongAt, .int o_badAt, .int o_bad, .ref h_o_told, .ref h_o_shift, .int o_firstX, .int o_firstY, .int o_secondX, .int o_secondY, .ref h_o_rootOf, .ref h_o_becomes, .ref h_o_comes, .ref h_o_next, .int o_x])), (h_o_all, .inl (ca 0, 350, .inl o_all_r)), (h_o_told, .inl (ca 0, 67, .inl (upd o_told_r v1.toNatClampNeg (0 : Int32)))), (h_o_text, .inl (ca 2, 1000, .inl o_text_r))] H := hP
        have hD : va_D A [(h_o, .inr (7, [.ref h_o_plans, .ref h_o_makers, .ref h_o_halves, .int o_raised, .ref h_o_all, .ref h_o_text, .ref h_o_saved, .ref h_o_undone, .int o_undos, .int o_reached, .int o_length, .int o_begin, .int o_letters, .int o_sort, .long o_word, .int o_wrongAt, .int o_badAt, .int o_bad, .ref h_o_told, .ref h_o_shift, .int o_firstX, .int o_firstY, .int o_secondX, .int o_secondY, .ref h_o_rootOf, .ref h_o_becomes, .ref h_o_comes, .ref h_o_next, .int o_x])), (h_o_all, .inl (ca 0, 350, .inl o_all_r)), (h_o_told, .inl (ca 0, 67, .inl (upd o_told_r v1.toNatClampNeg (0 : Int32)))), (h_o_text, .inl (ca 2, 1000, .inl o_text_r))] := hD
        refine lv_iinc (v := (v1 + 1)) (lv' := [(1, .int (v1 + 1)), (0, .ref h_o)]) hx hb dX8_read_39 hl (k := 1) rfl rfl (by decide) rfl (fun ls hl => ?_)
        refine lv_goto (tgt := 26) hx hb dX8_read_42 (by decide) ?_
        have hf := Option.some.inj hf
        subst hf
        rw [eG1] at hG
        obtain ⟨rr, hf, hG⟩ := hG
        exact h1 (ih26 (v1 + 1) (upd o_told_r v1.toNatClampNeg (0 : Int32)) rr hf hG _ _ hP hD hS _ (lv_sub hl [1, 0] rfl))
  unfold fX8_read at hf
  refine lv_aload_n hx hb dX8_read_0 rfl (lv_at hl 0 rfl) ?_
  refine lv_iconst (v := 0) hx hb dX8_read_1 (by decide) ?_
  refine va_put (D := (dC, dI)) (ci := 7) (v := .int (0 : Int32)) (ty := tyX8 3) (C := RX8) (T := TX8) (N := 29) hx hb hts (fun w h => List.mem_cons_of_mem _ (kc_X8 w h)) tyX8 tyX8_ok nmX8 hown hK hP hD hS 0 rfl rfl 3 (by decide) (hg kw_564) (fun _ h9 => h9) rfl (by decide +kernel) rfl rfl (Nat.le_of_ble_eq_true rfl) dX8_read_2 (fun H locs hP hD hS => ?_)
  have hP : va_P (dC, dI) vwCl [(h_o, .inr (7, [.ref h_o_plans, .ref h_o_makers, .ref h_o_halves, .int (0 : Int32), .ref h_o_all, .ref h_o_text, .ref h_o_saved, .ref h_o_undone, .int o_undos, .int o_reached, .int o_length, .int o_begin, .int o_letters, .int o_sort, .long o_word, .int o_wrongAt, .int o_badAt, .int o_bad, .ref h_o_told, .ref h_o_shift, .int o_firstX, .int o_firstY, .int o_secondX, .int o_secondY, .ref h_o_rootOf, .ref h_o_becomes, .ref h_o_comes, .ref h_o_next, .int o_x])), (h_o_all, .inl (ca 0, 350, .inl o_all_r)), (h_o_told, .inl (ca 0, 67, .inl o_told_r)), (h_o_text, .inl (ca 2, 1000, .inl o_text_r))] H := hP
  have hD : va_D A [(h_o, .inr (7, [.ref h_o_plans, .ref h_o_makers, .ref h_o_halves, .int (0 : Int32), .ref h_o_all, .ref h_o_text, .ref h_o_saved, .ref h_o_undone, .int o_undos, .int o_reached, .int o_length, .int o_begin, .int o_letters, .int o_sort, .long o_word, .int o_wrongAt, .int o_badAt, .int o_bad, .ref h_o_told, .ref h_o_shift, .int o_firstX, .int o_firstY, .int o_secondX, .int o_secondY, .ref h_o_rootOf, .ref h_o_becomes, .ref h_o_comes, .ref h_o_next, .int o_x])), (h_o_all, .inl (ca 0, 350, .inl o_all_r)), (h_o_told, .inl (ca 0, 67, .inl o_told_r)), (h_o_text, .inl (ca 2, 1000, .inl o_text_r))] := hD
  refine lv_aload_n hx hb dX8_read_5 rfl (lv_at hl 0 rfl) ?_
  refine lv_aload_n hx hb dX8_read_6 rfl (lv_at hl 0 rfl) ?_
  refine va_get (D := (dC, dI)) (ci := 7) (v := .ref h_o_all) (C := RX8) (T := TX8) (N := 29) hx hb hts (fun w h => List.mem_cons_of_mem _ (kc_X8 w h)) hown hK hP 0 rfl rfl 4 (by decide) (hg kw_594) (fun _ h9 => h9) rfl dX8_read_7 ?_
  refine lv_bipush (v := 67) hx hb dX8_read_10 (by decide) ?_
  refine va_iald hx hb hK hP 1 0 rfl rfl (ds_in_ok (i := 67) (n := 350) (by decide)) dX8_read_12 ?_
  refine va_put (D := (dC, dI)) (ci := 7) (v := .int (o_all_r (67 : Int32).toNatClampNeg)) (ty := tyX8 10) (C := RX8) (T := TX8) (N := 29) hx hb hts (fun w h => List.mem_cons_of_mem _ (kc_X8 w h)) tyX8 tyX8_ok nmX8 hown hK hP hD hS 0 rfl rfl 10 (by decide) (hg kw_611) (fun _ h9 => h9) rfl (by decide +kernel) rfl rfl (Nat.le_of_ble_eq_true rfl) dX8_read_13 (fun H locs hP hD hS => ?_)
  have hP : va_P (dC, dI) vwCl [(h_o, .inr (7, [.ref h_o_plans, .ref h_o_makers, .ref h_o_halves, .int (0 : Int32), .ref h_o_all, .ref h_o_text, .ref h_o_saved, .ref h_o_undone, .int o_undos, .int o_reached, .int (o_all_r (67 : Int32).toNatClampNeg), .int o_begin, .int o_letters, .int o_sort, .long o_word, .int o_wrongAt, .int o_badAt, .int o_bad, .ref h_o_told, .ref h_o_shift, .int o_firstX, .int o_firstY, .int o_secondX, .int o_secondY, .ref h_o_rootOf, .ref h_o_becomes, .ref h_o_comes, .ref h_o_next, .int o_x])), (h_o_all, .inl (ca 0, 350, .inl o_all_r)), (h_o_told, .inl (ca 0, 67, .inl o_told_r)), (h_o_text, .inl (ca 2, 1000, .inl o_text_r))] H := hP
  have hD : va_D A [(h_o, .inr (7, [.ref h_o_plans, .ref h_o_makers, .ref h_o_halves, .int (0 : Int32), .ref h_o_all, .ref h_o_text, .ref h_o_saved, .ref h_o_undone, .int o_undos, .int o_reached, .int (o_all_r (67 : Int32).toNatClampNeg), .int o_begin, .int o_letters, .int o_sort, .long o_word, .int o_wrongAt, .int o_badAt, .int o_bad, .ref h_o_told, .ref h_o_shift, .int o_firstX, .int o_firstY, .int o_secondX, .int o_secondY, .ref h_o_rootOf, .ref h_o_becomes, .ref h_o_comes, .ref h_o_next, .int o_x])), (h_o_all, .inl (ca 0, 350, .inl o_all_r)), (h_o_told, .inl (ca 0, 67, .inl o_told_r)), (h_o_text, .inl (ca 2, 1000, .inl o_text_r))] := hD
  refine lv_aload_n hx hb dX8_read_16 rfl (lv_at hl 0 rfl) ?_
  refine va_get (D := (dC, dI)) (ci := 7) (v := .ref h_o_all) (C := RX8) (T := TX8) (N := 29) hx hb hts (fun w h => List.mem_cons_of_mem _ (kc_X8 w h)) hown hK hP 0 rfl rfl 4 (by decide) (hg kw_594) (fun _ h9 => h9) rfl dX8_read_17 ?_
  refine lv_bipush (v := 67) hx hb dX8_read_20 (by decide) ?_
  refine lv_iconst (v := 0) hx hb dX8_read_22 (by decide) ?_
  refine va_iast hx hb hK hP hD hS 1 0 rfl rfl (ds_in_ok (i := 67) (n := 350) (by decide)) dX8_read_23 (fun H locs hP hD hS => ?_)
  have hP : va_P (dC, dI) vwCl [(h_o, .inr (7, [.ref h_o_plans, .ref h_o_makers, .ref h_o_halves, .int (0 : Int32), .ref h_o_all, .ref h_o_text, .ref h_o_saved, .ref h_o_undone, .int o_undos, .int o_reached, .int (o_all_r (67 : Int32).toNatClampNeg), .int o_begin, .int o_letters, .int o_sort, .long o_word, .int o_wrongAt, .int o_badAt, .int o_bad, .ref h_o_told, .ref h_o_shift, .int o_firstX, .int o_firstY, .int o_secondX, .int o_secondY, .ref h_o_rootOf, .ref h_o_becomes, .ref h_o_comes, .ref h_o_next, .int o_x])), (h_o_all, .inl (ca 0, 350, .inl (upd o_all_r ((67 : Int32).toNatClampNeg) (0 : Int32)))), (h_o_told, .inl (ca 0, 67, .inl o_told_r)), (h_o_text, .inl (ca 2, 1000, .inl o_text_r))] H := hP
  have hD : va_D A [(h_o, .inr (7, [.ref h_o_plans, .ref h_o_makers, .ref h_o_halves, .int (0 : Int32), .ref h_o_all, .ref h_o_text, .ref h_o_saved, .ref h_o_undone, .int o_undos, .int o_reached, .int (o_all_r (67 : Int32).toNatClampNeg), .int o_begin, .int o_letters, .int o_sort, .long o_word, .int o_wrongAt, .int o_badAt, .int o_bad, .ref h_o_told, .ref h_o_shift, .int o_firstX, .int o_firstY, .int o_secondX, .int o_secondY, .ref h_o_rootOf, .ref h_o_becomes, .ref h_o_comes, .ref h_o_next, .int o_x])), (h_o_all, .inl (ca 0, 350, .inl (upd o_all_r ((67 : Int32).toNatClampNeg) (0 : Int32)))), (h_o_told, .inl (ca 0, 67, .inl o_told_r)), (h_o_text, .inl (ca 2, 1000, .inl o_text_r))] := hD
  refine lv_iconst (v := 0) hx hb dX8_read_24 (by decide) ?_
  refine lv_istore_n (lv' := [(1, .int (0 : Int32)), (0, .ref h_o)]) hx hb dX8_read_25 rfl hl (by decide) rfl (fun ls hl => ?_)
  exact h1 (J_26 (0 : Int32) o_undos o_reached (o_all_r (67 : Int32).toNatClampNeg) o_begin o_letters o_sort o_word o_wrongAt o_badAt o_bad (upd o_all_r ((67 : Int32).toNatClampNeg) (0 : Int32)) 1000 (0 : Int32) o_told_r _ hf hG _ _ hP hD hS _ (lv_sub hl [1, 0] rfl))
theorem dX8_fault_0 : decode cX8_fault 0 = .ok (.aload_n 0, 1) := by decide +kernel
theorem dX8_fault_1 : decode cX8_fault 1 = .ok (.iconst 0, 1) := by decide +kernel
theorem dX8_fault_2 : decode cX8_fault 2 = .ok (.putfield 51, 3) := by decide +kernel
theorem dX8_fault_5 : decode cX8_fault 5 = .ok (.iload_n 1, 1) := by decide +kernel
theorem dX8_fault_6 : decode cX8_fault 6 = .ok (.ifCond .eq 13, 3) := by decide +kernel
theorem dX8_fault_9 : decode cX8_fault 9 = .ok (.aload_n 0, 1) := by decide +kernel
theorem dX8_fault_10 : decode cX8_fault 10 = .ok (.getfield 19, 3) := by decide +kernel
theorem dX8_fault_13 : decode cX8_fault 13 = .ok (.bipush 69, 2) := by decide +kernel
theorem dX8_fault_15 : decode cX8_fault 15 = .ok (.iaload, 1) := by decide +kernel
theorem dX8_fault_16 : decode cX8_fault 16 = .ok (.goto 10, 3) := by decide +kernel
theorem dX8_fault_19 : decode cX8_fault 19 = .ok (.aload_n 0, 1) := by decide +kernel
theorem dX8_fault_20 : decode cX8_fault 20 = .ok (.getfield 19, 3) := by decide +kernel
theorem dX8_fault_23 : decode cX8_fault 23 = .ok (.bipush 68, 2) := by decide +kernel
theorem dX8_fault_25 : decode cX8_fault 25 = .ok (.iaload, 1) := by decide +kernel
theorem dX8_fault_26 : decode cX8_fault 26 = .ok (.ireturn, 1) := by decide +kernel
def fX8_fault (o_all_r : Nat → Int32) (p1 : Int32) : Option (Int32 × Int32) :=
  if p1 = 0 then some ((o_all_r (68 : Int32).toNatClampNeg), (0 : Int32)) else some ((o_all_r (69 : Int32).toNatClampNeg), (0 : Int32))
set_option maxHeartbeats 4000000 in
set_option maxRecDepth 100000 in
theorem c_X8_fault (l : Launch) (dC : Nat → ClassId) (dI : Nat → Nat → Nat) (ca : Nat → ClassId) (sa : Nat → Nat) (h_o : Nat) (h_o_plans : Nat) (h_o_makers : Nat) (h_o_halves : Nat) (h_o_all : Nat) (h_o_text : Nat) (h_o_saved : Nat) (h_o_undone : Nat) (h_o_told : Nat) (h_o_shift : Nat) (h_o_rootOf : Nat) (h_o_becomes : Nat) (h_o_comes : Nat) (h_o_next : Nat) (sz : Nat) (o_raised : Int32) (o_undos : Int32) (o_reached : Int32) (o_length : Int32) (o_begin : Int32) (o_letters : Int32) (o_sort : Int32) (o_word : Int64) (o_wrongAt : Int32) (o_badAt : Int32) (o_bad : Int32) (o_firstX : Int32) (o_firstY : Int32) (o_secondX : Int32) (o_secondY : Int32) (o_x : Int32) (o_all_r : Nat → Int32) (p1 : Int32) (res : Int32 × Int32) (hf : fX8_fault o_all_r p1 = some res) : Met l yX8_fault (Cond.code yX8_fault cX8_fault 2 (some .int) :: ds_gw) { frames := 0, cells := 0, slots := 0, locals := 0 } (va_Pc [.ref h_o, .int p1] (ds_Pre dC dI ca sa [(h_o, .inr (7, [.ref h_o_plans, .ref h_o_makers, .ref h_o_halves, .int o_raised, .ref h_o_all, .ref h_o_text, .ref h_o_saved, .ref h_o_undone, .int o_undos, .int o_reached, .int o_length, .int o_begin, .int o_letters, .int o_sort, .long o_word, .int o_wrongAt, .int o_badAt, .int o_bad, .ref h_o_told, .ref h_o_shift, .int o_firstX, .int o_firstY, .int o_secondX, .int o_secondY, .ref h_o_rootOf, .ref h_o_becomes, .ref h_o_comes, .ref h_o_next, .int o_x])), (h_o_all, .inl (ca 0, 350, .inl o_all_r))] sz)) (va_Qi (fun r (_ : Unit) => r = res.1) (ds_B dC dI (va_A [(h_o, .inr (7, [.ref h_o_plans, .ref h_o_makers, .ref h_o_halves, .int o_raised, .ref h_o_all, .ref h_o_text, .ref h_o_saved, .ref h_o_undone, .int o_undos, .int o_reached, .int o_length, .int o_begin, .int o_letters, .int o_sort, .long o_word, .int o_wrongAt, .int o_badAt, .int o_bad, .ref h_o_told, .ref h_o_shift, .int o_firstX, .int o_firstY, .int o_secondX, .int o_secondY, .ref h_o_rootOf, .ref h_o_becomes, .ref h_o_comes, .ref h_o_next, .int o_x])), (h_o_all, .inl (ca 0, 350, .inl o_all_r))] sz) [(h_o, .inr (7, [.ref h_o_plans, .ref h_o_makers, .ref h_o_halves, .int res.2, .ref h_o_all, .ref h_o_text, .ref h_o_saved, .ref h_o_undone, .int o_undos, .int o_reached, .int o_length, .int o_begin, .int o_letters, .int o_sort, .long o_word, .int o_wrongAt, .int o_badAt, .int o_bad, .ref h_o_told, .ref h_o_shift, .int o_firstX, .int o_firstY, .int o_secondX, .int o_secondY, .ref h_o_rootOf, .ref h_o_becomes, .ref h_o_comes, .ref h_o_next, .int o_x])), (h_o_all, .inl (ca 0, 350, .inl o_all_r))]) (va_A [(h_o, .inr (7, [.ref h_o_plans, .ref h_o_makers, .ref h_o_halves, .int o_raised, .ref h_o_all, .ref h_o_text, .ref h_o_saved, .ref h_o_undone, .int o_undos, .int o_reached, .int o_length, .int o_begin, .int o_letters, .int o_sort, .long o_word, .int o_wrongAt, .int o_badAt, .int o_bad, .ref h_o_told, .ref h_o_shift, .int o_firstX, .int o_firstY, .int o_secondX, .int o_secondY, .ref h_o_rootOf, .ref h_o_becomes, .ref h_o_comes, .ref h_o_next, .int o_x])), (h_o_all, .inl (ca 0, 350, .inl o_all_r))] sz)) 0 0 (va_A [(h_o, .inr (7, [.ref h_o_plans, .ref h_o_makers, .ref h_o_halves, .int o_raised, .ref h_o_all, .ref h_o_text, .ref h_o_saved, .ref h_o_undone, .int o_undos, .int o_reached, .int o_length, .int o_begin, .int o_letters, .int o_sort, .long o_word, .int o_wrongAt, .int o_badAt, .int o_bad, .ref h_o_told, .ref h_o_shift, .int o_firstX, .int o_firstY, .int o_secondX, .int o_secondY, .ref h_o_rootOf, .ref h_o_becomes, .ref h_o_comes, .ref h_o_next, .int o_x])), (h_o_all, .inl (ca 0, 350, .inl o_all_r))] sz) := by
  refine Met.ofW (cc := cX8_fault) (maxL := 2) (ret := (some .int)) (by decide) rfl ?_
  intro p e s m args below meth c s₁ B hml hv
  obtain ⟨rfl, hsz, hP, hK, hD0, hE⟩ := hv
  have hx := B.exec
  have hb := B.bytes
  have hr := B.returns
  have hts := atoms_spec (ws := Cond.code yX8_fault cX8_fault 2 (some .int) :: ds_gw) B.pre
  have hg : ∀ {w : Cond}, w ∈ ds_gw → w.before _ s = true := fun h => hts _ (List.mem_cons_of_mem _ h)
  have hown : s.vm.findClass RX8 = some m.cls := findClass_of_methodNamed B.named
  have hlocks := B.notSynchronized
  subst hsz
  have hD := hD0.self (sz := s.heap.size)
  generalize hAe : va_A [(h_o, .inr (7, [.ref h_o_plans, .ref h_o_makers, .ref h_o_halves, .int o_raised, .ref h_o_all, .ref h_o_text, .ref h_o_saved, .ref h_o_undone, .int o_undos, .int o_reached, .int o_length, .int o_begin, .int o_letters, .int o_sort, .long o_word, .int o_wrongAt, .int o_badAt, .int o_bad, .ref h_o_told, .ref h_o_shift, .int o_firstX, .int o_firstY, .int o_secondX, .int o_secondY, .ref h_o_rootOf, .ref h_o_becomes, .ref h_o_comes, .ref h_o_next, .int o_x])), (h_o_all, .inl (ca 0, 350, .inl o_all_r))] s.heap.size = A at hD hE ⊢
  have hA : ∀ q : Nat, s.heap.size ≤ q → A q := fun q h => by rw [← hAe]; exact Or.inr h
  have hS : va_S A s.heap s.heap [] := va_S.rf
  have hl := lv_entry ([.ref h_o, .int p1]) (n := 2) (Nat.le_of_ble_eq_true rfl)
  rw [lg_entry_eq]
  generalize (lg_sl ([.ref h_o, .int p1]) ++ List.replicate (2 - (lg_sl ([.ref h_o, .int p1])).length) Slot.unset).toArray = ls at hl ⊢
  have hl : lv_has ls 2 [(0, .ref h_o), (1, .int p1)] := hl
  obtain ⟨G0, eG0⟩ : ∃ G : (Int32 × Int32) → Prop, G = (fun r => r = res) := ⟨_, rfl⟩
  obtain ⟨rr, hrr⟩ : ∃ z, z = res := ⟨_, rfl⟩
  rw [← hrr] at hf
  have hG : G0 rr := by subst eG0; exact hrr
  unfold fX8_fault at hf
  refine lv_aload_n hx hb dX8_fault_0 rfl (lv_at hl 0 rfl) ?_
  refine lv_iconst (v := 0) hx hb dX8_fault_1 (by decide) ?_
  refine va_put (D := (dC, dI)) (ci := 7) (v := .int (0 : Int32)) (ty := tyX8 3) (C := RX8) (T := TX8) (N := 29) hx hb hts (fun w h => List.mem_cons_of_mem _ (kc_X8 w h)) tyX8 tyX8_ok nmX8 hown hK hP hD hS 0 rfl rfl 3 (by decide) (hg kw_564) (fun _ h9 => h9) rfl (by decide +kernel) rfl rfl (Nat.le_of_ble_eq_true rfl) dX8_fault_2 (fun H locs hP hD hS => ?_)
  have hP : va_P (dC, dI) vwCl [(h_o, .inr (7, [.ref h_o_plans, .ref h_o_makers, .ref h_o_halves, .int (0 : Int32), .ref h_o_all, .ref h_o_text, .ref h_o_saved, .ref h_o_undone, .int o_undos, .int o_reached, .int o_length, .int o_begin, .int o_letters, .int o_sort, .long o_word, .int o_wrongAt, .int o_badAt, .int o_bad, .ref h_o_told, .ref h_o_shift, .int o_firstX, .int o_firstY, .int o_secondX, .int o_secondY, .ref h_o_rootOf, .ref h_o_becomes, .ref h_o_comes, .ref h_o_next, .int o_x])), (h_o_all, .inl (ca 0, 350, .inl o_all_r))] H := hP
  have hD : va_D A [(h_o, .inr (7, [.ref h_o_plans, .ref h_o_makers, .ref h_o_halves, .int (0 : Int32), .ref h_o_all, .ref h_o_text, .ref h_o_saved, .ref h_o_undone, .int o_undos, .int o_reached, .int o_length, .int o_begin, .int o_letters, .int o_sort, .long o_word, .int o_wrongAt, .int o_badAt, .int o_bad, .ref h_o_told, .ref h_o_shift, .int o_firstX, .int o_firstY, .int o_secondX, .int o_secondY, .ref h_o_rootOf, .ref h_o_becomes, .ref h_o_comes, .ref h_o_next, .int o_x])), (h_o_all, .inl (ca 0, 350, .inl o_all_r))] := hD
  refine lv_iload_n hx hb dX8_fault_5 rfl (lv_at hl 1 rfl) ?_
  refine lv_if_eq (tgt := 19) hx hb dX8_fault_6 (by decide) (fun c_6 => ?_) (fun c_6 => ?_)
  · replace hf := ds_t c_6 hf
    refine lv_aload_n hx hb dX8_fault_19 rfl (lv_at hl 0 rfl) ?_
    refine va_get (D := (dC, dI)) (ci := 7) (v := .ref h_o_all) (C := RX8) (T := TX8) (N := 29) hx hb hts (fun w h => List.mem_cons_of_mem _ (kc_X8 w h)) hown hK hP 0 rfl rfl 4 (by decide) (hg kw_594) (fun _ h9 => h9) rfl dX8_fault_20 ?_
    refine lv_bipush (v := 68) hx hb dX8_fault_23 (by decide) ?_
    refine va_iald hx hb hK hP 1 0 rfl rfl (ds_in_ok (i := 68) (n := 350) (by decide)) dX8_fault_25 ?_
    have hf := Option.some.inj hf
    subst hf
    rw [eG0] at hG
    have hG : _ = res := hG
    subst hG
    exact W.iret (v := (o_all_r (68 : Int32).toNatClampNeg)) hx hb hr (fun t ht hW => ⟨⟨(o_all_r (68 : Int32).toNatClampNeg), (), rfl, rfl, by rw [ht]; exact hP, hD⟩, hS.F ht⟩) hS.2.2 dX8_fault_26
  · replace hf := ds_f c_6 hf
    refine lv_aload_n hx hb dX8_fault_9 rfl (lv_at hl 0 rfl) ?_
    refine va_get (D := (dC, dI)) (ci := 7) (v := .ref h_o_all) (C := RX8) (T := TX8) (N := 29) hx hb hts (fun w h => List.mem_cons_of_mem _ (kc_X8 w h)) hown hK hP 0 rfl rfl 4 (by decide) (hg kw_594) (fun _ h9 => h9) rfl dX8_fault_10 ?_
    refine lv_bipush (v := 69) hx hb dX8_fault_13 (by decide) ?_
    refine va_iald hx hb hK hP 1 0 rfl rfl (ds_in_ok (i := 69) (n := 350) (by decide)) dX8_fault_15 ?_
    refine lv_goto (tgt := 26) hx hb dX8_fault_16 (by decide) ?_
    have hf := Option.some.inj hf
    subst hf
    rw [eG0] at hG
    have hG : _ = res := hG
    subst hG
    exact W.iret (v := (o_all_r (69 : Int32).toNatClampNeg)) hx hb hr (fun t ht hW => ⟨⟨(o_all_r (69 : Int32).toNatClampNeg), (), rfl, rfl, by rw [ht]; exact hP, hD⟩, hS.F ht⟩) hS.2.2 dX8_fault_26
theorem dX8_isShiftOf_0 : decode cX8_isShiftOf 0 = .ok (.aload_n 0, 1) := by decide +kernel
theorem dX8_isShiftOf_1 : decode cX8_isShiftOf 1 = .ok (.getfield 36, 3) := by decide +kernel
theorem dX8_isShiftOf_4 : decode cX8_isShiftOf 4 = .ok (.bipush 64, 2) := by decide +kernel
theorem dX8_isShiftOf_6 : decode cX8_isShiftOf 6 = .ok (.iload_n 1, 1) := by decide +kernel
theorem dX8_isShiftOf_7 : decode cX8_isShiftOf 7 = .ok (.imul, 1) := by decide +kernel
theorem dX8_isShiftOf_8 : decode cX8_isShiftOf 8 = .ok (.aload_n 0, 1) := by decide +kernel
theorem dX8_isShiftOf_9 : decode cX8_isShiftOf 9 = .ok (.iload_n 2, 1) := by decide +kernel
theorem dX8_isShiftOf_10 : decode cX8_isShiftOf 10 = .ok (.iload_n 3, 1) := by decide +kernel
theorem dX8_isShiftOf_11 : decode cX8_isShiftOf 11 = .ok (.invokevirtual 59, 3) := by decide +kernel
theorem dX8_isShiftOf_14 : decode cX8_isShiftOf 14 = .ok (.iadd, 1) := by decide +kernel
theorem dX8_isShiftOf_15 : decode cX8_isShiftOf 15 = .ok (.baload, 1) := by decide +kernel
theorem dX8_isShiftOf_16 : decode cX8_isShiftOf 16 = .ok (.ireturn, 1) := by decide +kernel
def fX8_isShiftOf (o_all_r : Nat → Int32) (o_shift_r : Nat → Int32) (p1 : Int32) (p2 : Int32) (p3 : Int32) : Option (Int32) :=
  Option.bind (fX8_at o_all_r p2 p3) fun q11 => if ds_in (((64 : Int32) * p1) + q11) 768 = true then if (o_shift_r (((64 : Int32) * p1) + q11).toNatClampNeg) = 0 ∨ (o_shift_r (((64 : Int32) * p1) + q11).toNatClampNeg) = 1 then some (o_shift_r (((64 : Int32) * p1) + q11).toNatClampNeg) else none else none
set_option maxHeartbeats 4000000 in
set_option maxRecDepth 100000 in
theorem c_X8_isShiftOf (l : Launch) (dC : Nat → ClassId) (dI : Nat → Nat → Nat) (ca : Nat → ClassId) (sa : Nat → Nat) (h_o : Nat) (h_o_plans : Nat) (h_o_makers : Nat) (h_o_halves : Nat) (h_o_all : Nat) (h_o_text : Nat) (h_o_saved : Nat) (h_o_undone : Nat) (h_o_told : Nat) (h_o_shift : Nat) (h_o_rootOf : Nat) (h_o_becomes : Nat) (h_o_comes : Nat) (h_o_next : Nat) (sz : Nat) (o_raised : Int32) (o_undos : Int32) (o_reached : Int32) (o_length : Int32) (o_begin : Int32) (o_letters : Int32) (o_sort : Int32) (o_word : Int64) (o_wrongAt : Int32) (o_badAt : Int32) (o_bad : Int32) (o_firstX : Int32) (o_firstY : Int32) (o_secondX : Int32) (o_secondY : Int32) (o_x : Int32) (o_all_r : Nat → Int32) (o_shift_r : Nat → Int32) (p1 : Int32) (p2 : Int32) (p3 : Int32) (res : Int32) (hf : fX8_isShiftOf o_all_r o_shift_r p1 p2 p3 = some res) : Met l yX8_isShiftOf (Cond.code yX8_isShiftOf cX8_isShiftOf 4 (some .boolean) :: ds_gw) { frames := 2, cells := 0, slots := 0, locals := 44 } (va_Pc [.ref h_o, .int p1, .int p2, .int p3] (ds_Pre dC dI ca sa [(h_o, .inr (7, [.ref h_o_plans, .ref h_o_makers, .ref h_o_halves, .int o_raised, .ref h_o_all, .ref h_o_text, .ref h_o_saved, .ref h_o_undone, .int o_undos, .int o_reached, .int o_length, .int o_begin, .int o_letters, .int o_sort, .long o_word, .int o_wrongAt, .int o_badAt, .int o_bad, .ref h_o_told, .ref h_o_shift, .int o_firstX, .int o_firstY, .int o_secondX, .int o_secondY, .ref h_o_rootOf, .ref h_o_becomes, .ref h_o_comes, .ref h_o_next, .int o_x])), (h_o_all, .inl (ca 0, 350, .inl o_all_r)), (h_o_shift, .inl (ca 3, 768, .inl o_shift_r))] sz)) (va_Qi (fun r (_ : Unit) => r = res) (ds_B dC dI (va_A [(h_o, .inr (7, [.ref h_o_plans, .ref h_o_makers, .ref h_o_halves, .int o_raised, .ref h_o_all, .ref h_o_text, .ref h_o_saved, .ref h_o_undone, .int o_undos, .int o_reached, .int o_length, .int o_begin, .int o_letters, .int o_sort, .long o_word, .int o_wrongAt, .int o_badAt, .int o_bad, .ref h_o_told, .ref h_o_shift, .int o_firstX, .int o_firstY, .int o_secondX, .int o_secondY, .ref h_o_rootOf, .ref h_o_becomes, .ref h_o_comes, .ref h_o_next, .int o_x])), (h_o_all, .inl (ca 0, 350, .inl o_all_r)), (h_o_shift, .inl (ca 3, 768, .inl o_shift_r))] sz) [(h_o, .inr (7, [.ref h_o_plans, .ref h_o_makers, .ref h_o_halves, .int o_raised, .ref h_o_all, .ref h_o_text, .ref h_o_saved, .ref h_o_undone, .int o_undos, .int o_reached, .int o_length, .int o_begin, .int o_letters, .int o_sort, .long o_word, .int o_wrongAt, .int o_badAt, .int o_bad, .ref h_o_told, .ref h_o_shift, .int o_firstX, .int o_firstY, .int o_secondX, .int o_secondY, .ref h_o_rootOf, .ref h_o_becomes, .ref h_o_comes, .ref h_o_next, .int o_x])), (h_o_all, .inl (ca 0, 350, .inl o_all_r)), (h_o_shift, .inl (ca 3, 768, .inl o_shift_r))]) (va_A [(h_o, .inr (7, [.ref h_o_plans, .ref h_o_makers, .ref h_o_halves, .int o_raised, .ref h_o_all, .ref h_o_text, .ref h_o_saved, .ref h_o_undone, .int o_undos, .int o_reached, .int o_length, .int o_begin, .int o_letters, .int o_sort, .long o_word, .int o_wrongAt, .int o_badAt, .int o_bad, .ref h_o_told, .ref h_o_shift, .int o_firstX, .int o_firstY, .int o_secondX, .int o_secondY, .ref h_o_rootOf, .ref h_o_becomes, .ref h_o_comes, .ref h_o_next, .int o_x])), (h_o_all, .inl (ca 0, 350, .inl o_all_r)), (h_o_shift, .inl (ca 3, 768, .inl o_shift_r))] sz)) 0 0 (va_A [(h_o, .inr (7, [.ref h_o_plans, .ref h_o_makers, .ref h_o_halves, .int o_raised, .ref h_o_all, .ref h_o_text, .ref h_o_saved, .ref h_o_undone, .int o_undos, .int o_reached, .int o_length, .int o_begin, .int o_letters, .int o_sort, .long o_word, .int o_wrongAt, .int o_badAt, .int o_bad, .ref h_o_told, .ref h_o_shift, .int o_firstX, .int o_firstY, .int o_secondX, .int o_secondY, .ref h_o_rootOf, .ref h_o_becomes, .ref h_o_comes, .ref h_o_next, .int o_x])), (h_o_all, .inl (ca 0, 350, .inl o_all_r)), (h_o_shift, .inl (ca 3, 768, .inl o_shift_r))] sz) := by
  refine Met.ofW (cc := cX8_isShiftOf) (maxL := 4) (ret := (some .boolean)) (by decide) rfl ?_
  intro p e s m args below meth c s₁ B hml hv
  obtain ⟨rfl, hsz, hP, hK, hD0, hE⟩ := hv
  have hx := B.exec
  have hb := B.bytes
  have hr := B.returns
  have hts := atoms_spec (ws := Cond.code yX8_isShiftOf cX8_isShiftOf 4 (some .boolean) :: ds_gw) B.pre
  have hg : ∀ {w : Cond}, w ∈ ds_gw → w.before _ s = true := fun h => hts _ (List.mem_cons_of_mem _ h)
  have hown : s.vm.findClass RX8 = some m.cls := findClass_of_methodNamed B.named
  have hlocks := B.notSynchronized
  subst hsz
  have hD := hD0.self (sz := s.heap.size)
  generalize hAe : va_A [(h_o, .inr (7, [.ref h_o_plans, .ref h_o_makers, .ref h_o_halves, .int o_raised, .ref h_o_all, .ref h_o_text, .ref h_o_saved, .ref h_o_undone, .int o_undos, .int o_reached, .int o_length, .int o_begin, .int o_letters, .int o_sort, .long o_word, .int o_wrongAt, .int o_badAt, .int o_bad, .ref h_o_told, .ref h_o_shift, .int o_firstX, .int o_firstY, .int o_secondX, .int o_secondY, .ref h_o_rootOf, .ref h_o_becomes, .ref h_o_comes, .ref h_o_next, .int o_x])), (h_o_all, .inl (ca 0, 350, .inl o_all_r)), (h_o_shift, .inl (ca 3, 768, .inl o_shift_r))] s.heap.size = A at hD hE ⊢
  have hA : ∀ q : Nat, s.heap.size ≤ q → A q := fun q h => by rw [← hAe]; exact Or.inr h
  have hS : va_S A s.heap s.heap [] := va_S.rf
  have hl := lv_entry ([.ref h_o, .int p1, .int p2, .int p3]) (n := 4) (Nat.le_of_ble_eq_true rfl)
  rw [lg_entry_eq]
  generalize (lg_sl ([.ref h_o, .int p1, .int p2, .int p3]) ++ List.replicate (4 - (lg_sl ([.ref h_o, .int p1, .int p2, .int p3])).length) Slot.unset).toArray = ls at hl ⊢
  have hl : lv_has ls 4 [(0, .ref h_o), (1, .int p1), (2, .int p2), (3, .int p3)] := hl
  obtain ⟨G0, eG0⟩ : ∃ G : Int32 → Prop, G = (fun r => r = res) := ⟨_, rfl⟩
  obtain ⟨rr, hrr⟩ : ∃ z, z = res := ⟨_, rfl⟩
  rw [← hrr] at hf
  have hG : G0 rr := by subst eG0; exact hrr
  unfold fX8_isShiftOf at hf
  refine lv_aload_n hx hb dX8_isShiftOf_0 rfl (lv_at hl 0 rfl) ?_
  refine va_get (D := (dC, dI)) (ci := 7) (v := .ref h_o_shift) (C := RX8) (T := TX8) (N := 29) hx hb hts (fun w h => List.mem_cons_of_mem _ (kc_X8 w h)) hown hK hP 0 rfl rfl 19 (by decide) (hg kw_650) (fun _ h9 => h9) rfl dX8_isShiftOf_1 ?_
  refine lv_bipush (v := 64) hx hb dX8_isShiftOf_4 (by decide) ?_
  refine lv_iload_n hx hb dX8_isShiftOf_6 rfl (lv_at hl 1 rfl) ?_
  refine lv_imul hx hb dX8_isShiftOf_7 ?_
  refine lv_aload_n hx hb dX8_isShiftOf_8 rfl (lv_at hl 0 rfl) ?_
  refine lv_iload_n hx hb dX8_isShiftOf_9 rfl (lv_at hl 2 rfl) ?_
  refine lv_iload_n hx hb dX8_isShiftOf_10 rfl (lv_at hl 3 rfl) ?_
  obtain ⟨q11, hq11, hf⟩ := ds_ob hf
  refine ds_calli (wr := [(h_o_shift, .inl (ca 3, 768, .inl o_shift_r))]) (va_runV (As := [.int p2, .int p3]) (rest := [.int ((64 : Int32) * p1), .ref h_o_shift]) ⟨hx, hb, hml, hown, hts⟩ (c_X8_at l dC dI ca sa h_o h_o_plans h_o_makers h_o_halves h_o_all h_o_text h_o_saved h_o_undone h_o_told h_o_shift h_o_rootOf h_o_becomes h_o_comes h_o_next s.heap.size o_raised o_undos o_reached o_length o_begin o_letters o_sort o_word o_wrongAt o_badAt o_bad o_firstX o_firstY o_secondX o_secondY o_x o_all_r p2 p3 q11 hq11) (cwV 2 hts (ds_gV kw_599 kw_600 kw_601 kw_597 kw_602) rfl rfl rfl (by decide +kernel) ⟨Nat.le_of_ble_eq_true rfl, Nat.le_of_ble_eq_true rfl⟩) ⟨ds_blind, va_recv hK hP (ci := 7) (q0 := 0) rfl rfl, ds_at hP hD hK hE hS hA [0, 1] rfl rfl _⟩ rfl rfl hl.1 rfl (lv_room (Nat.le_of_ble_eq_true rfl)) dX8_isShiftOf_11 ⟨Nat.zero_le _, Nat.zero_le _⟩) hP hD hS hA [0, 1] [2] rfl rfl rfl (by decide) (fun H locs hP hD hS => ?_)
  have hP : va_P (dC, dI) vwCl [(h_o_shift, .inl (ca 3, 768, .inl o_shift_r)), (h_o, .inr (7, [.ref h_o_plans, .ref h_o_makers, .ref h_o_halves, .int o_raised, .ref h_o_all, .ref h_o_text, .ref h_o_saved, .ref h_o_undone, .int o_undos, .int o_reached, .int o_length, .int o_begin, .int o_letters, .int o_sort, .long o_word, .int o_wrongAt, .int o_badAt, .int o_bad, .ref h_o_told, .ref h_o_shift, .int o_firstX, .int o_firstY, .int o_secondX, .int o_secondY, .ref h_o_rootOf, .ref h_o_becomes, .ref h_o_comes, .ref h_o_next, .int o_x])), (h_o_all, .inl (ca 0, 350, .inl o_all_r))] H := hP
  have hD : va_D A [(h_o_shift, .inl (ca 3, 768, .inl o_shift_r)), (h_o, .inr (7, [.ref h_o_plans, .ref h_o_makers, .ref h_o_halves, .int o_raised, .ref h_o_all, .ref h_o_text, .ref h_o_saved, .ref h_o_undone, .int o_undos, .int o_reached, .int o_length, .int o_begin, .int o_letters, .int o_sort, .long o_word, .int o_wrongAt, .int o_badAt, .int o_bad, .ref h_o_told, .ref h_o_shift, .int o_firstX, .int o_firstY, .int o_secondX, .int o_secondY, .ref h_o_rootOf, .ref h_o_becomes, .ref h_o_comes, .ref h_o_next, .int o_x])), (h_o_all, .inl (ca 0, 350, .inl o_all_r))] := hD
  refine lv_iadd hx hb dX8_isShiftOf_14 ?_
  obtain ⟨i_15, hf⟩ := ds_ci hf
  refine va_zald hx hb hK hP 0 3 rfl rfl i_15 dX8_isShiftOf_15 ?_
  obtain ⟨z_16, hf⟩ := ds_c hf
  have hf := Option.some.inj hf
  subst hf
  rw [eG0] at hG
  have hG : _ = res := hG
  subst hG
  exact W.zret (v := (o_shift_r (((64 : Int32) * p1) + q11).toNatClampNeg)) (ty := .boolean) hx hb hr (ds_zn z_16) (fun t ht hW => ⟨⟨(o_shift_r (((64 : Int32) * p1) + q11).toNatClampNeg), (), rfl, rfl, by rw [ht]; exact (hP.sub [1, 2, 0] rfl), (hD.sub [1, 2, 0] rfl rfl)⟩, hS.F ht⟩) hS.2.2 dX8_isShiftOf_16
theorem dX8_isStep_0 : decode cX8_isStep 0 = .ok (.aload_n 0, 1) := by decide +kernel
theorem dX8_isStep_1 : decode cX8_isStep 1 = .ok (.getfield 36, 3) := by decide +kernel
theorem dX8_isStep_4 : decode cX8_isStep 4 = .ok (.aload_n 0, 1) := by decide +kernel
theorem dX8_isStep_5 : decode cX8_isStep 5 = .ok (.iload_n 1, 1) := by decide +kernel
theorem dX8_isStep_6 : decode cX8_isStep 6 = .ok (.iload_n 2, 1) := by decide +kernel
theorem dX8_isStep_7 : decode cX8_isStep 7 = .ok (.invokevirtual 59, 3) := by decide +kernel
theorem dX8_isStep_10 : decode cX8_isStep 10 = .ok (.baload, 1) := by decide +kernel
theorem dX8_isStep_11 : decode cX8_isStep 11 = .ok (.ireturn, 1) := by decide +kernel
def fX8_isStep (o_all_r : Nat → Int32) (o_shift_r : Nat → Int32) (p1 : Int32) (p2 : Int32) : Option (Int32) :=
  Option.bind (fX8_at o_all_r p1 p2) fun q7 => if ds_in q7 768 = true then if (o_shift_r q7.toNatClampNeg) = 0 ∨ (o_shift_r q7.toNatClampNeg) = 1 then some (o_shift_r q7.toNatClampNeg) else none else none
set_option maxHeartbeats 4000000 in
set_option maxRecDepth 100000 in
theorem c_X8_isStep (l : Launch) (dC : Nat → ClassId) (dI : Nat → Nat → Nat) (ca : Nat → ClassId) (sa : Nat → Nat) (h_o : Nat) (h_o_plans : Nat) (h_o_makers : Nat) (h_o_halves : Nat) (h_o_all : Nat) (h_o_text : Nat) (h_o_saved : Nat) (h_o_undone : Nat) (h_o_told : Nat) (h_o_shift : Nat) (h_o_rootOf : Nat) (h_o_becomes : Nat) (h_o_comes : Nat) (h_o_next : Nat) (sz : Nat) (o_raised : Int32) (o_undos : Int32) (o_reached : Int32) (o_length : Int32) (o_begin : Int32) (o_letters : Int32) (o_sort : Int32) (o_word : Int64) (o_wrongAt : Int32) (o_badAt : Int32) (o_bad : Int32) (o_firstX : Int32) (o_firstY : Int32) (o_secondX : Int32) (o_secondY : Int32) (o_x : Int32) (o_all_r : Nat → Int32) (o_shift_r : Nat → Int32) (p1 : Int32) (p2 : Int32) (res : Int32) (hf : fX8_isStep o_all_r o_shift_r p1 p2 = some res) : Met l yX8_isStep (Cond.code yX8_isStep cX8_isStep 3 (some .boolean) :: ds_gw) { frames := 2, cells := 0, slots := 0, locals := 44 } (va_Pc [.ref h_o, .int p1, .int p2] (ds_Pre dC dI ca sa [(h_o, .inr (7, [.ref h_o_plans, .ref h_o_makers, .ref h_o_halves, .int o_raised, .ref h_o_all, .ref h_o_text, .ref h_o_saved, .ref h_o_undone, .int o_undos, .int o_reached, .int o_length, .int o_begin, .int o_letters, .int o_sort, .long o_word, .int o_wrongAt, .int o_badAt, .int o_bad, .ref h_o_told, .ref h_o_shift, .int o_firstX, .int o_firstY, .int o_secondX, .int o_secondY, .ref h_o_rootOf, .ref h_o_becomes, .ref h_o_comes, .ref h_o_next, .int o_x])), (h_o_all, .inl (ca 0, 350, .inl o_all_r)), (h_o_shift, .inl (ca 3, 768, .inl o_shift_r))] sz)) (va_Qi (fun r (_ : Unit) => r = res) (ds_B dC dI (va_A [(h_o, .inr (7, [.ref h_o_plans, .ref h_o_makers, .ref h_o_halves, .int o_raised, .ref h_o_all, .ref h_o_text, .ref h_o_saved, .ref h_o_undone, .int o_undos, .int o_reached, .int o_length, .int o_begin, .int o_letters, .int o_sort, .long o_word, .int o_wrongAt, .int o_badAt, .int o_bad, .ref h_o_told, .ref h_o_shift, .int o_firstX, .int o_firstY, .int o_secondX, .int o_secondY, .ref h_o_rootOf, .ref h_o_becomes, .ref h_o_comes, .ref h_o_next, .int o_x])), (h_o_all, .inl (ca 0, 350, .inl o_all_r)), (h_o_shift, .inl (ca 3, 768, .inl o_shift_r))] sz) [(h_o, .inr (7, [.ref h_o_plans, .ref h_o_makers, .ref h_o_halves, .int o_raised, .ref h_o_all, .ref h_o_text, .ref h_o_saved, .ref h_o_undone, .int o_undos, .int o_reached, .int o_length, .int o_begin, .int o_letters, .int o_sort, .long o_word, .int o_wrongAt, .int o_badAt, .int o_bad, .ref h_o_told, .ref h_o_shift, .int o_firstX, .int o_firstY, .int o_secondX, .int o_secondY, .ref h_o_rootOf, .ref h_o_becomes, .ref h_o_comes, .ref h_o_next, .int o_x])), (h_o_all, .inl (ca 0, 350, .inl o_all_r)), (h_o_shift, .inl (ca 3, 768, .inl o_shift_r))]) (va_A [(h_o, .inr (7, [.ref h_o_plans, .ref h_o_makers, .ref h_o_halves, .int o_raised, .ref h_o_all, .ref h_o_text, .ref h_o_saved, .ref h_o_undone, .int o_undos, .int o_reached, .int o_length, .int o_begin, .int o_letters, .int o_sort, .long o_word, .int o_wrongAt, .int o_badAt, .int o_bad, .ref h_o_told, .ref h_o_shift, .int o_firstX, .int o_firstY, .int o_secondX, .int o_secondY, .ref h_o_rootOf, .ref h_o_becomes, .ref h_o_comes, .ref h_o_next, .int o_x])), (h_o_all, .inl (ca 0, 350, .inl o_all_r)), (h_o_shift, .inl (ca 3, 768, .inl o_shift_r))] sz)) 0 0 (va_A [(h_o, .inr (7, [.ref h_o_plans, .ref h_o_makers, .ref h_o_halves, .int o_raised, .ref h_o_all, .ref h_o_text, .ref h_o_saved, .ref h_o_undone, .int o_undos, .int o_reached, .int o_length, .int o_begin, .int o_letters, .int o_sort, .long o_word, .int o_wrongAt, .int o_badAt, .int o_bad, .ref h_o_told, .ref h_o_shift, .int o_firstX, .int o_firstY, .int o_secondX, .int o_secondY, .ref h_o_rootOf, .ref h_o_becomes, .ref h_o_comes, .ref h_o_next, .int o_x])), (h_o_all, .inl (ca 0, 350, .inl o_all_r)), (h_o_shift, .inl (ca 3, 768, .inl o_shift_r))] sz) := by
  refine Met.ofW (cc := cX8_isStep) (maxL := 3) (ret := (some .boolean)) (by decide) rfl ?_
  intro p e s m args below meth c s₁ B hml hv
  obtain ⟨rfl, hsz, hP, hK, hD0, hE⟩ := hv
  have hx := B.exec
  have hb := B.bytes
  have hr := B.returns
  have hts := atoms_spec (ws := Cond.code yX8_isStep cX8_isStep 3 (some .boolean) :: ds_gw) B.pre
  have hg : ∀ {w : Cond}, w ∈ ds_gw → w.before _ s = true := fun h => hts _ (List.mem_cons_of_mem _ h)
  have hown : s.vm.findClass RX8 = some m.cls := findClass_of_methodNamed B.named
  have hlocks := B.notSynchronized
  subst hsz
  have hD := hD0.self (sz := s.heap.size)
  generalize hAe : va_A [(h_o, .inr (7, [.ref h_o_plans, .ref h_o_makers, .ref h_o_halves, .int o_raised, .ref h_o_all, .ref h_o_text, .ref h_o_saved, .ref h_o_undone, .int o_undos, .int o_reached, .int o_length, .int o_begin, .int o_letters, .int o_sort, .long o_word, .int o_wrongAt, .int o_badAt, .int o_bad, .ref h_o_told, .ref h_o_shift, .int o_firstX, .int o_firstY, .int o_secondX, .int o_secondY, .ref h_o_rootOf, .ref h_o_becomes, .ref h_o_comes, .ref h_o_next, .int o_x])), (h_o_all, .inl (ca 0, 350, .inl o_all_r)), (h_o_shift, .inl (ca 3, 768, .inl o_shift_r))] s.heap.size = A at hD hE ⊢
  have hA : ∀ q : Nat, s.heap.size ≤ q → A q := fun q h => by rw [← hAe]; exact Or.inr h
  have hS : va_S A s.heap s.heap [] := va_S.rf
  have hl := lv_entry ([.ref h_o, .int p1, .int p2]) (n := 3) (Nat.le_of_ble_eq_true rfl)
  rw [lg_entry_eq]
  generalize (lg_sl ([.ref h_o, .int p1, .int p2]) ++ List.replicate (3 - (lg_sl ([.ref h_o, .int p1, .int p2])).length) Slot.unset).toArray = ls at hl ⊢
  have hl : lv_has ls 3 [(0, .ref h_o), (1, .int p1), (2, .int p2)] := hl
  obtain ⟨G0, eG0⟩ : ∃ G : Int32 → Prop, G = (fun r => r = res) := ⟨_, rfl⟩
  obtain ⟨rr, hrr⟩ : ∃ z, z = res := ⟨_, rfl⟩
  rw [← hrr] at hf
  have hG : G0 rr := by subst eG0; exact hrr
  unfold fX8_isStep at hf
  refine lv_aload_n hx hb dX8_isStep_0 rfl (lv_at hl 0 rfl) ?_
  refine va_get (D := (dC, dI)) (ci := 7) (v := .ref h_o_shift) (C := RX8) (T := TX8) (N := 29) hx hb hts (fun w h => List.mem_cons_of_mem _ (kc_X8 w h)) hown hK hP 0 rfl rfl 19 (by decide) (hg kw_650) (fun _ h9 => h9) rfl dX8_isStep_1 ?_
  refine lv_aload_n hx hb dX8_isStep_4 rfl (lv_at hl 0 rfl) ?_
  refine lv_iload_n hx hb dX8_isStep_5 rfl (lv_at hl 1 rfl) ?_
  refine lv_iload_n hx hb dX8_isStep_6 rfl (lv_at hl 2 rfl) ?_
  obtain ⟨q7, hq7, hf⟩ := ds_ob hf
  refine ds_calli (wr := [(h_o_shift, .inl (ca 3, 768, .inl o_shift_r))]) (va_runV (As := [.int p1, .int p2]) (rest := [.ref h_o_shift]) ⟨hx, hb, hml, hown, hts⟩ (c_X8_at l dC dI ca sa h_o h_o_plans h_o_makers h_o_halves h_o_all h_o_text h_o_saved h_o_undone h_o_told h_o_shift h_o_rootOf h_o_becomes h_o_comes h_o_next s.heap.size o_raised o_undos o_reached o_length o_begin o_letters o_sort o_word o_wrongAt o_badAt o_bad o_firstX o_firstY o_secondX o_secondY o_x o_all_r p1 p2 q7 hq7) (cwV 2 hts (ds_gV kw_599 kw_600 kw_601 kw_597 kw_602) rfl rfl rfl (by decide +kernel) ⟨Nat.le_of_ble_eq_true rfl, Nat.le_of_ble_eq_true rfl⟩) ⟨ds_blind, va_recv hK hP (ci := 7) (q0 := 0) rfl rfl, ds_at hP hD hK hE hS hA [0, 1] rfl rfl _⟩ rfl rfl hl.1 rfl (lv_room (Nat.le_of_ble_eq_true rfl)) dX8_isStep_7 ⟨Nat.zero_le _, Nat.zero_le _⟩) hP hD hS hA [0, 1] [2] rfl rfl rfl (by decide) (fun H locs hP hD hS => ?_)
  have hP : va_P (dC, dI) vwCl [(h_o_shift, .inl (ca 3, 768, .inl o_shift_r)), (h_o, .inr (7, [.ref h_o_plans, .ref h_o_makers, .ref h_o_halves, .int o_raised, .ref h_o_all, .ref h_o_text, .ref h_o_saved, .ref h_o_undone, .int o_undos, .int o_reached, .int o_length, .int o_begin, .int o_letters, .int o_sort, .long o_word, .int o_wrongAt, .int o_badAt, .int o_bad, .ref h_o_told, .ref h_o_shift, .int o_firstX, .int o_firstY, .int o_secondX, .int o_secondY, .ref h_o_rootOf, .ref h_o_becomes, .ref h_o_comes, .ref h_o_next, .int o_x])), (h_o_all, .inl (ca 0, 350, .inl o_all_r))] H := hP
  have hD : va_D A [(h_o_shift, .inl (ca 3, 768, .inl o_shift_r)), (h_o, .inr (7, [.ref h_o_plans, .ref h_o_makers, .ref h_o_halves, .int o_raised, .ref h_o_all, .ref h_o_text, .ref h_o_saved, .ref h_o_undone, .int o_undos, .int o_reached, .int o_length, .int o_begin, .int o_letters, .int o_sort, .long o_word, .int o_wrongAt, .int o_badAt, .int o_bad, .ref h_o_told, .ref h_o_shift, .int o_firstX, .int o_firstY, .int o_secondX, .int o_secondY, .ref h_o_rootOf, .ref h_o_becomes, .ref h_o_comes, .ref h_o_next, .int o_x])), (h_o_all, .inl (ca 0, 350, .inl o_all_r))] := hD
  obtain ⟨i_10, hf⟩ := ds_ci hf
  refine va_zald hx hb hK hP 0 3 rfl rfl i_10 dX8_isStep_10 ?_
  obtain ⟨z_11, hf⟩ := ds_c hf
  have hf := Option.some.inj hf
  subst hf
  rw [eG0] at hG
  have hG : _ = res := hG
  subst hG
  exact W.zret (v := (o_shift_r q7.toNatClampNeg)) (ty := .boolean) hx hb hr (ds_zn z_11) (fun t ht hW => ⟨⟨(o_shift_r q7.toNatClampNeg), (), rfl, rfl, by rw [ht]; exact (hP.sub [1, 2, 0] rfl), (hD.sub [1, 2, 0] rfl rfl)⟩, hS.F ht⟩) hS.2.2 dX8_isStep_11
theorem dX8_isAlike_0 : decode cX8_isAlike 0 = .ok (.iconst 0, 1) := by decide +kernel
theorem dX8_isAlike_1 : decode cX8_isAlike 1 = .ok (.istore 4, 2) := by decide +kernel
theorem dX8_isAlike_3 : decode cX8_isAlike 3 = .ok (.iload 4, 2) := by decide +kernel
theorem dX8_isAlike_5 : decode cX8_isAlike 5 = .ok (.aload_n 0, 1) := by decide +kernel
theorem dX8_isAlike_6 : decode cX8_isAlike 6 = .ok (.getfield 19, 3) := by decide +kernel
theorem dX8_isAlike_9 : decode cX8_isAlike 9 = .ok (.iconst 1, 1) := by decide +kernel
theorem dX8_isAlike_10 : decode cX8_isAlike 10 = .ok (.iaload, 1) := by decide +kernel
theorem dX8_isAlike_11 : decode cX8_isAlike 11 = .ok (.if_icmp .ge 68, 3) := by decide +kernel
theorem dX8_isAlike_14 : decode cX8_isAlike 14 = .ok (.iconst 0, 1) := by decide +kernel
theorem dX8_isAlike_15 : decode cX8_isAlike 15 = .ok (.istore 5, 2) := by decide +kernel
theorem dX8_isAlike_17 : decode cX8_isAlike 17 = .ok (.iload 5, 2) := by decide +kernel
theorem dX8_isAlike_19 : decode cX8_isAlike 19 = .ok (.aload_n 0, 1) := by decide +kernel
theorem dX8_isAlike_20 : decode cX8_isAlike 20 = .ok (.getfield 19, 3) := by decide +kernel
theorem dX8_isAlike_23 : decode cX8_isAlike 23 = .ok (.iconst 0, 1) := by decide +kernel
theorem dX8_isAlike_24 : decode cX8_isAlike 24 = .ok (.iaload, 1) := by decide +kernel
theorem dX8_isAlike_25 : decode cX8_isAlike 25 = .ok (.if_icmp .ge 48, 3) := by decide +kernel
theorem dX8_isAlike_28 : decode cX8_isAlike 28 = .ok (.aload_n 0, 1) := by decide +kernel
theorem dX8_isAlike_29 : decode cX8_isAlike 29 = .ok (.iload 5, 2) := by decide +kernel
theorem dX8_isAlike_31 : decode cX8_isAlike 31 = .ok (.iload 4, 2) := by decide +kernel
theorem dX8_isAlike_33 : decode cX8_isAlike 33 = .ok (.invokevirtual 127, 3) := by decide +kernel
theorem dX8_isAlike_36 : decode cX8_isAlike 36 = .ok (.aload_n 0, 1) := by decide +kernel
theorem dX8_isAlike_37 : decode cX8_isAlike 37 = .ok (.aload_n 0, 1) := by decide +kernel
theorem dX8_isAlike_38 : decode cX8_isAlike 38 = .ok (.iload_n 1, 1) := by decide +kernel
theorem dX8_isAlike_39 : decode cX8_isAlike 39 = .ok (.iload 5, 2) := by decide +kernel
theorem dX8_isAlike_41 : decode cX8_isAlike 41 = .ok (.iload 4, 2) := by decide +kernel
theorem dX8_isAlike_43 : decode cX8_isAlike 43 = .ok (.invokevirtual 130, 3) := by decide +kernel
theorem dX8_isAlike_46 : decode cX8_isAlike 46 = .ok (.iload_n 2, 1) := by decide +kernel
theorem dX8_isAlike_47 : decode cX8_isAlike 47 = .ok (.iadd, 1) := by decide +kernel
theorem dX8_isAlike_48 : decode cX8_isAlike 48 = .ok (.aload_n 0, 1) := by decide +kernel
theorem dX8_isAlike_49 : decode cX8_isAlike 49 = .ok (.iload_n 1, 1) := by decide +kernel
theorem dX8_isAlike_50 : decode cX8_isAlike 50 = .ok (.iload 5, 2) := by decide +kernel
theorem dX8_isAlike_52 : decode cX8_isAlike 52 = .ok (.iload 4, 2) := by decide +kernel
theorem dX8_isAlike_54 : decode cX8_isAlike 54 = .ok (.invokevirtual 134, 3) := by decide +kernel
theorem dX8_isAlike_57 : decode cX8_isAlike 57 = .ok (.iload_n 3, 1) := by decide +kernel
theorem dX8_isAlike_58 : decode cX8_isAlike 58 = .ok (.iadd, 1) := by decide +kernel
theorem dX8_isAlike_59 : decode cX8_isAlike 59 = .ok (.invokevirtual 127, 3) := by decide +kernel
theorem dX8_isAlike_62 : decode cX8_isAlike 62 = .ok (.if_icmp .eq 5, 3) := by decide +kernel
theorem dX8_isAlike_65 : decode cX8_isAlike 65 = .ok (.iconst 0, 1) := by decide +kernel
theorem dX8_isAlike_66 : decode cX8_isAlike 66 = .ok (.ireturn, 1) := by decide +kernel
theorem dX8_isAlike_67 : decode cX8_isAlike 67 = .ok (.iinc 5 1, 3) := by decide +kernel
theorem dX8_isAlike_70 : decode cX8_isAlike 70 = .ok (.goto (-53), 3) := by decide +kernel
theorem dX8_isAlike_73 : decode cX8_isAlike 73 = .ok (.iinc 4 1, 3) := by decide +kernel
theorem dX8_isAlike_76 : decode cX8_isAlike 76 = .ok (.goto (-73), 3) := by decide +kernel
theorem dX8_isAlike_79 : decode cX8_isAlike 79 = .ok (.iconst 1, 1) := by decide +kernel
theorem dX8_isAlike_80 : decode cX8_isAlike 80 = .ok (.ireturn, 1) := by decide +kernel
def fX8_isAlike_73 (v4 : Int32) : Option ((Int32) ⊕ (Int32)) :=
  some (.inl (v4 + 1))
def fX8_isAlike_17_b (o_all_r : Nat → Int32) (o_plans_r : Nat → Int32) (p1 : Int32) (p2 : Int32) (p3 : Int32) (v4 : Int32) (v5 : Int32) : Option ((Int32) ⊕ ((Int32) ⊕ (Int32))) :=
  if (o_all_r (0 : Int32).toNatClampNeg) ≤ v5 then Option.bind (fX8_isAlike_73 v4) fun z => some (.inr z) else Option.bind (fX8_colour o_all_r v5 v4) fun q33 => Option.bind (fX8_turnX o_all_r o_plans_r p1 v5 v4) fun q43 => Option.bind (fX8_turnY o_all_r o_plans_r p1 v5 v4) fun q54 => Option.bind (fX8_colour o_all_r (q43 + p2) (q54 + p3)) fun q59 => if q33 = q59 then some (.inl (v5 + 1)) else some (.inr (.inr (0 : Int32)))
def fX8_isAlike_17 (o_all_r : Nat → Int32) (o_plans_r : Nat → Int32) (p1 : Int32) (p2 : Int32) (p3 : Int32) (v4 : Int32) (v5 : Int32) : Option ((Int32) ⊕ (Int32)) := ds_it (fun s => fX8_isAlike_17_b o_all_r o_plans_r p1 p2 p3 v4 s) 1000 v5
def fX8_isAlike_3_b (o_all_r : Nat → Int32) (o_plans_r : Nat → Int32) (p1 : Int32) (p2 : Int32) (p3 : Int32) (v4 : Int32) : Option ((Int32) ⊕ (Int32)) :=
  if (o_all_r (1 : Int32).toNatClampNeg) ≤ v4 then some (.inr (1 : Int32)) else fX8_isAlike_17 o_all_r o_plans_r p1 p2 p3 v4 (0 : Int32)
def fX8_isAlike_3 (o_all_r : Nat → Int32) (o_plans_r : Nat → Int32) (p1 : Int32) (p2 : Int32) (p3 : Int32) (v4 : Int32) : Option (Int32) := ds_it (fun s => fX8_isAlike_3_b o_all_r o_plans_r p1 p2 p3 s) 1000 v4
def fX8_isAlike (o_all_r : Nat → Int32) (o_plans_r : Nat → Int32) (p1 : Int32) (p2 : Int32) (p3 : Int32) : Option (Int32) :=
  fX8_isAlike_3 o_all_r o_plans_r p1 p2 p3 (0 : Int32)
set_option maxHeartbeats 4000000 in
set_option maxRecDepth 100000 in
theorem c_X8_isAlike (l : Launch) (dC : Nat → ClassId) (dI : Nat → Nat → Nat) (ca : Nat → ClassId) (sa : Nat → Nat) (h_o : Nat) (h_o_plans : Nat) (h_o_makers : Nat) (h_o_halves : Nat) (h_o_all : Nat) (h_o_text : Nat) (h_o_saved : Nat) (h_o_undone : Nat) (h_o_told : Nat) (h_o_shift : Nat) (h_o_rootOf : Nat) (h_o_becomes : Nat) (h_o_comes : Nat) (h_o_next : Nat) (sz : Nat) (o_raised : Int32) (o_undos : Int32) (o_reached : Int32) (o_length : Int32) (o_begin : Int32) (o_letters : Int32) (o_sort : Int32) (o_word : Int64) (o_wrongAt : Int32) (o_badAt : Int32) (o_bad : Int32) (o_firstX : Int32) (o_firstY : Int32) (o_secondX : Int32) (o_secondY : Int32) (o_x : Int32) (o_all_r : Nat → Int32) (o_plans_r : Nat → Int32) (p1 : Int32) (p2 : Int32) (p3 : Int32) (res : Int32) (hf : fX8_isAlike o_all_r o_plans_r p1 p2 p3 = some res) : Met l yX8_isAlike (Cond.code yX8_isAlike cX8_isAlike 6 (some .boolean) :: ds_gw) { frames := 3, cells := 0, slots := 0, locals := 66 } (va_Pc [.ref h_o, .int p1, .int p2, .int p3] (ds_Pre dC dI ca sa [(h_o, .inr (7, [.ref h_o_plans, .ref h_o_makers, .ref h_o_halves, .int o_raised, .ref h_o_all, .ref h_o_text, .ref h_o_saved, .ref h_o_undone, .int o_undos, .int o_reached, .int o_length, .int o_begin, .int o_letters, .int o_sort, .long o_word, .int o_wrongAt, .int o_badAt, .int o_bad, .ref h_o_told, .ref h_o_shift, .int o_firstX, .int o_firstY, .int o_secondX, .int o_secondY, .ref h_o_rootOf, .ref h_o_becomes, .ref h_o_comes, .ref h_o_next, .int o_x])), (h_o_all, .inl (ca 0, 350, .inl o_all_r)), (h_o_plans, .inl (ca 0, 80, .inl o_plans_r))] sz)) (va_Qi (fun r (_ : Unit) => r = res) (ds_B dC dI (va_A [(h_o, .inr (7, [.ref h_o_plans, .ref h_o_makers, .ref h_o_halves, .int o_raised, .ref h_o_all, .ref h_o_text, .ref h_o_saved, .ref h_o_undone, .int o_undos, .int o_reached, .int o_length, .int o_begin, .int o_letters, .int o_sort, .long o_word, .int o_wrongAt, .int o_badAt, .int o_bad, .ref h_o_told, .ref h_o_shift, .int o_firstX, .int o_firstY, .int o_secondX, .int o_secondY, .ref h_o_rootOf, .ref h_o_becomes, .ref h_o_comes, .ref h_o_next, .int o_x])), (h_o_all, .inl (ca 0, 350, .inl o_all_r)), (h_o_plans, .inl (ca 0, 80, .inl o_plans_r))] sz) [(h_o, .inr (7, [.ref h_o_plans, .ref h_o_makers, .ref h_o_halves, .int o_raised, .ref h_o_all, .ref h_o_text, .ref h_o_saved, .ref h_o_undone, .int o_undos, .int o_reached, .int o_length, .int o_begin, .int o_letters, .int o_sort, .long o_word, .int o_wrongAt, .int o_badAt, .int o_bad, .ref h_o_told, .ref h_o_shift, .int o_firstX, .int o_firstY, .int o_secondX, .int o_secondY, .ref h_o_rootOf, .ref h_o_becomes, .ref h_o_comes, .ref h_o_next, .int o_x])), (h_o_all, .inl (ca 0, 350, .inl o_all_r)), (h_o_plans, .inl (ca 0, 80, .inl o_plans_r))]) (va_A [(h_o, .inr (7, [.ref h_o_plans, .ref h_o_makers, .ref h_o_halves, .int o_raised, .ref h_o_all, .ref h_o_text, .ref h_o_saved, .ref h_o_undone, .int o_undos, .int o_reached, .int o_length, .int o_begin, .int o_letters, .int o_sort, .long o_word, .int o_wrongAt, .int o_badAt, .int o_bad, .ref h_o_told, .ref h_o_shift, .int o_firstX, .int o_firstY, .int o_secondX, .int o_secondY, .ref h_o_rootOf, .ref h_o_becomes, .ref h_o_comes, .ref h_o_next, .int o_x])), (h_o_all, .inl (ca 0, 350, .inl o_all_r)), (h_o_plans, .inl (ca 0, 80, .inl o_plans_r))] sz)) 0 0 (va_A [(h_o, .inr (7, [.ref h_o_plans, .ref h_o_makers, .ref h_o_halves, .int o_raised, .ref h_o_all, .ref h_o_text, .ref h_o_saved, .ref h_o_undone, .int o_undos, .int o_reached, .int o_length, .int o_begin, .int o_letters, .int o_sort, .long o_word, .int o_wrongAt, .int o_badAt, .int o_bad, .ref h_o_told, .ref h_o_shift, .int o_firstX, .int o_firstY, .int o_secondX, .int o_secondY, .ref h_o_rootOf, .ref h_o_becomes, .ref h_o_comes, .ref h_o_next, .int o_x])), (h_o_all, .inl (ca 0, 350, .inl o_all_r)), (h_o_plans, .inl (ca 0, 80, .inl o_plans_r))] sz) := by
  refine Met.ofW (cc := cX8_isAlike) (maxL := 6) (ret := (some .boolean)) (by decide) rfl ?_
  intro p e s m args below meth c s₁ B hml hv
  obtain ⟨rfl, hsz, hP, hK, hD0, hE⟩ := hv
  have hx := B.exec
  have hb := B.bytes
  have hr := B.returns
  have hts := atoms_spec (ws := Cond.code yX8_isAlike cX8_isAlike 6 (some .boolean) :: ds_gw) B.pre
  have hg : ∀ {w : Cond}, w ∈ ds_gw → w.before _ s = true := fun h => hts _ (List.mem_cons_of_mem _ h)
  have hown : s.vm.findClass RX8 = some m.cls := findClass_of_methodNamed B.named
  have hlocks := B.notSynchronized
  subst hsz
  have hD := hD0.self (sz := s.heap.size)
  generalize hAe : va_A [(h_o, .inr (7, [.ref h_o_plans, .ref h_o_makers, .ref h_o_halves, .int o_raised, .ref h_o_all, .ref h_o_text, .ref h_o_saved, .ref h_o_undone, .int o_undos, .int o_reached, .int o_length, .int o_begin, .int o_letters, .int o_sort, .long o_word, .int o_wrongAt, .int o_badAt, .int o_bad, .ref h_o_told, .ref h_o_shift, .int o_firstX, .int o_firstY, .int o_secondX, .int o_secondY, .ref h_o_rootOf, .ref h_o_becomes, .ref h_o_comes, .ref h_o_next, .int o_x])), (h_o_all, .inl (ca 0, 350, .inl o_all_r)), (h_o_plans, .inl (ca 0, 80, .inl o_plans_r))] s.heap.size = A at hD hE ⊢
  have hA : ∀ q : Nat, s.heap.size ≤ q → A q := fun q h => by rw [← hAe]; exact Or.inr h
  have hS : va_S A s.heap s.heap [] := va_S.rf
  have hl := lv_entry ([.ref h_o, .int p1, .int p2, .int p3]) (n := 6) (Nat.le_of_ble_eq_true rfl)
  rw [lg_entry_eq]
  generalize (lg_sl ([.ref h_o, .int p1, .int p2, .int p3]) ++ List.replicate (6 - (lg_sl ([.ref h_o, .int p1, .int p2, .int p3])).length) Slot.unset).toArray = ls at hl ⊢
  have hl : lv_has ls 6 [(0, .ref h_o), (1, .int p1), (2, .int p2), (3, .int p3)] := hl
  obtain ⟨G0, eG0⟩ : ∃ G : Int32 → Prop, G = (fun r => r = res) := ⟨_, rfl⟩
  obtain ⟨rr, hrr⟩ : ∃ z, z = res := ⟨_, rfl⟩
  rw [← hrr] at hf
  have hG : G0 rr := by subst eG0; exact hrr
  refine ds_cap (fun WW h1 h2 => ?_)
  have J_3 : ∀ (n : Nat) (v4 : Int32) (rr : Int32) (hf : ds_it (fun s => fX8_isAlike_3_b o_all_r o_plans_r p1 p2 p3 s) n v4 = some rr) (hG : G0 rr) (H : Heap) (locs : List Loc) (hP : va_P (dC, dI) vwCl [(h_o, .inr (7, [.ref h_o_plans, .ref h_o_makers, .ref h_o_halves, .int o_raised, .ref h_o_all, .ref h_o_text, .ref h_o_saved, .ref h_o_undone, .int o_undos, .int o_reached, .int o_length, .int o_begin, .int o_letters, .int o_sort, .long o_word, .int o_wrongAt, .int o_badAt, .int o_bad, .ref h_o_told, .ref h_o_shift, .int o_firstX, .int o_firstY, .int o_secondX, .int o_secondY, .ref h_o_rootOf, .ref h_o_becomes, .ref h_o_comes, .ref h_o_next, .int o_x])), (h_o_all, .inl (ca 0, 350, .inl o_all_r)), (h_o_plans, .inl (ca 0, 80, .inl o_plans_r))] H) (hD : va_D A [(h_o, .inr (7, [.ref h_o_plans, .ref h_o_makers, .ref h_o_halves, .int o_raised, .ref h_o_all, .ref h_o_text, .ref h_o_saved, .ref h_o_undone, .int o_undos, .int o_reached, .int o_length, .int o_begin, .int o_letters, .int o_sort, .long o_word, .int o_wrongAt, .int o_badAt, .int o_bad, .ref h_o_told, .ref h_o_shift, .int o_firstX, .int o_firstY, .int o_secondX, .int o_secondY, .ref h_o_rootOf, .ref h_o_becomes, .ref h_o_comes, .ref h_o_next, .int o_x])), (h_o_all, .inl (ca 0, 350, .inl o_all_r)), (h_o_plans, .inl (ca 0, 80, .inl o_plans_r))]) (hS : va_S A s.heap H locs) (ls : Array Slot) (hl : lv_has ls 6 [(0, .ref h_o), (1, .int p1), (2, .int p2), (3, .int p3), (4, .int v4)]), WW H locs (F0 m 3 ls []) := by
    intro  n
    induction n with
    | zero => intro v4 rr hf; exact (ds_it_zero hf).elim
    | succ n ih3 =>
      intro v4 rr hf hG H locs hP hD hS ls hl
      refine h2 ?_
      obtain ⟨rr, hf, hG⟩ := ds_it_succ hf hG
      replace hf : fX8_isAlike_3_b o_all_r o_plans_r p1 p2 p3 v4 = some rr := hf
      obtain ⟨G1, eG1⟩ : ∃ G : ((Int32) ⊕ (Int32)) → Prop, G = ds_G (fun s' => ∃ r', ds_it (fun s => fX8_isAlike_3_b o_all_r o_plans_r p1 p2 p3 s) n s' = some r' ∧ G0 r') G0 := ⟨_, rfl⟩
      rw [← eG1] at hG
      have J_73 : ∀ (v4 : Int32) (rr : (Int32) ⊕ (Int32)) (hf : fX8_isAlike_73 v4 = some rr) (hG : G1 rr) (H : Heap) (locs : List Loc) (hP : va_P (dC, dI) vwCl [(h_o, .inr (7, [.ref h_o_plans, .ref h_o_makers, .ref h_o_halves, .int o_raised, .ref h_o_all, .ref h_o_text, .ref h_o_saved, .ref h_o_undone, .int o_undos, .int o_reached, .int o_length, .int o_begin, .int o_letters, .int o_sort, .long o_word, .int o_wrongAt, .int o_badAt, .int o_bad, .ref h_o_told, .ref h_o_shift, .int o_firstX, .int o_firstY, .int o_secondX, .int o_secondY, .ref h_o_rootOf, .ref h_o_becomes, .ref h_o_comes, .ref h_o_next, .int o_x])), (h_o_all, .inl (ca 0, 350, .inl o_all_r)), (h_o_plans, .inl (ca 0, 80, .inl o_plans_r))] H) (hD : va_D A [(h_o, .inr (7, [.ref h_o_plans, .ref h_o_makers, .ref h_o_halves, .int o_raised, .ref h_o_all, .ref h_o_text, .ref h_o_saved, .ref h_o_undone, .int o_undos, .int o_reached, .int o_length, .int o_begin, .int o_letters, .int o_sort, .long o_word, .int o_wrongAt, .int o_badAt, .int o_bad, .ref h_o_told, .ref h_o_shift, .int o_firstX, .int o_firstY, .int o_secondX, .int o_secondY, .ref h_o_rootOf, .ref h_o_becomes, .ref h_o_comes, .ref h_o_next, .int o_x])), (h_o_all, .inl (ca 0, 350, .inl o_all_r)), (h_o_plans, .inl (ca 0, 80, .inl o_plans_r))]) (hS : va_S A s.heap H locs) (ls : Array Slot) (hl : lv_has ls 6 [(0, .ref h_o), (1, .int p1), (2, .int p2), (3, .int p3), (4, .int v4)]), WW H locs (F0 m 73 ls []) := by
        intro v4 rr hf hG H locs hP hD hS ls hl
        refine h2 ?_
        unfold fX8_isAlike_73 at hf
        refine lv_iinc (v := (v4 + 1)) (lv' := [(4, .int (v4 + 1)), (0, .ref h_o), (1, .int p1), (2, .int p2), (3, .int p3)]) hx hb dX8_isAlike_73 hl (k := 4) rfl rfl (by decide) rfl (fun ls hl => ?_)
        refine lv_goto (tgt := 3) hx hb dX8_isAlike_76 (by decide) ?_
        have hf := Option.some.inj hf
        subst hf
        rw [eG1] at hG
        obtain ⟨rr, hf, hG⟩ := hG
        exact h1 (ih3 (v4 + 1) rr hf hG _ _ hP hD hS _ (lv_sub hl [1, 2, 3, 4, 0] rfl))
      have J_17 : ∀ (v4 : Int32) (n : Nat) (v5 : Int32) (rr : (Int32) ⊕ (Int32)) (hf : ds_it (fun s => fX8_isAlike_17_b o_all_r o_plans_r p1 p2 p3 v4 s) n v5 = some rr) (hG : G1 rr) (H : Heap) (locs : List Loc) (hP : va_P (dC, dI) vwCl [(h_o, .inr (7, [.ref h_o_plans, .ref h_o_makers, .ref h_o_halves, .int o_raised, .ref h_o_all, .ref h_o_text, .ref h_o_saved, .ref h_o_undone, .int o_undos, .int o_reached, .int o_length, .int o_begin, .int o_letters, .int o_sort, .long o_word, .int o_wrongAt, .int o_badAt, .int o_bad, .ref h_o_told, .ref h_o_shift, .int o_firstX, .int o_firstY, .int o_secondX, .int o_secondY, .ref h_o_rootOf, .ref h_o_becomes, .ref h_o_comes, .ref h_o_next, .int o_x])), (h_o_all, .inl (ca 0, 350, .inl o_all_r)), (h_o_plans, .inl (ca 0, 80, .inl o_plans_r))] H) (hD : va_D A [(h_o, .inr (7, [.ref h_o_plans, .ref h_o_makers, .ref h_o_halves, .int o_raised, .ref h_o_all, .ref h_o_text, .ref h_o_saved, .ref h_o_undone, .int o_undos, .int o_reached, .int o_length, .int o_begin, .int o_letters, .int o_sort, .long o_word, .int o_wrongAt, .int o_badAt, .int o_bad, .ref h_o_told, .ref h_o_shift, .int o_firstX, .int o_firstY, .int o_secondX, .int o_secondY, .ref h_o_rootOf, .ref h_o_becomes, .ref h_o_comes, .ref h_o_next, .int o_x])), (h_o_all, .inl (ca 0, 350, .inl o_all_r)), (h_o_plans, .inl (ca 0, 80, .inl o_plans_r))]) (hS : va_S A s.heap H locs) (ls : Array Slot) (hl : lv_has ls 6 [(0, .ref h_o), (1, .int p1), (2, .int p2), (3, .int p3), (4, .int v4), (5, .int v5)]), WW H locs (F0 m 17 ls []) := by
        intro v4 n
        induction n with
        | zero => intro v5 rr hf; exact (ds_it_zero hf).elim
        | succ n ih17 =>
          intro v5 rr hf hG H locs hP hD hS ls hl
          refine h2 ?_
          obtain ⟨rr, hf, hG⟩ := ds_it_succ hf hG
          replace hf : fX8_isAlike_17_b o_all_r o_plans_r p1 p2 p3 v4 v5 = some rr := hf
          obtain ⟨G2, eG2⟩ : ∃ G : ((Int32) ⊕ ((Int32) ⊕ (Int32))) → Prop, G = ds_G (fun s' => ∃ r', ds_it (fun s => fX8_isAlike_17_b o_all_r o_plans_r p1 p2 p3 v4 s) n s' = some r' ∧ G1 r') G1 := ⟨_, rfl⟩
          rw [← eG2] at hG
          unfold fX8_isAlike_17_b at hf
          refine lv_iload hx hb dX8_isAlike_17 (lv_at hl 5 rfl) ?_
          refine lv_aload_n hx hb dX8_isAlike_19 rfl (lv_at hl 0 rfl) ?_
          refine va_get (D := (dC, dI)) (ci := 7) (v := .ref h_o_all) (C := RX8) (T := TX8) (N := 29) hx hb hts (fun w h => List.mem_cons_of_mem _ (kc_X8 w h)) hown hK hP 0 rfl rfl 4 (by decide) (hg kw_594) (fun _ h9 => h9) rfl dX8_isAlike_20 ?_
          refine lv_iconst (v := 0) hx hb dX8_isAlike_23 (by decide) ?_
          refine va_iald hx hb hK hP 1 0 rfl rfl (ds_in_ok (i := 0) (n := 350) (by decide)) dX8_isAlike_24 ?_
          refine lv_icmp_ge (tgt := 73) hx hb dX8_isAlike_25 (by decide) (fun c_25 => ?_) (fun c_25 => ?_)
          · replace hf := ds_t c_25 hf
            obtain ⟨rr, hr_0, hf⟩ := ds_ob hf
            have hf := Option.some.inj hf
            subst hf
            rw [eG2] at hG
            replace hG : G1 rr := hG
            have hf := hr_0
            exact h1 (J_73 v4 _ hf hG _ _ hP hD hS _ (lv_sub hl [0, 1, 2, 3, 4] rfl))
          · replace hf := ds_f c_25 hf
            refine lv_aload_n hx hb dX8_isAlike_28 rfl (lv_at hl 0 rfl) ?_
            refine lv_iload hx hb dX8_isAlike_29 (lv_at hl 5 rfl) ?_
            refine lv_iload hx hb dX8_isAlike_31 (lv_at hl 4 rfl) ?_
            obtain ⟨q33, hq33, hf⟩ := ds_ob hf
            refine ds_calli (wr := [(h_o_plans, .inl (ca 0, 80, .inl o_plans_r))]) (va_runV (As := [.int v5, .int v4]) (rest := []) ⟨hx, hb, hml, hown, hts⟩ (c_X8_colour l dC dI ca sa h_o h_o_plans h_o_makers h_o_halves h_o_all h_o_text h_o_saved h_o_undone h_o_told h_o_shift h_o_rootOf h_o_becomes h_o_comes h_o_next H.size o_raised o_undos o_reached o_length o_begin o_letters o_sort o_word o_wrongAt o_badAt o_bad o_firstX o_firstY o_secondX o_secondY o_x o_all_r v5 v4 q33 hq33) (cwV 2 hts (ds_gV kw_651 kw_652 kw_653 kw_597 kw_654) rfl rfl rfl (by decide +kernel) ⟨Nat.le_of_ble_eq_true rfl, Nat.le_of_ble_eq_true rfl⟩) ⟨ds_blind, va_recv hK hP (ci := 7) (q0 := 0) rfl rfl, ds_at hP hD hK hE hS hA [0, 1] rfl rfl _⟩ rfl rfl hl.1 rfl (lv_room (Nat.le_of_ble_eq_true rfl)) dX8_isAlike_33 ⟨Nat.zero_le _, Nat.zero_le _⟩) hP hD hS hA [0, 1] [2] rfl rfl rfl (by decide) (fun H locs hP hD hS => ?_)
            have hP : va_P (dC, dI) vwCl [(h_o_plans, .inl (ca 0, 80, .inl o_plans_r)), (h_o, .inr (7, [.ref h_o_plans, .ref h_o_makers, .ref h_o_halves, .int o_raised, .ref h_o_all, .ref h_o_text, .ref h_o_saved, .ref h_o_undone, .int o_undos, .int o_reached, .int o_length, .int o_begin, .int o_letters, .int o_sort, .long o_word, .int o_wrongAt, .int o_badAt, .int o_bad, .ref h_o_told, .ref h_o_shift, .int o_firstX, .int o_firstY, .int o_secondX, .int o_secondY, .ref h_o_rootOf, .ref h_o_becomes, .ref h_o_comes, .ref h_o_next, .int o_x])), (h_o_all, .inl (ca 0, 350, .inl o_all_r))] H := hP
            have hD : va_D A [(h_o_plans, .inl (ca 0, 80, .inl o_plans_r)), (h_o, .inr (7, [.ref h_o_plans, .ref h_o_makers, .ref h_o_halves, .int o_raised, .ref h_o_all, .ref h_o_text, .ref h_o_saved, .ref h_o_undone, .int o_undos, .int o_reached, .int o_length, .int o_begin, .int o_letters, .int o_sort, .long o_word, .int o_wrongAt, .int o_badAt, .int o_bad, .ref h_o_told, .ref h_o_shift, .int o_firstX, .int o_firstY, .int o_secondX, .int o_secondY, .ref h_o_rootOf, .ref h_o_becomes, .ref h_o_comes, .ref h_o_next, .int o_x])), (h_o_all, .inl (ca 0, 350, .inl o_all_r))] := hD
            refine lv_aload_n hx hb dX8_isAlike_36 rfl (lv_at hl 0 rfl) ?_
            refine lv_aload_n hx hb dX8_isAlike_37 rfl (lv_at hl 0 rfl) ?_
            refine lv_iload_n hx hb dX8_isAlike_38 rfl (lv_at hl 1 rfl) ?_
            refine lv_iload hx hb dX8_isAlike_39 (lv_at hl 5 rfl) ?_
            refine lv_iload hx hb dX8_isAlike_41 (lv_at hl 4 rfl) ?_
            obtain ⟨q43, hq43, hf⟩ := ds_ob hf
            refine ds_calli (wr := []) (va_runV (As := [.int p1, .int v5, .int v4]) (rest := [.ref h_o, .int q33]) ⟨hx, hb, hml, hown, hts⟩ (c_X8_turnX l dC dI ca sa h_o h_o_plans h_o_makers h_o_halves h_o_all h_o_text h_o_saved h_o_undone h_o_told h_o_shift h_o_rootOf h_o_becomes h_o_comes h_o_next H.size o_raised o_undos o_reached o_length o_begin o_letters o_sort o_word o_wrongAt o_badAt o_bad o_firstX o_firstY o_secondX o_secondY o_x o_all_r o_plans_r p1 v5 v4 q43 hq43) (cwV 3 hts (ds_gV kw_655 kw_656 kw_657 kw_597 kw_658) rfl rfl rfl (by decide +kernel) ⟨Nat.le_of_ble_eq_true rfl, Nat.le_of_ble_eq_true rfl⟩) ⟨ds_blind, va_recv hK hP (ci := 7) (q0 := 1) rfl rfl, ds_at hP hD hK hE hS hA [1, 2, 0] rfl rfl _⟩ rfl rfl hl.1 rfl (lv_room (Nat.le_of_ble_eq_true rfl)) dX8_isAlike_43 ⟨Nat.zero_le _, Nat.zero_le _⟩) hP hD hS hA [1, 2, 0] [] rfl rfl rfl (by decide) (fun H locs hP hD hS => ?_)
            have hP : va_P (dC, dI) vwCl [(h_o, .inr (7, [.ref h_o_plans, .ref h_o_makers, .ref h_o_halves, .int o_raised, .ref h_o_all, .ref h_o_text, .ref h_o_saved, .ref h_o_undone, .int o_undos, .int o_reached, .int o_length, .int o_begin, .int o_letters, .int o_sort, .long o_word, .int o_wrongAt, .int o_badAt, .int o_bad, .ref h_o_told, .ref h_o_shift, .int o_firstX, .int o_firstY, .int o_secondX, .int o_secondY, .ref h_o_rootOf, .ref h_o_becomes, .ref h_o_comes, .ref h_o_next, .int o_x])), (h_o_all, .inl (ca 0, 350, .inl o_all_r)), (h_o_plans, .inl (ca 0, 80, .inl o_plans_r))] H := hP
            have hD : va_D A [(h_o, .inr (7, [.ref h_o_plans, .ref h_o_makers, .ref h_o_halves, .int o_raised, .ref h_o_all, .ref h_o_text, .ref h_o_saved, .ref h_o_undone, .int o_undos, .int o_reached, .int o_length, .int o_begin, .int o_letters, .int o_sort, .long o_word, .int o_wrongAt, .int o_badAt, .int o_bad, .ref h_o_told, .ref h_o_shift, .int o_firstX, .int o_firstY, .int o_secondX, .int o_secondY, .ref h_o_rootOf, .ref h_o_becomes, .ref h_o_comes, .ref h_o_next, .int o_x])), (h_o_all, .inl (ca 0, 350, .inl o_all_r)), (h_o_plans, .inl (ca 0, 80, .inl o_plans_r))] := hD
            refine lv_iload_n hx hb dX8_isAlike_46 rfl (lv_at hl 2 rfl) ?_
            refine lv_iadd hx hb dX8_isAlike_47 ?_
            refine lv_aload_n hx hb dX8_isAlike_48 rfl (lv_at hl 0 rfl) ?_
            refine lv_iload_n hx hb dX8_isAlike_49 rfl (lv_at hl 1 rfl) ?_
            refine lv_iload hx hb dX8_isAlike_50 (lv_at hl 5 rfl) ?_
            refine lv_iload hx hb dX8_isAlike_52 (lv_at hl 4 rfl) ?_
            obtain ⟨q54, hq54, hf⟩ := ds_ob hf
            refine ds_calli (wr := []) (va_runV (As := [.int p1, .int v5, .int v4]) (rest := [.int (q43 + p2), .ref h_o, .int q33]) ⟨hx, hb, hml, hown, hts⟩ (c_X8_turnY l dC dI ca sa h_o h_o_plans h_o_makers h_o_halves h_o_all h_o_text h_o_saved h_o_undone h_o_told h_o_shift h_o_rootOf h_o_becomes h_o_comes h_o_next H.size o_raised o_undos o_reached o_length o_begin o_letters o_sort o_word o_wrongAt o_badAt o_bad o_firstX o_firstY o_secondX o_secondY o_x o_all_r o_plans_r p1 v5 v4 q54 hq54) (cwV 3 hts (ds_gV kw_659 kw_660 kw_661 kw_597 kw_662) rfl rfl rfl (by decide +kernel) ⟨Nat.le_of_ble_eq_true rfl, Nat.le_of_ble_eq_true rfl⟩) ⟨ds_blind, va_recv hK hP (ci := 7) (q0 := 0) rfl rfl, ds_at hP hD hK hE hS hA [0, 1, 2] rfl rfl _⟩ rfl rfl hl.1 rfl (lv_room (Nat.le_of_ble_eq_true rfl)) dX8_isAlike_54 ⟨Nat.zero_le _, Nat.zero_le _⟩) hP hD hS hA [0, 1, 2] [] rfl rfl rfl (by decide) (fun H locs hP hD hS => ?_)
            have hP : va_P (dC, dI) vwCl [(h_o, .inr (7, [.ref h_o_plans, .ref h_o_makers, .ref h_o_halves, .int o_raised, .ref h_o_all, .ref h_o_text, .ref h_o_saved, .ref h_o_undone, .int o_undos, .int o_reached, .int o_length, .int o_begin, .int o_letters, .int o_sort, .long o_word, .int o_wrongAt, .int o_badAt, .int o_bad, .ref h_o_told, .ref h_o_shift, .int o_firstX, .int o_firstY, .int o_secondX, .int o_secondY, .ref h_o_rootOf, .ref h_o_becomes, .ref h_o_comes, .ref h_o_next, .int o_x])), (h_o_all, .inl (ca 0, 350, .inl o_all_r)), (h_o_plans, .inl (ca 0, 80, .inl o_plans_r))] H := hP
            have hD : va_D A [(h_o, .inr (7, [.ref h_o_plans, .ref h_o_makers, .ref h_o_halves, .int o_raised, .ref h_o_all, .ref h_o_text, .ref h_o_saved, .ref h_o_undone, .int o_undos, .int o_reached, .int o_length, .int o_begin, .int o_letters, .int o_sort, .long o_word, .int o_wrongAt, .int o_badAt, .int o_bad, .ref h_o_told, .ref h_o_shift, .int o_firstX, .int o_firstY, .int o_secondX, .int o_secondY, .ref h_o_rootOf, .ref h_o_becomes, .ref h_o_comes, .ref h_o_next, .int o_x])), (h_o_all, .inl (ca 0, 350, .inl o_all_r)), (h_o_plans, .inl (ca 0, 80, .inl o_plans_r))] := hD
            refine lv_iload_n hx hb dX8_isAlike_57 rfl (lv_at hl 3 rfl) ?_
            refine lv_iadd hx hb dX8_isAlike_58 ?_
            obtain ⟨q59, hq59, hf⟩ := ds_ob hf
            refine ds_calli (wr := [(h_o_plans, .inl (ca 0, 80, .inl o_plans_r))]) (va_runV (As := [.int (q43 + p2), .int (q54 + p3)]) (rest := [.int q33]) ⟨hx, hb, hml, hown, hts⟩ (c_X8_colour l dC dI ca sa h_o h_o_plans h_o_makers h_o_halves h_o_all h_o_text h_o_saved h_o_undone h_o_told h_o_shift h_o_rootOf h_o_becomes h_o_comes h_o_next H.size o_raised o_undos o_reached o_length o_begin o_letters o_sort o_word o_wrongAt o_badAt o_bad o_firstX o_firstY o_secondX o_secondY o_x o_all_r (q43 + p2) (q54 + p3) q59 hq59) (cwV 2 hts (ds_gV kw_651 kw_652 kw_653 kw_597 kw_654) rfl rfl rfl (by decide +kernel) ⟨Nat.le_of_ble_eq_true rfl, Nat.le_of_ble_eq_true rfl⟩) ⟨ds_blind, va_recv hK hP (ci := 7) (q0 := 0) rfl rfl, ds_at hP hD hK hE hS hA [0, 1] rfl rfl _⟩ rfl rfl hl.1 rfl (lv_room (Nat.le_of_ble_eq_true rfl)) dX8_isAlike_59 ⟨Nat.zero_le _, Nat.zero_le _⟩) hP hD hS hA [0, 1] [2] rfl rfl rfl (by decide) (fun H locs hP hD hS => ?_)
            have hP : va_P (dC, dI) vwCl [(h_o_plans, .inl (ca 0, 80, .inl o_plans_r)), (h_o, .inr (7, [.ref h_o_plans, .ref h_o_makers, .ref h_o_halves, .int o_raised, .ref h_o_all, .ref h_o_text, .ref h_o_saved, .ref h_o_undone, .int o_undos, .int o_reached, .int o_length, .int o_begin, .int o_letters, .int o_sort, .long o_word, .int o_wrongAt, .int o_badAt, .int o_bad, .ref h_o_told, .ref h_o_shift, .int o_firstX, .int o_firstY, .int o_secondX, .int o_secondY, .ref h_o_rootOf, .ref h_o_becomes, .ref h_o_comes, .ref h_o_next, .int o_x])), (h_o_all, .inl (ca 0, 350, .inl o_all_r))] H := hP
            have hD : va_D A [(h_o_plans, .inl (ca 0, 80, .inl o_plans_r)), (h_o, .inr (7, [.ref h_o_plans, .ref h_o_makers, .ref h_o_halves, .int o_raised, .ref h_o_all, .ref h_o_text, .ref h_o_saved, .ref h_o_undone, .int o_undos, .int o_reached, .int o_length, .int o_begin, .int o_letters, .int o_sort, .long o_word, .int o_wrongAt, .int o_badAt, .int o_bad, .ref h_o_told, .ref h_o_shift, .int o_firstX, .int o_firstY, .int o_secondX, .int o_secondY, .ref h_o_rootOf, .ref h_o_becomes, .ref h_o_comes, .ref h_o_next, .int o_x])), (h_o_all, .inl (ca 0, 350, .inl o_all_r))] := hD
            refine lv_icmp_eq (tgt := 67) hx hb dX8_isAlike_62 (by decide) (fun c_62 => ?_) (fun c_62 => ?_)
            · replace hf := ds_t c_62 hf
              refine lv_iinc (v := (v5 + 1)) (lv' := [(5, .int (v5 + 1)), (0, .ref h_o), (1, .int p1), (2, .int p2), (3, .int p3), (4, .int v4)]) hx hb dX8_isAlike_67 hl (k := 5) rfl rfl (by decide) rfl (fun ls hl => ?_)
              refine lv_goto (tgt := 17) hx hb dX8_isAlike_70 (by decide) ?_
              have hf := Option.some.inj hf
              subst hf
              rw [eG2] at hG
              obtain ⟨rr, hf, hG⟩ := hG
              exact h1 (ih17 (v5 + 1) rr hf hG _ _ (hP.sub [1, 2, 0] rfl) (hD.sub [1, 2, 0] rfl rfl) hS _ (lv_sub hl [1, 2, 3, 4, 5, 0] rfl))
            · replace hf := ds_f c_62 hf
              refine lv_iconst (v := 0) hx hb dX8_isAlike_65 (by decide) ?_
              have hf := Option.some.inj hf
              subst hf
              rw [eG2] at hG
              replace hG : G1 _ := hG
              rw [eG1] at hG
              replace hG : G0 _ := hG
              rw [eG0] at hG
              have hG : _ = res := hG
              subst hG
              exact W.zret (v := (0 : Int32)) (ty := .boolean) hx hb hr rfl (fun t ht hW => ⟨⟨(0 : Int32), (), rfl, rfl, by rw [ht]; exact (hP.sub [1, 2, 0] rfl), (hD.sub [1, 2, 0] rfl rfl)⟩, hS.F ht⟩) hS.2.2 dX8_isAlike_66
      unfold fX8_isAlike_3_b at hf
      refine lv_iload hx hb dX8_isAlike_3 (lv_at hl 4 rfl) ?_
      refine lv_aload_n hx hb dX8_isAlike_5 rfl (lv_at hl 0 rfl) ?_
      refine va_get (D := (dC, dI)) (ci := 7) (v := .ref h_o_all) (C := RX8) (T := TX8) (N := 29) hx hb hts (fun w h => List.mem_cons_of_mem _ (kc_X8 w h)) hown hK hP 0 rfl rfl 4 (by decide) (hg kw_594) (fun _ h9 => h9) rfl dX8_isAlike_6 ?_
      refine lv_iconst (v := 1) hx hb dX8_isAlike_9 (by decide) ?_
      refine va_iald hx hb hK hP 1 0 rfl rfl (ds_in_ok (i := 1) (n := 350) (by decide)) dX8_isAlike_10 ?_
      refine lv_icmp_ge (tgt := 79) hx hb dX8_isAlike_11 (by decide) (fun c_11 => ?_) (fun c_11 => ?_)
      · replace hf := ds_t c_11 hf
        refine lv_iconst (v := 1) hx hb dX8_isAlike_79 (by decide) ?_
        have hf := Option.some.inj hf
        subst hf
        rw [eG1] at hG
        replace hG : G0 _ := hG
        rw [eG0] at hG
        have hG : _ = res := hG
        subst hG
        exact W.zret (v := (1 : Int32)) (ty := .boolean) hx hb hr rfl (fun t ht hW => ⟨⟨(1 : Int32), (), rfl, rfl, by rw [ht]; exact hP, hD⟩, hS.F ht⟩) hS.2.2 dX8_isAlike_80
      · replace hf := ds_f c_11 hf
        refine lv_iconst (v := 0) hx hb dX8_isAlike_14 (by decide) ?_
        refine lv_istore (lv' := [(5, .int (0 : Int32)), (0, .ref h_o), (1, .int p1), (2, .int p2), (3, .int p3), (4, .int v4)]) hx hb dX8_isAlike_15 hl (by decide) rfl (fun ls hl => ?_)
        exact h1 (J_17 v4 1000 (0 : Int32) _ hf hG _ _ hP hD hS _ (lv_sub hl [1, 2, 3, 4, 5, 0] rfl))
  unfold fX8_isAlike at hf
  refine lv_iconst (v := 0) hx hb dX8_isAlike_0 (by decide) ?_
  refine lv_istore (lv' := [(4, .int (0 : Int32)), (0, .ref h_o), (1, .int p1), (2, .int p2), (3, .int p3)]) hx hb dX8_isAlike_1 hl (by decide) rfl (fun ls hl => ?_)
  exact h1 (J_3  1000 (0 : Int32) _ hf hG _ _ hP hD hS _ (lv_sub hl [1, 2, 3, 4, 0] rfl))
theorem dX8_mayTurn_0 : decode cX8_mayTurn 0 = .ok (.aload_n 0, 1) := by decide +kernel
theorem dX8_mayTurn_1 : decode cX8_mayTurn 1 = .ok (.aload_n 0, 1) := by decide +kernel
theorem dX8_mayTurn_2 : decode cX8_mayTurn 2 = .ok (.iload_n 1, 1) := by decide +kernel
theorem dX8_mayTurn_3 : decode cX8_mayTurn 3 = .ok (.aload_n 0, 1) := by decide +kernel
theorem dX8_mayTurn_4 : decode cX8_mayTurn 4 = .ok (.getfield 19, 3) := by decide +kernel
theorem dX8_mayTurn_7 : decode cX8_mayTurn 7 = .ok (.iconst 0, 1) := by decide +kernel
theorem dX8_mayTurn_8 : decode cX8_mayTurn 8 = .ok (.iaload, 1) := by decide +kernel
theorem dX8_mayTurn_9 : decode cX8_mayTurn 9 = .ok (.iconst 0, 1) := by decide +kernel
theorem dX8_mayTurn_10 : decode cX8_mayTurn 10 = .ok (.invokevirtual 130, 3) := by decide +kernel
theorem dX8_mayTurn_13 : decode cX8_mayTurn 13 = .ok (.aload_n 0, 1) := by decide +kernel
theorem dX8_mayTurn_14 : decode cX8_mayTurn 14 = .ok (.iload_n 1, 1) := by decide +kernel
theorem dX8_mayTurn_15 : decode cX8_mayTurn 15 = .ok (.aload_n 0, 1) := by decide +kernel
theorem dX8_mayTurn_16 : decode cX8_mayTurn 16 = .ok (.getfield 19, 3) := by decide +kernel
theorem dX8_mayTurn_19 : decode cX8_mayTurn 19 = .ok (.iconst 0, 1) := by decide +kernel
theorem dX8_mayTurn_20 : decode cX8_mayTurn 20 = .ok (.iaload, 1) := by decide +kernel
theorem dX8_mayTurn_21 : decode cX8_mayTurn 21 = .ok (.iconst 0, 1) := by decide +kernel
theorem dX8_mayTurn_22 : decode cX8_mayTurn 22 = .ok (.invokevirtual 134, 3) := by decide +kernel
theorem dX8_mayTurn_25 : decode cX8_mayTurn 25 = .ok (.invokevirtual 137, 3) := by decide +kernel
theorem dX8_mayTurn_28 : decode cX8_mayTurn 28 = .ok (.ifCond .eq 38, 3) := by decide +kernel
theorem dX8_mayTurn_31 : decode cX8_mayTurn 31 = .ok (.aload_n 0, 1) := by decide +kernel
theorem dX8_mayTurn_32 : decode cX8_mayTurn 32 = .ok (.aload_n 0, 1) := by decide +kernel
theorem dX8_mayTurn_33 : decode cX8_mayTurn 33 = .ok (.iload_n 1, 1) := by decide +kernel
theorem dX8_mayTurn_34 : decode cX8_mayTurn 34 = .ok (.iconst 0, 1) := by decide +kernel
theorem dX8_mayTurn_35 : decode cX8_mayTurn 35 = .ok (.aload_n 0, 1) := by decide +kernel
theorem dX8_mayTurn_36 : decode cX8_mayTurn 36 = .ok (.getfield 19, 3) := by decide +kernel
theorem dX8_mayTurn_39 : decode cX8_mayTurn 39 = .ok (.iconst 1, 1) := by decide +kernel
theorem dX8_mayTurn_40 : decode cX8_mayTurn 40 = .ok (.iaload, 1) := by decide +kernel
theorem dX8_mayTurn_41 : decode cX8_mayTurn 41 = .ok (.invokevirtual 130, 3) := by decide +kernel
theorem dX8_mayTurn_44 : decode cX8_mayTurn 44 = .ok (.aload_n 0, 1) := by decide +kernel
theorem dX8_mayTurn_45 : decode cX8_mayTurn 45 = .ok (.iload_n 1, 1) := by decide +kernel
theorem dX8_mayTurn_46 : decode cX8_mayTurn 46 = .ok (.iconst 0, 1) := by decide +kernel
theorem dX8_mayTurn_47 : decode cX8_mayTurn 47 = .ok (.aload_n 0, 1) := by decide +kernel
theorem dX8_mayTurn_48 : decode cX8_mayTurn 48 = .ok (.getfield 19, 3) := by decide +kernel
theorem dX8_mayTurn_51 : decode cX8_mayTurn 51 = .ok (.iconst 1, 1) := by decide +kernel
theorem dX8_mayTurn_52 : decode cX8_mayTurn 52 = .ok (.iaload, 1) := by decide +kernel
theorem dX8_mayTurn_53 : decode cX8_mayTurn 53 = .ok (.invokevirtual 134, 3) := by decide +kernel
theorem dX8_mayTurn_56 : decode cX8_mayTurn 56 = .ok (.invokevirtual 137, 3) := by decide +kernel
theorem dX8_mayTurn_59 : decode cX8_mayTurn 59 = .ok (.ifCond .eq 7, 3) := by decide +kernel
theorem dX8_mayTurn_62 : decode cX8_mayTurn 62 = .ok (.iconst 1, 1) := by decide +kernel
theorem dX8_mayTurn_63 : decode cX8_mayTurn 63 = .ok (.goto 4, 3) := by decide +kernel
theorem dX8_mayTurn_66 : decode cX8_mayTurn 66 = .ok (.iconst 0, 1) := by decide +kernel
theorem dX8_mayTurn_67 : decode cX8_mayTurn 67 = .ok (.ireturn, 1) := by decide +kernel
def fX8_mayTurn (o_all_r : Nat → Int32) (o_plans_r : Nat → Int32) (o_shift_r : Nat → Int32) (p1 : Int32) : Option (Int32) :=
  Option.bind (fX8_turnX o_all_r o_plans_r p1 (o_all_r (0 : Int32).toNatClampNeg) (0 : Int32)) fun q10 => Option.bind (fX8_turnY o_all_r o_plans_r p1 (o_all_r (0 : Int32).toNatClampNeg) (0 : Int32)) fun q22 => Option.bind (fX8_isStep o_all_r o_shift_r q10 q22) fun q25 => if q25 = 0 then some (0 : Int32) else Option.bind (fX8_turnX o_all_r o_plans_r p1 (0 : Int32) (o_all_r (1 : Int32).toNatClampNeg)) fun q41 => Option.bind (fX8_turnY o_all_r o_plans_r p1 (0 : Int32) (o_all_r (1 : Int32).toNatClampNeg)) fun q53 => Option.bind (fX8_isStep o_all_r o_shift_r q41 q53) fun q56 => if q56 = 0 then some (0 : Int32) else some (1 : Int32)
set_option maxHeartbeats 4000000 in
set_option maxRecDepth 100000 in
theorem c_X8_mayTurn (l : Launch) (dC : Nat → ClassId) (dI : Nat → Nat → Nat) (ca : Nat → ClassId) (sa : Nat → Nat) (h_o : Nat) (h_o_plans : Nat) (h_o_makers : Nat) (h_o_halves : Nat) (h_o_all : Nat) (h_o_text : Nat) (h_o_saved : Nat) (h_o_undone : Nat) (h_o_told : Nat) (h_o_shift : Nat) (h_o_rootOf : Nat) (h_o_becomes : Nat) (h_o_comes : Nat) (h_o_next : Nat) (sz : Nat) (o_raised : Int32) (o_undos : Int32) (o_reached : Int32) (o_length : Int32) (o_begin : Int32) (o_letters : Int32) (o_sort : Int32) (o_word : Int64) (o_wrongAt : Int32) (o_badAt : Int32) (o_bad : Int32) (o_firstX : Int32) (o_firstY : Int32) (o_secondX : Int32) (o_secondY : Int32) (o_x : Int32) (o_all_r : Nat → Int32) (o_plans_r : Nat → Int32) (o_shift_r : Nat → Int32) (p1 : Int32) (res : Int32) (hf : fX8_mayTurn o_all_r o_plans_r o_shift_r p1 = some res) : Met l yX8_mayTurn (Cond.code yX8_mayTurn cX8_mayTurn 2 (some .boolean) :: ds_gw) { frames := 3, cells := 0, slots := 0, locals := 66 } (va_Pc [.ref h_o, .int p1] (ds_Pre dC dI ca sa [(h_o, .inr (7, [.ref h_o_plans, .ref h_o_makers, .ref h_o_halves, .int o_raised, .ref h_o_all, .ref h_o_text, .ref h_o_saved, .ref h_o_undone, .int o_undos, .int o_reached, .int o_length, .int o_begin, .int o_letters, .int o_sort, .long o_word, .int o_wrongAt, .int o_badAt, .int o_bad, .ref h_o_told, .ref h_o_shift, .int o_firstX, .int o_firstY, .int o_secondX, .int o_secondY, .ref h_o_rootOf, .ref h_o_becomes, .ref h_o_comes, .ref h_o_next, .int o_x])), (h_o_all, .inl (ca 0, 350, .inl o_all_r)), (h_o_plans, .inl (ca 0, 80, .inl o_plans_r)), (h_o_shift, .inl (ca 3, 768, .inl o_shift_r))] sz)) (va_Qi (fun r (_ : Unit) => r = res) (ds_B dC dI (va_A [(h_o, .inr (7, [.ref h_o_plans, .ref h_o_makers, .ref h_o_halves, .int o_raised, .ref h_o_all, .ref h_o_text, .ref h_o_saved, .ref h_o_undone, .int o_undos, .int o_reached, .int o_length, .int o_begin, .int o_letters, .int o_sort, .long o_word, .int o_wrongAt, .int o_badAt, .int o_bad, .ref h_o_told, .ref h_o_shift, .int o_firstX, .int o_firstY, .int o_secondX, .int o_secondY, .ref h_o_rootOf, .ref h_o_becomes, .ref h_o_comes, .ref h_o_next, .int o_x])), (h_o_all, .inl (ca 0, 350, .inl o_all_r)), (h_o_plans, .inl (ca 0, 80, .inl o_plans_r)), (h_o_shift, .inl (ca 3, 768, .inl o_shift_r))] sz) [(h_o, .inr (7, [.ref h_o_plans, .ref h_o_makers, .ref h_o_halves, .int o_raised, .ref h_o_all, .ref h_o_text, .ref h_o_saved, .ref h_o_undone, .int o_undos, .int o_reached, .int o_length, .int o_begin, .int o_letters, .int o_sort, .long o_word, .int o_wrongAt, .int o_badAt, .int o_bad, .ref h_o_told, .ref h_o_shift, .int o_firstX, .int o_firstY, .int o_secondX, .int o_secondY, .ref h_o_rootOf, .ref h_o_becomes, .ref h_o_comes, .ref h_o_next, .int o_x])), (h_o_all, .inl (ca 0, 350, .inl o_all_r)), (h_o_plans, .inl (ca 0, 80, .inl o_plans_r)), (h_o_shift, .inl (ca 3, 768, .inl o_shift_r))]) (va_A [(h_o, .inr (7, [.ref h_o_plans, .ref h_o_makers, .ref h_o_halves, .int o_raised, .ref h_o_all, .ref h_o_text, .ref h_o_saved, .ref h_o_undone, .int o_undos, .int o_reached, .int o_length, .int o_begin, .int o_letters, .int o_sort, .long o_word, .int o_wrongAt, .int o_badAt, .int o_bad, .ref h_o_told, .ref h_o_shift, .int o_firstX, .int o_firstY, .int o_secondX, .int o_secondY, .ref h_o_rootOf, .ref h_o_becomes, .ref h_o_comes, .ref h_o_next, .int o_x])), (h_o_all, .inl (ca 0, 350, .inl o_all_r)), (h_o_plans, .inl (ca 0, 80, .inl o_plans_r)), (h_o_shift, .inl (ca 3, 768, .inl o_shift_r))] sz)) 0 0 (va_A [(h_o, .inr (7, [.ref h_o_plans, .ref h_o_makers, .ref h_o_halves, .int o_raised, .ref h_o_all, .ref h_o_text, .ref h_o_saved, .ref h_o_undone, .int o_undos, .int o_reached, .int o_length, .int o_begin, .int o_letters, .int o_sort, .long o_word, .int o_wrongAt, .int o_badAt, .int o_bad, .ref h_o_told, .ref h_o_shift, .int o_firstX, .int o_firstY, .int o_secondX, .int o_secondY, .ref h_o_rootOf, .ref h_o_becomes, .ref h_o_comes, .ref h_o_next, .int o_x])), (h_o_all, .inl (ca 0, 350, .inl o_all_r)), (h_o_plans, .inl (ca 0, 80, .inl o_plans_r)), (h_o_shift, .inl (ca 3, 768, .inl o_shift_r))] sz) := by
  refine Met.ofW (cc := cX8_mayTurn) (maxL := 2) (ret := (some .boolean)) (by decide) rfl ?_
  intro p e s m args below meth c s₁ B hml hv
  obtain ⟨rfl, hsz, hP, hK, hD0, hE⟩ := hv
  have hx := B.exec
  have hb := B.bytes
  have hr := B.returns
  have hts := atoms_spec (ws := Cond.code yX8_mayTurn cX8_mayTurn 2 (some .boolean) :: ds_gw) B.pre
  have hg : ∀ {w : Cond}, w ∈ ds_gw → w.before _ s = true := fun h => hts _ (List.mem_cons_of_mem _ h)
  have hown : s.vm.findClass RX8 = some m.cls := findClass_of_methodNamed B.named
  have hlocks := B.notSynchronized
  subst hsz
  have hD := hD0.self (sz := s.heap.size)
  generalize hAe : va_A [(h_o, .inr (7, [.ref h_o_plans, .ref h_o_makers, .ref h_o_halves, .int o_raised, .ref h_o_all, .ref h_o_text, .ref h_o_saved, .ref h_o_undone, .int o_undos, .int o_reached, .int o_length, .int o_begin, .int o_letters, .int o_sort, .long o_word, .int o_wrongAt, .int o_badAt, .int o_bad, .ref h_o_told, .ref h_o_shift, .int o_firstX, .int o_firstY, .int o_secondX, .int o_secondY, .ref h_o_rootOf, .ref h_o_becomes, .ref h_o_comes, .ref h_o_next, .int o_x])), (h_o_all, .inl (ca 0, 350, .inl o_all_r)), (h_o_plans, .inl (ca 0, 80, .inl o_plans_r)), (h_o_shift, .inl (ca 3, 768, .inl o_shift_r))] s.heap.size = A at hD hE ⊢
  have hA : ∀ q : Nat, s.heap.size ≤ q → A q := fun q h => by rw [← hAe]; exact Or.inr h
  have hS : va_S A s.heap s.heap [] := va_S.rf
  have hl := lv_entry ([.ref h_o, .int p1]) (n := 2) (Nat.le_of_ble_eq_true rfl)
  rw [lg_entry_eq]
  generalize (lg_sl ([.ref h_o, .int p1]) ++ List.replicate (2 - (lg_sl ([.ref h_o, .int p1])).length) Slot.unset).toArray = ls at hl ⊢
  have hl : lv_has ls 2 [(0, .ref h_o), (1, .int p1)] := hl
  obtain ⟨G0, eG0⟩ : ∃ G : Int32 → Prop, G = (fun r => r = res) := ⟨_, rfl⟩
  obtain ⟨rr, hrr⟩ : ∃ z, z = res := ⟨_, rfl⟩
  rw [← hrr] at hf
  have hG : G0 rr := by subst eG0; exact hrr
  unfold fX8_mayTurn at hf
  refine lv_aload_n hx hb dX8_mayTurn_0 rfl (lv_at hl 0 rfl) ?_
  refine lv_aload_n hx hb dX8_mayTurn_1 rfl (lv_at hl 0 rfl) ?_
  refine lv_iload_n hx hb dX8_mayTurn_2 rfl (lv_at hl 1 rfl) ?_
  refine lv_aload_n hx hb dX8_mayTurn_3 rfl (lv_at hl 0 rfl) ?_
  refine va_get (D := (dC, dI)) (ci := 7) (v := .ref h_o_all) (C := RX8) (T := TX8) (N := 29) hx hb hts (fun w h => List.mem_cons_of_mem _ (kc_X8 w h)) hown hK hP 0 rfl rfl 4 (by decide) (hg kw_594) (fun _ h9 => h9) rfl dX8_mayTurn_4 ?_
  refine lv_iconst (v := 0) hx hb dX8_mayTurn_7 (by decide) ?_
  refine va_iald hx hb hK hP 1 0 rfl rfl (ds_in_ok (i := 0) (n := 350) (by decide)) dX8_mayTurn_8 ?_
  refine lv_iconst (v := 0) hx hb dX8_mayTurn_9 (by decide) ?_
  obtain ⟨q10, hq10, hf⟩ := ds_ob hf
  refine ds_calli (wr := [(h_o_shift, .inl (ca 3, 768, .inl o_shift_r))]) (va_runV (As := [.int p1, .int (o_all_r (0 : Int32).toNatClampNeg), .int (0 : Int32)]) (rest := [.ref h_o]) ⟨hx, hb, hml, hown, hts⟩ (c_X8_turnX l dC dI ca sa h_o h_o_plans h_o_makers h_o_halves h_o_all h_o_text h_o_saved h_o_undone h_o_told h_o_shift h_o_rootOf h_o_becomes h_o_comes h_o_next s.heap.size o_raised o_undos o_reached o_length o_begin o_letters o_sort o_word o_wrongAt o_badAt o_bad o_firstX o_firstY o_secondX o_secondY o_x o_all_r o_plans_r p1 (o_all_r (0 : Int32).toNatClampNeg) (0 : Int32) q10 hq10) (cwV 3 hts (ds_gV kw_655 kw_656 kw_657 kw_597 kw_658) rfl rfl rfl (by decide +kernel) ⟨Nat.le_of_ble_eq_true rfl, Nat.le_of_ble_eq_true rfl⟩) ⟨ds_blind, va_recv hK hP (ci := 7) (q0 := 0) rfl rfl, ds_at hP hD hK hE hS hA [0, 1, 2] rfl rfl _⟩ rfl rfl hl.1 rfl (lv_room (Nat.le_of_ble_eq_true rfl)) dX8_mayTurn_10 ⟨Nat.zero_le _, Nat.zero_le _⟩) hP hD hS hA [0, 1, 2] [3] rfl rfl rfl (by decide) (fun H locs hP hD hS => ?_)
  have hP : va_P (dC, dI) vwCl [(h_o_shift, .inl (ca 3, 768, .inl o_shift_r)), (h_o, .inr (7, [.ref h_o_plans, .ref h_o_makers, .ref h_o_halves, .int o_raised, .ref h_o_all, .ref h_o_text, .ref h_o_saved, .ref h_o_undone, .int o_undos, .int o_reached, .int o_length, .int o_begin, .int o_letters, .int o_sort, .long o_word, .int o_wrongAt, .int o_badAt, .int o_bad, .ref h_o_told, .ref h_o_shift, .int o_firstX, .int o_firstY, .int o_secondX, .int o_secondY, .ref h_o_rootOf, .ref h_o_becomes, .ref h_o_comes, .ref h_o_next, .int o_x])), (h_o_all, .inl (ca 0, 350, .inl o_all_r)), (h_o_plans, .inl (ca 0, 80, .inl o_plans_r))] H := hP
  have hD : va_D A [(h_o_shift, .inl (ca 3, 768, .inl o_shift_r)), (h_o, .inr (7, [.ref h_o_plans, .ref h_o_makers, .ref h_o_halves, .int o_raised, .ref h_o_all, .ref h_o_text, .ref h_o_saved, .ref h_o_undone, .int o_undos, .int o_reached, .int o_length, .int o_begin, .int o_letters, .int o_sort, .long o_word, .int o_wrongAt, .int o_badAt, .int o_bad, .ref h_o_told, .ref h_o_shift, .int o_firstX, .int o_firstY, .int o_secondX, .int o_secondY, .ref h_o_rootOf, .ref h_o_becomes, .ref h_o_comes, .ref h_o_next, .int o_x])), (h_o_all, .inl (ca 0, 350, .inl o_all_r)), (h_o_plans, .inl (ca 0, 80, .inl o_plans_r))] := hD
  refine lv_aload_n hx hb dX8_mayTurn_13 rfl (lv_at hl 0 rfl) ?_
  refine lv_iload_n hx hb dX8_mayTurn_14 rfl (lv_at hl 1 rfl) ?_
  refine lv_aload_n hx hb dX8_mayTurn_15 rfl (lv_at hl 0 rfl) ?_
  refine va_get (D := (dC, dI)) (ci := 7) (v := .ref h_o_all) (C := RX8) (T := TX8) (N := 29) hx hb hts (fun w h => List.mem_cons_of_mem _ (kc_X8 w h)) hown hK hP 1 rfl rfl 4 (by decide) (hg kw_594) (fun _ h9 => h9) rfl dX8_mayTurn_16 ?_
  refine lv_iconst (v := 0) hx hb dX8_mayTurn_19 (by decide) ?_
  refine va_iald hx hb hK hP 2 0 rfl rfl (ds_in_ok (i := 0) (n := 350) (by decide)) dX8_mayTurn_20 ?_
  refine lv_iconst (v := 0) hx hb dX8_mayTurn_21 (by decide) ?_
  obtain ⟨q22, hq22, hf⟩ := ds_ob hf
  refine ds_calli (wr := [(h_o_shift, .inl (ca 3, 768, .inl o_shift_r))]) (va_runV (As := [.int p1, .int (o_all_r (0 : Int32).toNatClampNeg), .int (0 : Int32)]) (rest := [.int q10, .ref h_o]) ⟨hx, hb, hml, hown, hts⟩ (c_X8_turnY l dC dI ca sa h_o h_o_plans h_o_makers h_o_halves h_o_all h_o_text h_o_saved h_o_undone h_o_told h_o_shift h_o_rootOf h_o_becomes h_o_comes h_o_next H.size o_raised o_undos o_reached o_length o_begin o_letters o_sort o_word o_wrongAt o_badAt o_bad o_firstX o_firstY o_secondX o_secondY o_x o_all_r o_plans_r p1 (o_all_r (0 : Int32).toNatClampNeg) (0 : Int32) q22 hq22) (cwV 3 hts (ds_gV kw_659 kw_660 kw_661 kw_597 kw_662) rfl rfl rfl (by decide +kernel) ⟨Nat.le_of_ble_eq_true rfl, Nat.le_of_ble_eq_true rfl⟩) ⟨ds_blind, va_recv hK hP (ci := 7) (q0 := 1) rfl rfl, ds_at hP hD hK hE hS hA [1, 2, 3] rfl rfl _⟩ rfl rfl hl.1 rfl (lv_room (Nat.le_of_ble_eq_true rfl)) dX8_mayTurn_22 ⟨Nat.zero_le _, Nat.zero_le _⟩) hP hD hS hA [1, 2, 3] [0] rfl rfl rfl (by decide) (fun H locs hP hD hS => ?_)
  have hP : va_P (dC, dI) vwCl [(h_o_shift, .inl (ca 3, 768, .inl o_shift_r)), (h_o, .inr (7, [.ref h_o_plans, .ref h_o_makers, .ref h_o_halves, .int o_raised, .ref h_o_all, .ref h_o_text, .ref h_o_saved, .ref h_o_undone, .int o_undos, .int o_reached, .int o_length, .int o_begin, .int o_letters, .int o_sort, .long o_word, .int o_wrongAt, .int o_badAt, .int o_bad, .ref h_o_told, .ref h_o_shift, .int o_firstX, .int o_firstY, .int o_secondX, .int o_secondY, .ref h_o_rootOf, .ref h_o_becomes, .ref h_o_comes, .ref h_o_next, .int o_x])), (h_o_all, .inl (ca 0, 350, .inl o_all_r)), (h_o_plans, .inl (ca 0, 80, .inl o_plans_r))] H := hP
  have hD : va_D A [(h_o_shift, .inl (ca 3, 768, .inl o_shift_r)), (h_o, .inr (7, [.ref h_o_plans, .ref h_o_makers, .ref h_o_halves, .int o_raised, .ref h_o_all, .ref h_o_text, .ref h_o_saved, .ref h_o_undone, .int o_undos, .int o_reached, .int o_length, .int o_begin, .int o_letters, .int o_sort, .long o_word, .int o_wrongAt, .int o_badAt, .int o_bad, .ref h_o_told, .ref h_o_shift, .int o_firstX, .int o_firstY, .int o_secondX, .int o_secondY, .ref h_o_rootOf, .ref h_o_becomes, .ref h_o_comes, .ref h_o_next, .int o_x])), (h_o_all, .inl (ca 0, 350, .inl o_all_r)), (h_o_plans, .inl (ca 0, 80, .inl o_plans_r))] := hD
  obtain ⟨q25, hq25, hf⟩ := ds_ob hf
  refine ds_calli (wr := [(h_o_plans, .inl (ca 0, 80, .inl o_plans_r))]) (va_runV (As := [.int q10, .int q22]) (rest := []) ⟨hx, hb, hml, hown, hts⟩ (c_X8_isStep l dC dI ca sa h_o h_o_plans h_o_makers h_o_halves h_o_all h_o_text h_o_saved h_o_undone h_o_told h_o_shift h_o_rootOf h_o_becomes h_o_comes h_o_next H.size o_raised o_undos o_reached o_length o_begin o_letters o_sort o_word o_wrongAt o_badAt o_bad o_firstX o_firstY o_secondX o_secondY o_x o_all_r o_shift_r q10 q22 q25 hq25) (cwV 2 hts (ds_gV kw_663 kw_664 kw_665 kw_597 kw_666) rfl rfl rfl (by decide +kernel) ⟨Nat.le_of_ble_eq_true rfl, Nat.le_of_ble_eq_true rfl⟩) ⟨ds_blind, va_recv hK hP (ci := 7) (q0 := 1) rfl rfl, ds_at hP hD hK hE hS hA [1, 2, 0] rfl rfl _⟩ rfl rfl hl.1 rfl (lv_room (Nat.le_of_ble_eq_true rfl)) dX8_mayTurn_25 ⟨Nat.zero_le _, Nat.zero_le _⟩) hP hD hS hA [1, 2, 0] [3] rfl rfl rfl (by decide) (fun H locs hP hD hS => ?_)
  have hP : va_P (dC, dI) vwCl [(h_o_plans, .inl (ca 0, 80, .inl o_plans_r)), (h_o, .inr (7, [.ref h_o_plans, .ref h_o_makers, .ref h_o_halves, .int o_raised, .ref h_o_all, .ref h_o_text, .ref h_o_saved, .ref h_o_undone, .int o_undos, .int o_reached, .int o_length, .int o_begin, .int o_letters, .int o_sort, .long o_word, .int o_wrongAt, .int o_badAt, .int o_bad, .ref h_o_told, .ref h_o_shift, .int o_firstX, .int o_firstY, .int o_secondX, .int o_secondY, .ref h_o_rootOf, .ref h_o_becomes, .ref h_o_comes, .ref h_o_next, .int o_x])), (h_o_all, .inl (ca 0, 350, .inl o_all_r)), (h_o_shift, .inl (ca 3, 768, .inl o_shift_r))] H := hP
  have hD : va_D A [(h_o_plans, .inl (ca 0, 80, .inl o_plans_r)), (h_o, .inr (7, [.ref h_o_plans, .ref h_o_makers, .ref h_o_halves, .int o_raised, .ref h_o_all, .ref h_o_text, .ref h_o_saved, .ref h_o_undone, .int o_undos, .int o_reached, .int o_length, .int o_begin, .int o_letters, .int o_sort, .long o_word, .int o_wrongAt, .int o_badAt, .int o_bad, .ref h_o_told, .ref h_o_shift, .int o_firstX, .int o_firstY, .int o_secondX, .int o_secondY, .ref h_o_rootOf, .ref h_o_becomes, .ref h_o_comes, .ref h_o_next, .int o_x])), (h_o_all, .inl (ca 0, 350, .inl o_all_r)), (h_o_shift, .inl (ca 3, 768, .inl o_shift_r))] := hD
  refine lv_if_eq (tgt := 66) hx hb dX8_mayTurn_28 (by decide) (fun c_28 => ?_) (fun c_28 => ?_)
  · replace hf := ds_t c_28 hf
    refine lv_iconst (v := 0) hx hb dX8_mayTurn_66 (by decide) ?_
    have hf := Option.some.inj hf
    subst hf
    rw [eG0] at hG
    have hG : _ = res := hG
    subst hG
    exact W.zret (v := (0 : Int32)) (ty := .boolean) hx hb hr rfl (fun t ht hW => ⟨⟨(0 : Int32), (), rfl, rfl, by rw [ht]; exact (hP.sub [1, 2, 0, 3] rfl), (hD.sub [1, 2, 0, 3] rfl rfl)⟩, hS.F ht⟩) hS.2.2 dX8_mayTurn_67
  · replace hf := ds_f c_28 hf
    refine lv_aload_n hx hb dX8_mayTurn_31 rfl (lv_at hl 0 rfl) ?_
    refine lv_aload_n hx hb dX8_mayTurn_32 rfl (lv_at hl 0 rfl) ?_
    refine lv_iload_n hx hb dX8_mayTurn_33 rfl (lv_at hl 1 rfl) ?_
    refine lv_iconst (v := 0) hx hb dX8_mayTurn_34 (by decide) ?_
    refine lv_aload_n hx hb dX8_mayTurn_35 rfl (lv_at hl 0 rfl) ?_
    refine va_get (D := (dC, dI)) (ci := 7) (v := .ref h_o_all) (C := RX8) (T := TX8) (N := 29) hx hb hts (fun w h => List.mem_cons_of_mem _ (kc_X8 w h)) hown hK hP 1 rfl rfl 4 (by decide) (hg kw_594) (fun _ h9 => h9) rfl dX8_mayTurn_36 ?_
    refine lv_iconst (v := 1) hx hb dX8_mayTurn_39 (by decide) ?_
    refine va_iald hx hb hK hP 2 0 rfl rfl (ds_in_ok (i := 1) (n := 350) (by decide)) dX8_mayTurn_40 ?_
    obtain ⟨q41, hq41, hf⟩ := ds_ob hf
    refine ds_calli (wr := [(h_o_shift, .inl (ca 3, 768, .inl o_shift_r))]) (va_runV (As := [.int p1, .int (0 : Int32), .int (o_all_r (1 : Int32).toNatClampNeg)]) (rest := [.ref h_o]) ⟨hx, hb, hml, hown, hts⟩ (c_X8_turnX l dC dI ca sa h_o h_o_plans h_o_makers h_o_halves h_o_all h_o_text h_o_saved h_o_undone h_o_told h_o_shift h_o_rootOf h_o_becomes h_o_comes h_o_next H.size o_raised o_undos o_reached o_length o_begin o_letters o_sort o_word o_wrongAt o_badAt o_bad o_firstX o_firstY o_secondX o_secondY o_x o_all_r o_plans_r p1 (0 : Int32) (o_all_r (1 : Int32).toNatClampNeg) q41 hq41) (cwV 3 hts (ds_gV kw_655 kw_656 kw_657 kw_597 kw_658) rfl rfl rfl (by decide +kernel) ⟨Nat.le_of_ble_eq_true rfl, Nat.le_of_ble_eq_true rfl⟩) ⟨ds_blind, va_recv hK hP (ci := 7) (q0 := 1) rfl rfl, ds_at hP hD hK hE hS hA [1, 2, 0] rfl rfl _⟩ rfl rfl hl.1 rfl (lv_room (Nat.le_of_ble_eq_true rfl)) dX8_mayTurn_41 ⟨Nat.zero_le _, Nat.zero_le _⟩) hP hD hS hA [1, 2, 0] [3] rfl rfl rfl (by decide) (fun H locs hP hD hS => ?_)
    have hP : va_P (dC, dI) vwCl [(h_o_shift, .inl (ca 3, 768, .inl o_shift_r)), (h_o, .inr (7, [.ref h_o_plans, .ref h_o_makers, .ref h_o_halves, .int o_raised, .ref h_o_all, .ref h_o_text, .ref h_o_saved, .ref h_o_undone, .int o_undos, .int o_reached, .int o_length, .int o_begin, .int o_letters, .int o_sort, .long o_word, .int o_wrongAt, .int o_badAt, .int o_bad, .ref h_o_told, .ref h_o_shift, .int o_firstX, .int o_firstY, .int o_secondX, .int o_secondY, .ref h_o_rootOf, .ref h_o_becomes, .ref h_o_comes, .ref h_o_next, .int o_x])), (h_o_all, .inl (ca 0, 350, .inl o_all_r)), (h_o_plans, .inl (ca 0, 80, .inl o_plans_r))] H := hP
    have hD : va_D A [(h_o_shift, .inl (ca 3, 768, .inl o_shift_r)), (h_o, .inr (7, [.ref h_o_plans, .ref h_o_makers, .ref h_o_halves, .int o_raised, .ref h_o_all, .ref h_o_text, .ref h_o_saved, .ref h_o_undone, .int o_undos, .int o_reached, .int o_length, .int o_begin, .int o_letters, .int o_sort, .long o_word, .int o_wrongAt, .int o_badAt, .int o_bad, .ref h_o_told, .ref h_o_shift, .int o_firstX, .int o_firstY, .int o_secondX, .int o_secondY, .ref h_o_rootOf, .ref h_o_becomes, .ref h_o_comes, .ref h_o_next, .int o_x])), (h_o_all, .inl (ca 0, 350, .inl o_all_r)), (h_o_plans, .inl (ca 0, 80, .inl o_plans_r))] := hD
    refine lv_aload_n hx hb dX8_mayTurn_44 rfl (lv_at hl 0 rfl) ?_
    refine lv_iload_n hx hb dX8_mayTurn_45 rfl (lv_at hl 1 rfl) ?_
    refine lv_iconst (v := 0) hx hb dX8_mayTurn_46 (by decide) ?_
    refine lv_aload_n hx hb dX8_mayTurn_47 rfl (lv_at hl 0 rfl) ?_
    refine va_get (D := (dC, dI)) (ci := 7) (v := .ref h_o_all) (C := RX8) (T := TX8) (N := 29) hx hb hts (fun w h => List.mem_cons_of_mem _ (kc_X8 w h)) hown hK hP 1 rfl rfl 4 (by decide) (hg kw_594) (fun _ h9 => h9) rfl dX8_mayTurn_48 ?_
    refine lv_iconst (v := 1) hx hb dX8_mayTurn_51 (by decide) ?_
    refine va_iald hx hb hK hP 2 0 rfl rfl (ds_in_ok (i := 1) (n := 350) (by decide)) dX8_mayTurn_52 ?_
    obtain ⟨q53, hq53, hf⟩ := ds_ob hf
    refine ds_calli (wr := [(h_o_shift, .inl (ca 3, 768, .inl o_shift_r))]) (va_runV (As := [.int p1, .int (0 : Int32), .int (o_all_r (1 : Int32).toNatClampNeg)]) (rest := [.int q41, .ref h_o]) ⟨hx, hb, hml, hown, hts⟩ (c_X8_turnY l dC dI ca sa h_o h_o_plans h_o_makers h_o_halves h_o_all h_o_text h_o_saved h_o_undone h_o_told h_o_shift h_o_rootOf h_o_becomes h_o_comes h_o_next H.size o_raised o_undos o_reached o_length o_begin o_letters o_sort o_word o_wrongAt o_badAt o_bad o_firstX o_firstY o_secondX o_secondY o_x o_all_r o_plans_r p1 (0 : Int32) (o_all_r (1 : Int32).toNatClampNeg) q53 hq53) (cwV 3 hts (ds_gV kw_659 kw_660 kw_661 kw_597 kw_662) rfl rfl rfl (by decide +kernel) ⟨Nat.le_of_ble_eq_true rfl, Nat.le_of_ble_eq_true rfl⟩) ⟨ds_blind, va_recv hK hP (ci := 7) (q0 := 1) rfl rfl, ds_at hP hD hK hE hS hA [1, 2, 3] rfl rfl _⟩ rfl rfl hl.1 rfl (lv_room (Nat.le_of_ble_eq_true rfl)) dX8_mayTurn_53 ⟨Nat.zero_le _, Nat.zero_le _⟩) hP hD hS hA [1, 2, 3] [0] rfl rfl rfl (by decide) (fun H locs hP hD hS => ?_)
    have hP : va_P (dC, dI) vwCl [(h_o_shift, .inl (ca 3, 768, .inl o_shift_r)), (h_o, .inr (7, [.ref h_o_plans, .ref h_o_makers, .ref h_o_halves, .int o_raised, .ref h_o_all, .ref h_o_text, .ref h_o_saved, .ref h_o_undone, .int o_undos, .int o_reached, .int o_length, .int o_begin, .int o_letters, .int o_sort, .long o_word, .int o_wrongAt, .int o_badAt, .int o_bad, .ref h_o_told, .ref h_o_shift, .int o_firstX, .int o_firstY, .int o_secondX, .int o_secondY, .ref h_o_rootOf, .ref h_o_becomes, .ref h_o_comes, .ref h_o_next, .int o_x])), (h_o_all, .inl (ca 0, 350, .inl o_all_r)), (h_o_plans, .inl (ca 0, 80, .inl o_plans_r))] H := hP
    have hD : va_D A [(h_o_shift, .inl (ca 3, 768, .inl o_shift_r)), (h_o, .inr (7, [.ref h_o_plans, .ref h_o_makers, .ref h_o_halves, .int o_raised, .ref h_o_all, .ref h_o_text, .ref h_o_saved, .ref h_o_undone, .int o_undos, .int o_reached, .int o_length, .int o_begin, .int o_letters, .int o_sort, .long o_word, .int o_wrongAt, .int o_badAt, .int o_bad, .ref h_o_told, .ref h_o_shift, .int o_firstX, .int o_firstY, .int o_secondX, .int o_secondY, .ref h_o_rootOf, .ref h_o_becomes, .ref h_o_comes, .ref h_o_next, .int o_x])), (h_o_all, .inl (ca 0, 350, .inl o_all_r)), (h_o_plans, .inl (ca 0, 80, .inl o_plans_r))] := hD
    obtain ⟨q56, hq56, hf⟩ := ds_ob hf
    refine ds_calli (wr := [(h_o_plans, .inl (ca 0, 80, .inl o_plans_r))]) (va_runV (As := [.int q41, .int q53]) (rest := []) ⟨hx, hb, hml, hown, hts⟩ (c_X8_isStep l dC dI ca sa h_o h_o_plans h_o_makers h_o_halves h_o_all h_o_text h_o_saved h_o_undone h_o_told h_o_shift h_o_rootOf h_o_becomes h_o_comes h_o_next H.size o_raised o_undos o_reached o_length o_begin o_letters o_sort o_word o_wrongAt o_badAt o_bad o_firstX o_firstY o_secondX o_secondY o_x o_all_r o_shift_r q41 q53 q56 hq56) (cwV 2 hts (ds_gV kw_663 kw_664 kw_665 kw_597 kw_666) rfl rfl rfl (by decide +kernel) ⟨Nat.le_of_ble_eq_true rfl, Nat.le_of_ble_eq_true rfl⟩) ⟨ds_blind, va_recv hK hP (ci := 7) (q0 := 1) rfl rfl, ds_at hP hD hK hE hS hA [1, 2, 0] rfl rfl _⟩ rfl rfl hl.1 rfl (lv_room (Nat.le_of_ble_eq_true rfl)) dX8_mayTurn_56 ⟨Nat.zero_le _, Nat.zero_le _⟩) hP hD hS hA [1, 2, 0] [3] rfl rfl rfl (by decide) (fun H locs hP hD hS => ?_)
    have hP : va_P (dC, dI) vwCl [(h_o_plans, .inl (ca 0, 80, .inl o_plans_r)), (h_o, .inr (7, [.ref h_o_plans, .ref h_o_makers, .ref h_o_halves, .int o_raised, .ref h_o_all, .ref h_o_text, .ref h_o_saved, .ref h_o_undone, .int o_undos, .int o_reached, .int o_length, .int o_begin, .int o_letters, .int o_sort, .long o_word, .int o_wrongAt, .int o_badAt, .int o_bad, .ref h_o_told, .ref h_o_shift, .int o_firstX, .int o_firstY, .int o_secondX, .int o_secondY, .ref h_o_rootOf, .ref h_o_becomes, .ref h_o_comes, .ref h_o_next, .int o_x])), (h_o_all, .inl (ca 0, 350, .inl o_all_r)), (h_o_shift, .inl (ca 3, 768, .inl o_shift_r))] H := hP
    have hD : va_D A [(h_o_plans, .inl (ca 0, 80, .inl o_plans_r)), (h_o, .inr (7, [.ref h_o_plans, .ref h_o_makers, .ref h_o_halves, .int o_raised, .ref h_o_all, .ref h_o_text, .ref h_o_saved, .ref h_o_undone, .int o_undos, .int o_reached, .int o_length, .int o_begin, .int o_letters, .int o_sort, .long o_word, .int o_wrongAt, .int o_badAt, .int o_bad, .ref h_o_told, .ref h_o_shift, .int o_firstX, .int o_firstY, .int o_secondX, .int o_secondY, .ref h_o_rootOf, .ref h_o_becomes, .ref h_o_comes, .ref h_o_next, .int o_x])), (h_o_all, .inl (ca 0, 350, .inl o_all_r)), (h_o_shift, .inl (ca 3, 768, .inl o_shift_r))] := hD
    refine lv_if_eq (tgt := 66) hx hb dX8_mayTurn_59 (by decide) (fun c_59 => ?_) (fun c_59 => ?_)
    · replace hf := ds_t c_59 hf
      refine lv_iconst (v := 0) hx hb dX8_mayTurn_66 (by decide) ?_
      have hf := Option.some.inj hf
      subst hf
      rw [eG0] at hG
      have hG : _ = res := hG
      subst hG
      exact W.zret (v := (0 : Int32)) (ty := .boolean) hx hb hr rfl (fun t ht hW => ⟨⟨(0 : Int32), (), rfl, rfl, by rw [ht]; exact (hP.sub [1, 2, 0, 3] rfl), (hD.sub [1, 2, 0, 3] rfl rfl)⟩, hS.F ht⟩) hS.2.2 dX8_mayTurn_67
    · replace hf := ds_f c_59 hf
      refine lv_iconst (v := 1) hx hb dX8_mayTurn_62 (by decide) ?_
      refine lv_goto (tgt := 67) hx hb dX8_mayTurn_63 (by decide) ?_
      have hf := Option.some.inj hf
      subst hf
      rw [eG0] at hG
      have hG : _ = res := hG
      subst hG
      exact W.zret (v := (1 : Int32)) (ty := .boolean) hx hb hr rfl (fun t ht hW => ⟨⟨(1 : Int32), (), rfl, rfl, by rw [ht]; exact (hP.sub [1, 2, 0, 3] rfl), (hD.sub [1, 2, 0, 3] rfl rfl)⟩, hS.F ht⟩) hS.2.2 dX8_mayTurn_67
theorem dX8_laysShifts_0 : decode cX8_laysShifts 0 = .ok (.iconst 0, 1) := by decide +kernel
theorem dX8_laysShifts_1 : decode cX8_laysShifts 1 = .ok (.istore_n 1, 1) := by decide +kernel
theorem dX8_laysShifts_2 : decode cX8_laysShifts 2 = .ok (.iload_n 1, 1) := by decide +kernel
theorem dX8_laysShifts_3 : decode cX8_laysShifts 3 = .ok (.aload_n 0, 1) := by decide +kernel
theorem dX8_laysShifts_4 : decode cX8_laysShifts 4 = .ok (.invokevirtual 62, 3) := by decide +kernel
theorem dX8_laysShifts_7 : decode cX8_laysShifts 7 = .ok (.if_icmp .ge 102, 3) := by decide +kernel
theorem dX8_laysShifts_10 : decode cX8_laysShifts 10 = .ok (.iload_n 1, 1) := by decide +kernel
theorem dX8_laysShifts_11 : decode cX8_laysShifts 11 = .ok (.ifCond .eq 11, 3) := by decide +kernel
theorem dX8_laysShifts_14 : decode cX8_laysShifts 14 = .ok (.aload_n 0, 1) := by decide +kernel
theorem dX8_laysShifts_15 : decode cX8_laysShifts 15 = .ok (.iload_n 1, 1) := by decide +kernel
theorem dX8_laysShifts_16 : decode cX8_laysShifts 16 = .ok (.invokevirtual 141, 3) := by decide +kernel
theorem dX8_laysShifts_19 : decode cX8_laysShifts 19 = .ok (.ifCond .eq 7, 3) := by decide +kernel
theorem dX8_laysShifts_22 : decode cX8_laysShifts 22 = .ok (.iconst 1, 1) := by decide +kernel
theorem dX8_laysShifts_23 : decode cX8_laysShifts 23 = .ok (.goto 4, 3) := by decide +kernel
theorem dX8_laysShifts_26 : decode cX8_laysShifts 26 = .ok (.iconst 0, 1) := by decide +kernel
theorem dX8_laysShifts_27 : decode cX8_laysShifts 27 = .ok (.istore_n 2, 1) := by decide +kernel
theorem dX8_laysShifts_28 : decode cX8_laysShifts 28 = .ok (.iconst 0, 1) := by decide +kernel
theorem dX8_laysShifts_29 : decode cX8_laysShifts 29 = .ok (.istore_n 3, 1) := by decide +kernel
theorem dX8_laysShifts_30 : decode cX8_laysShifts 30 = .ok (.iload_n 3, 1) := by decide +kernel
theorem dX8_laysShifts_31 : decode cX8_laysShifts 31 = .ok (.aload_n 0, 1) := by decide +kernel
theorem dX8_laysShifts_32 : decode cX8_laysShifts 32 = .ok (.getfield 19, 3) := by decide +kernel
theorem dX8_laysShifts_35 : decode cX8_laysShifts 35 = .ok (.iconst 1, 1) := by decide +kernel
theorem dX8_laysShifts_36 : decode cX8_laysShifts 36 = .ok (.iaload, 1) := by decide +kernel
theorem dX8_laysShifts_37 : decode cX8_laysShifts 37 = .ok (.if_icmp .ge 66, 3) := by decide +kernel
theorem dX8_laysShifts_40 : decode cX8_laysShifts 40 = .ok (.iconst 0, 1) := by decide +kernel
theorem dX8_laysShifts_41 : decode cX8_laysShifts 41 = .ok (.istore 4, 2) := by decide +kernel
theorem dX8_laysShifts_43 : decode cX8_laysShifts 43 = .ok (.iload 4, 2) := by decide +kernel
theorem dX8_laysShifts_45 : decode cX8_laysShifts 45 = .ok (.aload_n 0, 1) := by decide +kernel
theorem dX8_laysShifts_46 : decode cX8_laysShifts 46 = .ok (.getfield 19, 3) := by decide +kernel
theorem dX8_laysShifts_49 : decode cX8_laysShifts 49 = .ok (.iconst 0, 1) := by decide +kernel
theorem dX8_laysShifts_50 : decode cX8_laysShifts 50 = .ok (.iaload, 1) := by decide +kernel
theorem dX8_laysShifts_51 : decode cX8_laysShifts 51 = .ok (.if_icmp .ge 46, 3) := by decide +kernel
theorem dX8_laysShifts_54 : decode cX8_laysShifts 54 = .ok (.aload_n 0, 1) := by decide +kernel
theorem dX8_laysShifts_55 : decode cX8_laysShifts 55 = .ok (.getfield 36, 3) := by decide +kernel
theorem dX8_laysShifts_58 : decode cX8_laysShifts 58 = .ok (.bipush 64, 2) := by decide +kernel
theorem dX8_laysShifts_60 : decode cX8_laysShifts 60 = .ok (.iload_n 1, 1) := by decide +kernel
theorem dX8_laysShifts_61 : decode cX8_laysShifts 61 = .ok (.imul, 1) := by decide +kernel
theorem dX8_laysShifts_62 : decode cX8_laysShifts 62 = .ok (.bipush 8, 2) := by decide +kernel
theorem dX8_laysShifts_64 : decode cX8_laysShifts 64 = .ok (.iload_n 3, 1) := by decide +kernel
theorem dX8_laysShifts_65 : decode cX8_laysShifts 65 = .ok (.imul, 1) := by decide +kernel
theorem dX8_laysShifts_66 : decode cX8_laysShifts 66 = .ok (.iadd, 1) := by decide +kernel
theorem dX8_laysShifts_67 : decode cX8_laysShifts 67 = .ok (.iload 4, 2) := by decide +kernel
theorem dX8_laysShifts_69 : decode cX8_laysShifts 69 = .ok (.iadd, 1) := by decide +kernel
theorem dX8_laysShifts_70 : decode cX8_laysShifts 70 = .ok (.iload_n 2, 1) := by decide +kernel
theorem dX8_laysShifts_71 : decode cX8_laysShifts 71 = .ok (.ifCond .eq 18, 3) := by decide +kernel
theorem dX8_laysShifts_74 : decode cX8_laysShifts 74 = .ok (.aload_n 0, 1) := by decide +kernel
theorem dX8_laysShifts_75 : decode cX8_laysShifts 75 = .ok (.iload_n 1, 1) := by decide +kernel
theorem dX8_laysShifts_76 : decode cX8_laysShifts 76 = .ok (.iload 4, 2) := by decide +kernel
theorem dX8_laysShifts_78 : decode cX8_laysShifts 78 = .ok (.iload_n 3, 1) := by decide +kernel
theorem dX8_laysShifts_79 : decode cX8_laysShifts 79 = .ok (.invokevirtual 145, 3) := by decide +kernel
theorem dX8_laysShifts_82 : decode cX8_laysShifts 82 = .ok (.ifCond .eq 7, 3) := by decide +kernel
theorem dX8_laysShifts_85 : decode cX8_laysShifts 85 = .ok (.iconst 1, 1) := by decide +kernel
theorem dX8_laysShifts_86 : decode cX8_laysShifts 86 = .ok (.goto 4, 3) := by decide +kernel
theorem dX8_laysShifts_89 : decode cX8_laysShifts 89 = .ok (.iconst 0, 1) := by decide +kernel
theorem dX8_laysShifts_90 : decode cX8_laysShifts 90 = .ok (.bastore, 1) := by decide +kernel
theorem dX8_laysShifts_91 : decode cX8_laysShifts 91 = .ok (.iinc 4 1, 3) := by decide +kernel
theorem dX8_laysShifts_94 : decode cX8_laysShifts 94 = .ok (.goto (-51), 3) := by decide +kernel
theorem dX8_laysShifts_97 : decode cX8_laysShifts 97 = .ok (.iinc 3 1, 3) := by decide +kernel
theorem dX8_laysShifts_100 : decode cX8_laysShifts 100 = .ok (.goto (-70), 3) := by decide +kernel
theorem dX8_laysShifts_103 : decode cX8_laysShifts 103 = .ok (.iinc 1 1, 3) := by decide +kernel
theorem dX8_laysShifts_106 : decode cX8_laysShifts 106 = .ok (.goto (-104), 3) := by decide +kernel
theorem dX8_laysShifts_109 : decode cX8_laysShifts 109 = .ok (.return_, 1) := by decide +kernel
def fX8_laysShifts_103 (o_shift_r : Nat → Int32) (v1 : Int32) : Option ((Int32 × (Nat → Int32)) ⊕ ((Nat → Int32))) :=
  some (.inl ((v1 + 1), o_shift_r))
def fX8_laysShifts_97 (o_shift_r : Nat → Int32) (v3 : Int32) : Option ((Int32 × (Nat → Int32)) ⊕ ((Int32 × (Nat → Int32)) ⊕ ((Nat → Int32)))) :=
  some (.inl ((v3 + 1), o_shift_r))
def fX8_laysShifts_90 (o_shift_r : Nat → Int32) (v4 : Int32) (s0 : Int32) (s1 : Int32) : Option ((Int32 × (Nat → Int32)) ⊕ ((Int32 × (Nat → Int32)) ⊕ ((Int32 × (Nat → Int32)) ⊕ ((Nat → Int32))))) :=
  if ds_in s1 768 = true then some (.inl ((v4 + 1), (upd o_shift_r s1.toNatClampNeg (vp_nar .boolean s0)))) else none
def fX8_laysShifts_89 (o_shift_r : Nat → Int32) (v4 : Int32) (s0 : Int32) : Option ((Int32 × (Nat → Int32)) ⊕ ((Int32 × (Nat → Int32)) ⊕ ((Int32 × (Nat → Int32)) ⊕ ((Nat → Int32))))) :=
  fX8_laysShifts_90 o_shift_r v4 (0 : Int32) s0
def fX8_laysShifts_43_b (o_all_r : Nat → Int32) (o_plans_r : Nat → Int32) (v1 : Int32) (v2 : Int32) (v3 : Int32) (v4 : Int32) (o_shift_r : Nat → Int32) : Option ((Int32 × (Nat → Int32)) ⊕ ((Int32 × (Nat → Int32)) ⊕ ((Int32 × (Nat → Int32)) ⊕ ((Nat → Int32))))) :=
  if (o_all_r (0 : Int32).toNatClampNeg) ≤ v4 then Option.bind (fX8_laysShifts_97 o_shift_r v3) fun z => some (.inr z) else if v2 = 0 then fX8_laysShifts_89 o_shift_r v4 ((((64 : Int32) * v1) + ((8 : Int32) * v3)) + v4) else Option.bind (fX8_isAlike o_all_r o_plans_r v1 v4 v3) fun q79 => if q79 = 0 then fX8_laysShifts_89 o_shift_r v4 ((((64 : Int32) * v1) + ((8 : Int32) * v3)) + v4) else fX8_laysShifts_90 o_shift_r v4 (1 : Int32) ((((64 : Int32) * v1) + ((8 : Int32) * v3)) + v4)
def fX8_laysShifts_43 (o_all_r : Nat → Int32) (o_plans_r : Nat → Int32) (v1 : Int32) (v2 : Int32) (v3 : Int32) (v4 : Int32) (o_shift_r : Nat → Int32) : Option ((Int32 × (Nat → Int32)) ⊕ ((Int32 × (Nat → Int32)) ⊕ ((Nat → Int32)))) := ds_it (fun s => fX8_laysShifts_43_b o_all_r o_plans_r v1 v2 v3 s.1 s.2) 1000 (v4, o_shift_r)
def fX8_laysShifts_30_b (o_all_r : Nat → Int32) (o_plans_r : Nat → Int32) (v1 : Int32) (v2 : Int32) (v3 : Int32) (o_shift_r : Nat → Int32) : Option ((Int32 × (Nat → Int32)) ⊕ ((Int32 × (Nat → Int32)) ⊕ ((Nat → Int32)))) :=
  if (o_all_r (1 : Int32).toNatClampNeg) ≤ v3 then Option.bind (fX8_laysShifts_103 o_shift_r v1) fun z => some (.inr z) else fX8_laysShifts_43 o_all_r o_plans_r v1 v2 v3 (0 : Int32) o_shift_r
def fX8_laysShifts_30 (o_all_r : Nat → Int32) (o_plans_r : Nat → Int32) (v1 : Int32) (v2 : Int32) (v3 : Int32) (o_shift_r : Nat → Int32) : Option ((Int32 × (Nat → Int32)) ⊕ ((Nat → Int32))) := ds_it (fun s => fX8_laysShifts_30_b o_all_r o_plans_r v1 v2 s.1 s.2) 1000 (v3, o_shift_r)
def fX8_laysShifts_27 (o_all_r : Nat → Int32) (o_plans_r : Nat → Int32) (o_shift_r : Nat → Int32) (v1 : Int32) (s0 : Int32) : Option ((Int32 × (Nat → Int32)) ⊕ ((Nat → Int32))) :=
  fX8_laysShifts_30 o_all_r o_plans_r v1 s0 (0 : Int32) o_shift_r
def fX8_laysShifts_22 (o_all_r : Nat → Int32) (o_plans_r : Nat → Int32) (o_shift_r : Nat → Int32) (v1 : Int32) : Option ((Int32 × (Nat → Int32)) ⊕ ((Nat → Int32))) :=
  fX8_laysShifts_27 o_all_r o_plans_r o_shift_r v1 (1 : Int32)
def fX8_laysShifts_2_b (o_all_r : Nat → Int32) (o_plans_r : Nat → Int32) (v1 : Int32) (o_shift_r : Nat → Int32) : Option ((Int32 × (Nat → Int32)) ⊕ ((Nat → Int32))) :=
  Option.bind (fX8_turnings o_all_r) fun q4 => if q4 ≤ v1 then some (.inr o_shift_r) else if v1 = 0 then fX8_laysShifts_22 o_all_r o_plans_r o_shift_r v1 else Option.bind (fX8_mayTurn o_all_r o_plans_r o_shift_r v1) fun q16 => if q16 = 0 then fX8_laysShifts_27 o_all_r o_plans_r o_shift_r v1 (0 : Int32) else fX8_laysShifts_22 o_all_r o_plans_r o_shift_r v1
def fX8_laysShifts_2 (o_all_r : Nat → Int32) (o_plans_r : Nat → Int32) (v1 : Int32) (o_shift_r : Nat → Int32) : Option ((Nat → Int32)) := ds_it (fun s => fX8_laysShifts_2_b o_all_r o_plans_r s.1 s.2) 1000 (v1, o_shift_r)
def fX8_laysShifts (o_all_r : Nat → Int32) (o_plans_r : Nat → Int32) (o_shift_r : Nat → Int32) : Option ((Nat → Int32)) :=
  fX8_laysShifts_2 o_all_r o_plans_r (0 : Int32) o_shift_r
set_option maxHeartbeats 4000000 in
set_option maxRecDepth 100000 in
theorem c_X8_laysShifts (l : Launch) (dC : Nat → ClassId) (dI : Nat → Nat → Nat) (ca : Nat → ClassId) (sa : Nat → Nat) (h_o : Nat) (h_o_plans : Nat) (h_o_makers : Nat) (h_o_halves : Nat) (h_o_all : Nat) (h_o_text : Nat) (h_o_saved : Nat) (h_o_undone : Nat) (h_o_told : Nat) (h_o_shift : Nat) (h_o_rootOf : Nat) (h_o_becomes : Nat) (h_o_comes : Nat) (h_o_next : Nat) (sz : Nat) (o_raised : Int32) (o_undos : Int32) (o_reached : Int32) (o_length : Int32) (o_begin : Int32) (o_letters : Int32) (o_sort : Int32) (o_word : Int64) (o_wrongAt : Int32) (o_badAt : Int32) (o_bad : Int32) (o_firstX : Int32) (o_firstY : Int32) (o_secondX : Int32) (o_secondY : Int32) (o_x : Int32) (o_all_r : Nat → Int32) (o_plans_r : Nat → Int32) (o_shift_r : Nat → Int32) (res : (Nat → Int32)) (hf : fX8_laysShifts o_all_r o_plans_r o_shift_r = some res) : Met l yX8_laysShifts (Cond.code yX8_laysShifts cX8_laysShifts 5 none :: ds_gw) { frames := 4, cells := 0, slots := 0, locals := 91 } (va_Pc [.ref h_o] (ds_Pre dC dI ca sa [(h_o, .inr (7, [.ref h_o_plans, .ref h_o_makers, .ref h_o_halves, .int o_raised, .ref h_o_all, .ref h_o_text, .ref h_o_saved, .ref h_o_undone, .int o_undos, .int o_reached, .int o_length, .int o_begin, .int o_letters, .int o_sort, .long o_word, .int o_wrongAt, .int o_badAt, .int o_bad, .ref h_o_told, .ref h_o_shift, .int o_firstX, .int o_firstY, .int o_secondX, .int o_secondY, .ref h_o_rootOf, .ref h_o_becomes, .ref h_o_comes, .ref h_o_next, .int o_x])), (h_o_all, .inl (ca 0, 350, .inl o_all_r)), (h_o_plans, .inl (ca 0, 80, .inl o_plans_r)), (h_o_shift, .inl (ca 3, 768, .inl o_shift_r))] sz)) (va_Qv (fun (_ : Unit) => True) (ds_B dC dI (va_A [(h_o, .inr (7, [.ref h_o_plans, .ref h_o_makers, .ref h_o_halves, .int o_raised, .ref h_o_all, .ref h_o_text, .ref h_o_saved, .ref h_o_undone, .int o_undos, .int o_reached, .int o_length, .int o_begin, .int o_letters, .int o_sort, .long o_word, .int o_wrongAt, .int o_badAt, .int o_bad, .ref h_o_told, .ref h_o_shift, .int o_firstX, .int o_firstY, .int o_secondX, .int o_secondY, .ref h_o_rootOf, .ref h_o_becomes, .ref h_o_comes, .ref h_o_next, .int o_x])), (h_o_all, .inl (ca 0, 350, .inl o_all_r)), (h_o_plans, .inl (ca 0, 80, .inl o_plans_r)), (h_o_shift, .inl (ca 3, 768, .inl o_shift_r))] sz) [(h_o, .inr (7, [.ref h_o_plans, .ref h_o_makers, .ref h_o_halves, .int o_raised, .ref h_o_all, .ref h_o_text, .ref h_o_saved, .ref h_o_undone, .int o_undos, .int o_reached, .int o_length, .int o_begin, .int o_letters, .int o_sort, .long o_word, .int o_wrongAt, .int o_badAt, .int o_bad, .ref h_o_told, .ref h_o_shift, .int o_firstX, .int o_firstY, .int o_secondX, .int o_secondY, .ref h_o_rootOf, .ref h_o_becomes, .ref h_o_comes, .ref h_o_next, .int o_x])), (h_o_all, .inl (ca 0, 350, .inl o_all_r)), (h_o_plans, .inl (ca 0, 80, .inl o_plans_r)), (h_o_shift, .inl (ca 3, 768, .inl res))]) (va_A [(h_o, .inr (7, [.ref h_o_plans, .ref h_o_makers, .ref h_o_halves, .int o_raised, .ref h_o_all, .ref h_o_text, .ref h_o_saved, .ref h_o_undone, .int o_undos, .int o_reached, .int o_length, .int o_begin, .int o_letters, .int o_sort, .long o_word, .int o_wrongAt, .int o_badAt, .int o_bad, .ref h_o_told, .ref h_o_shift, .int o_firstX, .int o_firstY, .int o_secondX, .int o_secondY, .ref h_o_rootOf, .ref h_o_becomes, .ref h_o_comes, .ref h_o_next, .int o_x])), (h_o_all, .inl (ca 0, 350, .inl o_all_r)), (h_o_plans, .inl (ca 0, 80, .inl o_plans_r)), (h_o_shift, .inl (ca 3, 768, .inl o_shift_r))] sz)) 0 0 (va_A [(h_o, .inr (7, [.ref h_o_plans, .ref h_o_makers, .ref h_o_halves, .int o_raised, .ref h_o_all, .ref h_o_text, .ref h_o_saved, .ref h_o_undone, .int o_undos, .int o_reached, .int o_length, .int o_begin, .int o_letters, .int o_sort, .long o_word, .int o_wrongAt, .int o_badAt, .int o_bad, .ref h_o_told, .ref h_o_shift, .int o_firstX, .int o_firstY, .int o_secondX, .int o_secondY, .ref h_o_rootOf, .ref h_o_becomes, .ref h_o_comes, .ref h_o_next, .int o_x])), (h_o_all, .inl (ca 0, 350, .inl o_all_r)), (h_o_plans, .inl (ca 0, 80, .inl o_plans_r)), (h_o_shift, .inl (ca 3, 768, .inl o_shift_r))] sz) := by
  refine Met.ofW (cc := cX8_laysShifts) (maxL := 5) (ret := none) (by decide) rfl ?_
  intro p e s m args below meth c s₁ B hml hv
  obtain ⟨rfl, hsz, hP, hK, hD0, hE⟩ := hv
  have hx := B.exec
  have hb := B.bytes
  have hr := B.returns
  have hts := atoms_spec (ws := Cond.code yX8_laysShifts cX8_laysShifts 5 none :: ds_gw) B.pre
  have hg : ∀ {w : Cond}, w ∈ ds_gw → w.before _ s = true := fun h => hts _ (List.mem_cons_of_mem _ h)
  have hown : s.vm.findClass RX8 = some m.cls := findClass_of_methodNamed B.named
  have hlocks := B.notSynchronized
  subst hsz
  have hD := hD0.self (sz := s.heap.size)
  generalize hAe : va_A [(h_o, .inr (7, [.ref h_o_plans, .ref h_o_makers, .ref h_o_halves, .int o_raised, .ref h_o_all, .ref h_o_text, .ref h_o_saved, .ref h_o_undone, .int o_undos, .int o_reached, .int o_length, .int o_begin, .int o_letters, .int o_sort, .long o_word, .int o_wrongAt, .int o_badAt, .int o_bad, .ref h_o_told, .ref h_o_shift, .int o_firstX, .int o_firstY, .int o_secondX, .int o_secondY, .ref h_o_rootOf, .ref h_o_becomes, .ref h_o_comes, .ref h_o_next, .int o_x])), (h_o_all, .inl (ca 0, 350, .inl o_all_r)), (h_o_plans, .inl (ca 0, 80, .inl o_plans_r)), (h_o_shift, .inl (ca 3, 768, .inl o_shift_r))] s.heap.size = A at hD hE ⊢
  have hA : ∀ q : Nat, s.heap.size ≤ q → A q := fun q h => by rw [← hAe]; exact Or.inr h
  have hS : va_S A s.heap s.heap [] := va_S.rf
  have hl := lv_entry ([.ref h_o]) (n := 5) (Nat.le_of_ble_eq_true rfl)
  rw [lg_entry_eq]
  generalize (lg_sl ([.ref h_o]) ++ List.replicate (5 - (lg_sl ([.ref h_o])).length) Slot.unset).toArray = ls at hl ⊢
  have hl : lv_has ls 5 [(0, .ref h_o)] := hl
  obtain ⟨G0, eG0⟩ : ∃ G : ((Nat → Int32)) → Prop, G = (fun r => r = res) := ⟨_, rfl⟩
  obtain ⟨rr, hrr⟩ : ∃ z, z = res := ⟨_, rfl⟩
  rw [← hrr] at hf
  have hG : G0 rr := by subst eG0; exact hrr
  refine ds_cap (fun WW h1 h2 => ?_)
  have J_2 : ∀ (n : Nat) (v1 : Int32) (o_shift_r : Nat → Int32) (rr : (Nat → Int32)) (hf : ds_it (fun s => fX8_laysShifts_2_b o_all_r o_plans_r s.1 s.2) n (v1, o_shift_r) = some rr) (hG : G0 rr) (H : Heap) (locs : List Loc) (hP : va_P (dC, dI) vwCl [(h_o, .inr (7, [.ref h_o_plans, .ref h_o_makers, .ref h_o_halves, .int o_raised, .ref h_o_all, .ref h_o_text, .ref h_o_saved, .ref h_o_undone, .int o_undos, .int o_reached, .int o_length, .int o_begin, .int o_letters, .int o_sort, .long o_word, .int o_wrongAt, .int o_badAt, .int o_bad, .ref h_o_told, .ref h_o_shift, .int o_firstX, .int o_firstY, .int o_secondX, .int o_secondY, .ref h_o_rootOf, .ref h_o_becomes, .ref h_o_comes, .ref h_o_next, .int o_x])), (h_o_all, .inl (ca 0, 350, .inl o_all_r)), (h_o_plans, .inl (ca 0, 80, .inl o_plans_r)), (h_o_shift, .inl (ca 3, 768, .inl o_shift_r))] H) (hD : va_D A [(h_o, .inr (7, [.ref h_o_plans, .ref h_o_makers, .ref h_o_halves, .int o_raised, .ref h_o_all, .ref h_o_text, .ref h_o_saved, .ref h_o_undone, .int o_undos, .int o_reached, .int o_length, .int o_begin, .int o_letters, .int o_sort, .long o_word, .int o_wrongAt, .int o_badAt, .int o_bad, .ref h_o_told, .ref h_o_shift, .int o_firstX, .int o_firstY, .int o_secondX, .int o_secondY, .ref h_o_rootOf, .ref h_o_becomes, .ref h_o_comes, .ref h_o_next, .int o_x])), (h_o_all, .inl (ca 0, 350, .inl o_all_r)), (h_o_plans, .inl (ca 0, 80, .inl o_plans_r)), (h_o_shift, .inl (ca 3, 768, .inl o_shift_r))]) (hS : va_S A s.heap H locs) (ls : Array Slot) (hl : lv_has ls 5 [(0, .ref h_o), (1, .int v1)]), WW H locs (F0 m 2 ls []) := by
    intro  n
    induction n with
    | zero => intro v1 o_shift_r rr hf; exact (ds_it_zero hf).elim
    | succ n ih2 =>
      intro v1 o_shift_r rr hf hG H locs hP hD hS ls hl
      refine h2 ?_
      obtain ⟨rr, hf, hG⟩ := ds_it_succ hf hG
      replace hf : fX8_laysShifts_2_b o_all_r o_plans_r v1 o_shift_r = some rr := hf
      obtain ⟨G1, eG1⟩ : ∃ G : ((Int32 × (Nat → Int32)) ⊕ ((Nat → Int32))) → Prop, G = ds_G (fun s' => ∃ r', ds_it (fun s => fX8_laysShifts_2_b o_all_r o_plans_r s.1 s.2) n s' = some r' ∧ G0 r') G0 := ⟨_, rfl⟩
      rw [← eG1] at hG
      have J_103 : ∀ (v1 : Int32) (o_shift_r : Nat → Int32) (rr : (Int32 × (Nat → Int32)) ⊕ ((Nat → Int32))) (hf : fX8_laysShifts_103 o_shift_r v1 = some rr) (hG : G1 rr) (H : Heap) (locs : List Loc) (hP : va_P (dC, dI) vwCl [(h_o, .inr (7, [.ref h_o_plans, .ref h_o_makers, .ref h_o_halves, .int o_raised, .ref h_o_all, .ref h_o_text, .ref h_o_saved, .ref h_o_undone, .int o_undos, .int o_reached, .int o_length, .int o_begin, .int o_letters, .int o_sort, .long o_word, .int o_wrongAt, .int o_badAt, .int o_bad, .ref h_o_told, .ref h_o_shift, .int o_firstX, .int o_firstY, .int o_secondX, .int o_secondY, .ref h_o_rootOf, .ref h_o_becomes, .ref h_o_comes, .ref h_o_next, .int o_x])), (h_o_all, .inl (ca 0, 350, .inl o_all_r)), (h_o_plans, .inl (ca 0, 80, .inl o_plans_r)), (h_o_shift, .inl (ca 3, 768, .inl o_shift_r))] H) (hD : va_D A [(h_o, .inr (7, [.ref h_o_plans, .ref h_o_makers, .ref h_o_halves, .int o_raised, .ref h_o_all, .ref h_o_text, .ref h_o_saved, .ref h_o_undone, .int o_undos, .int o_reached, .int o_length, .int o_begin, .int o_letters, .int o_sort, .long o_word, .int o_wrongAt, .int o_badAt, .int o_bad, .ref h_o_told, .ref h_o_shift, .int o_firstX, .int o_firstY, .int o_secondX, .int o_secondY, .ref h_o_rootOf, .ref h_o_becomes, .ref h_o_comes, .ref h_o_next, .int o_x])), (h_o_all, .inl (ca 0, 350, .inl o_all_r)), (h_o_plans, .inl (ca 0, 80, .inl o_plans_r)), (h_o_shift, .inl (ca 3, 768, .inl o_shift_r))]) (hS : va_S A s.heap H locs) (ls : Array Slot) (hl : lv_has ls 5 [(0, .ref h_o), (1, .int v1)]), WW H locs (F0 m 103 ls []) := by
        intro v1 o_shift_r rr hf hG H locs hP hD hS ls hl
        refine h2 ?_
        unfold fX8_laysShifts_103 at hf
        refine lv_iinc (v := (v1 + 1)) (lv' := [(1, .int (v1 + 1)), (0, .ref h_o)]) hx hb dX8_laysShifts_103 hl (k := 1) rfl rfl (by decide) rfl (fun ls hl => ?_)
        refine lv_goto (tgt := 2) hx hb dX8_laysShifts_106 (by decide) ?_
        have hf := Option.some.inj hf
        subst hf
        rw [eG1] at hG
        obtain ⟨rr, hf, hG⟩ := hG
        exact h1 (ih2 (v1 + 1) o_shift_r rr hf hG _ _ hP hD hS _ (lv_sub hl [1, 0] rfl))
      have J_30 : ∀ (v1 : Int32) (v2 : Int32) (n : Nat) (v3 : Int32) (o_shift_r : Nat → Int32) (rr : (Int32 × (Nat → Int32)) ⊕ ((Nat → Int32))) (hf : ds_it (fun s => fX8_laysShifts_30_b o_all_r o_plans_r v1 v2 s.1 s.2) n (v3, o_shift_r) = some rr) (hG : G1 rr) (H : Heap) (locs : List Loc) (hP : va_P (dC, dI) vwCl [(h_o, .inr (7, [.ref h_o_plans, .ref h_o_makers, .ref h_o_halves, .int o_raised, .ref h_o_all, .ref h_o_text, .ref h_o_saved, .ref h_o_undone, .int o_undos, .int o_reached, .int o_length, .int o_begin, .int o_letters, .int o_sort, .long o_word, .int o_wrongAt, .int o_badAt, .int o_bad, .ref h_o_told, .ref h_o_shift, .int o_firstX, .int o_firstY, .int o_secondX, .int o_secondY, .ref h_o_rootOf, .ref h_o_becomes, .ref h_o_comes, .ref h_o_next, .int o_x])), (h_o_all, .inl (ca 0, 350, .inl o_all_r)), (h_o_plans, .inl (ca 0, 80, .inl o_plans_r)), (h_o_shift, .inl (ca 3, 768, .inl o_shift_r))] H) (hD : va_D A [(h_o, .inr (7, [.ref h_o_plans, .ref h_o_makers, .ref h_o_halves, .int o_raised, .ref h_o_all, .ref h_o_text, .ref h_o_saved, .ref h_o_undone, .int o_undos, .int o_reached, .int o_length, .int o_begin, .int o_letters, .int o_sort, .long o_word, .int o_wrongAt, .int o_badAt, .int o_bad, .ref h_o_told, .ref h_o_shift, .int o_firstX, .int o_firstY, .int o_secondX, .int o_secondY, .ref h_o_rootOf, .ref h_o_becomes, .ref h_o_comes, .ref h_o_next, .int o_x])), (h_o_all, .inl (ca 0, 350, .inl o_all_r)), (h_o_plans, .inl (ca 0, 80, .inl o_plans_r)), (h_o_shift, .inl (ca 3, 768, .inl o_shift_r))]) (hS : va_S A s.heap H locs) (ls : Array Slot) (hl : lv_has ls 5 [(0, .ref h_o), (1, .int v1), (2, .int v2), (3, .int v3)]), WW H locs (F0 m 30 ls []) := by
        intro v1 v2 n
        induction n with
        | zero => intro v3 o_shift_r rr hf; exact (ds_it_zero hf).elim
        | succ n ih30 =>
          intro v3 o_shift_r rr hf hG H locs hP hD hS ls hl
          refine h2 ?_
          obtain ⟨rr, hf, hG⟩ := ds_it_succ hf hG
          replace hf : fX8_laysShifts_30_b o_all_r o_plans_r v1 v2 v3 o_shift_r = some rr := hf
          obtain ⟨G2, eG2⟩ : ∃ G : ((Int32 × (Nat → Int32)) ⊕ ((Int32 × (Nat → Int32)) ⊕ ((Nat → Int32)))) → Prop, G = ds_G (fun s' => ∃ r', ds_it (fun s => fX8_laysShifts_30_b o_all_r o_plans_r v1 v2 s.1 s.2) n s' = some r' ∧ G1 r') G1 := ⟨_, rfl⟩
          rw [← eG2] at hG
          have J_97 : ∀ (v3 : Int32) (o_shift_r : Nat → Int32) (rr : (Int32 × (Nat → Int32)) ⊕ ((Int32 × (Nat → Int32)) ⊕ ((Nat → Int32)))) (hf : fX8_laysShifts_97 o_shift_r v3 = some rr) (hG : G2 rr) (H : Heap) (locs : List Loc) (hP : va_P (dC, dI) vwCl [(h_o, .inr (7, [.ref h_o_plans, .ref h_o_makers, .ref h_o_halves, .int o_raised, .ref h_o_all, .ref h_o_text, .ref h_o_saved, .ref h_o_undone, .int o_undos, .int o_reached, .int o_length, .int o_begin, .int o_letters, .int o_sort, .long o_word, .int o_wrongAt, .int o_badAt, .int o_bad, .ref h_o_told, .ref h_o_shift, .int o_firstX, .int o_firstY, .int o_secondX, .int o_secondY, .ref h_o_rootOf, .ref h_o_becomes, .ref h_o_comes, .ref h_o_next, .int o_x])), (h_o_all, .inl (ca 0, 350, .inl o_all_r)), (h_o_plans, .inl (ca 0, 80, .inl o_plans_r)), (h_o_shift, .inl (ca 3, 768, .inl o_shift_r))] H) (hD : va_D A [(h_o, .inr (7, [.ref h_o_plans, .ref h_o_makers, .ref h_o_halves, .int o_raised, .ref h_o_all, .ref h_o_text, .ref h_o_saved, .ref h_o_undone, .int o_undos, .int o_reached, .int o_length, .int o_begin, .int o_letters, .int o_sort, .long o_word, .int o_wrongAt, .int o_badAt, .int o_bad, .ref h_o_told, .ref h_o_shift, .int o_firstX, .int o_firstY, .int o_secondX, .int o_secondY, .ref h_o_rootOf, .ref h_o_becomes, .ref h_o_comes, .ref h_o_next, .int o_x])), (h_o_all, .inl (ca 0, 350, .inl o_all_r)), (h_o_plans, .inl (ca 0, 80, .inl o_plans_r)), (h_o_shift, .inl (ca 3, 768, .inl o_shift_r))]) (hS : va_S A s.heap H locs) (ls : Array Slot) (hl : lv_has ls 5 [(0, .ref h_o), (1, .int v1), (2, .int v2), (3, .int v3)]), WW H locs (F0 m 97 ls []) := by
            intro v3 o_shift_r rr hf hG H locs hP hD hS ls hl
            refine h2 ?_
            unfold fX8_laysShifts_97 at hf
            refine lv_iinc (v := (v3 + 1)) (lv' := [(3, .int (v3 + 1)), (0, .ref h_o), (1, .int v1), (2, .int v2)]) hx hb dX8_laysShifts_97 hl (k := 3) rfl rfl (by decide) rfl (fun ls hl => ?_)
            refine lv_goto (tgt := 30) hx hb dX8_laysShifts_100 (by decide) ?_
            have hf := Option.some.inj hf
            subst hf
            rw [eG2] at hG
            obtain ⟨rr, hf, hG⟩ := hG
            exact h1 (ih30 (v3 + 1) o_shift_r rr hf hG _ _ hP hD hS _ (lv_sub hl [1, 2, 3, 0] rfl))
          have J_43 : ∀ (v3 : Int32) (n : Nat) (v4 : Int32) (o_shift_r : Nat → Int32) (rr : (Int32 × (Nat → Int32)) ⊕ ((Int32 × (Nat → Int32)) ⊕ ((Nat → Int32)))) (hf : ds_it (fun s => fX8_laysShifts_43_b o_all_r o_plans_r v1 v2 v3 s.1 s.2) n (v4, o_shift_r) = some rr) (hG : G2 rr) (H : Heap) (locs : List Loc) (hP : va_P (dC, dI) vwCl [(h_o, .inr (7, [.ref h_o_plans, .ref h_o_makers, .ref h_o_halves, .int o_raised, .ref h_o_all, .ref h_o_text, .ref h_o_saved, .ref h_o_undone, .int o_undos, .int o_reached, .int o_length, .int o_begin, .int o_letters, .int o_sort, .long o_word, .int o_wrongAt, .int o_badAt, .int o_bad, .ref h_o_told, .ref h_o_shift, .int o_firstX, .int o_firstY, .int o_secondX, .int o_secondY, .ref h_o_rootOf, .ref h_o_becomes, .ref h_o_comes, .ref h_o_next, .int o_x])), (h_o_all, .inl (ca 0, 350, .inl o_all_r)), (h_o_plans, .inl (ca 0, 80, .inl o_plans_r)), (h_o_shift, .inl (ca 3, 768, .inl o_shift_r))] H) (hD : va_D A [(h_o, .inr (7, [.ref h_o_plans, .ref h_o_makers, .ref h_o_halves, .int o_raised, .ref h_o_all, .ref h_o_text, .ref h_o_saved, .ref h_o_undone, .int o_undos, .int o_reached, .int o_length, .int o_begin, .int o_letters, .int o_sort, .long o_word, .int o_wrongAt, .int o_badAt, .int o_bad, .ref h_o_told, .ref h_o_shift, .int o_firstX, .int o_firstY, .int o_secondX, .int o_secondY, .ref h_o_rootOf, .ref h_o_becomes, .ref h_o_comes, .ref h_o_next, .int o_x])), (h_o_all, .inl (ca 0, 350, .inl o_all_r)), (h_o_plans, .inl (ca 0, 80, .inl o_plans_r)), (h_o_shift, .inl (ca 3, 768, .inl o_shift_r))]) (hS : va_S A s.heap H locs) (ls : Array Slot) (hl : lv_has ls 5 [(0, .ref h_o), (1, .int v1), (2, .int v2), (3, .int v3), (4, .int v4)]), WW H locs (F0 m 43 ls []) := by
            intro v3 n
            induction n with
            | zero => intro v4 o_shift_r rr hf; exact (ds_it_zero hf).elim
            | succ n ih43 =>
              intro v4 o_shift_r rr hf hG H locs hP hD hS ls hl
              refine h2 ?_
              obtain ⟨rr, hf, hG⟩ := ds_it_succ hf hG
              replace hf : fX8_laysShifts_43_b o_all_r o_plans_r v1 v2 v3 v4 o_shift_r = some rr := hf
              obtain ⟨G3, eG3⟩ : ∃ G : ((Int32 × (Nat → Int32)) ⊕ ((Int32 × (Nat → Int32)) ⊕ ((Int32 × (Nat → Int32)) ⊕ ((Nat → Int32))))) → Prop, G = ds_G (fun s' => ∃ r', ds_it (fun s => fX8_laysShifts_43_b o_all_r o_plans_r v1 v2 v3 s.1 s.2) n s' = some r' ∧ G2 r') G2 := ⟨_, rfl⟩
              rw [← eG3] at hG
              have J_90 : ∀ (v4 : Int32) (s0 : Int32) (s1 : Int32) (o_shift_r : Nat → Int32) (rr : (Int32 × (Nat → Int32)) ⊕ ((Int32 × (Nat → Int32)) ⊕ ((Int32 × (Nat → Int32)) ⊕ ((Nat → Int32))))) (hf : fX8_laysShifts_90 o_shift_r v4 s0 s1 = some rr) (hG : G3 rr) (H : Heap) (locs : List Loc) (hP : va_P (dC, dI) vwCl [(h_o, .inr (7, [.ref h_o_plans, .ref h_o_makers, .ref h_o_halves, .int o_raised, .ref h_o_all, .ref h_o_text, .ref h_o_saved, .ref h_o_undone, .int o_undos, .int o_reached, .int o_length, .int o_begin, .int o_letters, .int o_sort, .long o_word, .int o_wrongAt, .int o_badAt, .int o_bad, .ref h_o_told, .ref h_o_shift, .int o_firstX, .int o_firstY, .int o_secondX, .int o_secondY, .ref h_o_rootOf, .ref h_o_becomes, .ref h_o_comes, .ref h_o_next, .int o_x])), (h_o_all, .inl (ca 0, 350, .inl o_all_r)), (h_o_plans, .inl (ca 0, 80, .inl o_plans_r)), (h_o_shift, .inl (ca 3, 768, .inl o_shift_r))] H) (hD : va_D A [(h_o, .inr (7, [.ref h_o_plans, .ref h_o_makers, .ref h_o_halves, .int o_raised, .ref h_o_all, .ref h_o_text, .ref h_o_saved, .ref h_o_undone, .int o_undos, .int o_reached, .int o_length, .int o_begin, .int o_letters, .int o_sort, .long o_word, .int o_wrongAt, .int o_badAt, .int o_bad, .ref h_o_told, .ref h_o_shift, .int o_firstX, .int o_firstY, .int o_secondX, .int o_secondY, .ref h_o_rootOf, .ref h_o_becomes, .ref h_o_comes, .ref h_o_next, .int o_x])), (h_o_all, .inl (ca 0, 350, .inl o_all_r)), (h_o_plans, .inl (ca 0, 80, .inl o_plans_r)), (h_o_shift, .inl (ca 3, 768, .inl o_shift_r))]) (hS : va_S A s.heap H locs) (ls : Array Slot) (hl : lv_has ls 5 [(0, .ref h_o), (1, .int v1), (2, .int v2), (3, .int v3), (4, .int v4)]), WW H locs (F0 m 90 ls [.int s0, .int s1, .ref h_o_shift]) := by
                intro v4 s0 s1 o_shift_r rr hf hG H locs hP hD hS ls hl
                refine h2 ?_
                unfold fX8_laysShifts_90 at hf
                obtain ⟨i_90, hf⟩ := ds_ci hf
                refine va_zast hx hb hK hP hD hS 3 3 rfl rfl i_90 dX8_laysShifts_90 (fun H locs hP hD hS => ?_)
                have hP : va_P (dC, dI) vwCl [(h_o, .inr (7, [.ref h_o_plans, .ref h_o_makers, .ref h_o_halves, .int o_raised, .ref h_o_all, .ref h_o_text, .ref h_o_saved, .ref h_o_undone, .int o_undos, .int o_reached, .int o_length, .int o_begin, .int o_letters, .int o_sort, .long o_word, .int o_wrongAt, .int o_badAt, .int o_bad, .ref h_o_told, .ref h_o_shift, .int o_firstX, .int o_firstY, .int o_secondX, .int o_secondY, .ref h_o_rootOf, .ref h_o_becomes, .ref h_o_comes, .ref h_o_next, .int o_x])), (h_o_all, .inl (ca 0, 350, .inl o_all_r)), (h_o_plans, .inl (ca 0, 80, .inl o_plans_r)), (h_o_shift, .inl (ca 3, 768, .inl (upd o_shift_r s1.toNatClampNeg (vp_nar .boolean s0))))] H := hP
                have hD : va_D A [(h_o, .inr (7, [.ref h_o_plans, .ref h_o_makers, .ref h_o_halves, .int o_raised, .ref h_o_all, .ref h_o_text, .ref h_o_saved, .ref h_o_undone, .int o_undos, .int o_reached, .int o_length, .int o_begin, .int o_letters, .int o_sort, .long o_word, .int o_wrongAt, .int o_badAt, .int o_bad, .ref h_o_told, .ref h_o_shift, .int o_firstX, .int o_firstY, .int o_secondX, .int o_secondY, .ref h_o_rootOf, .ref h_o_becomes, .ref h_o_comes, .ref h_o_next, .int o_x])), (h_o_all, .inl (ca 0, 350, .inl o_all_r)), (h_o_plans, .inl (ca 0, 80, .inl o_plans_r)), (h_o_shift, .inl (ca 3, 768, .inl (upd o_shift_r s1.toNatClampNeg (vp_nar .boolean s0))))] := hD
                refine lv_iinc (v := (v4 + 1)) (lv' := [(4, .int (v4 + 1)), (0, .ref h_o), (1, .int v1), (2, .int v2), (3, .int v3)]) hx hb dX8_laysShifts_91 hl (k := 4) rfl rfl (by decide) rfl (fun ls hl => ?_)
                refine lv_goto (tgt := 43) hx hb dX8_laysShifts_94 (by decide) ?_
                have hf := Option.some.inj hf
                subst hf
                rw [eG3] at hG
                obtain ⟨rr, hf, hG⟩ := hG
                exact h1 (ih43 (v4 + 1) (upd o_shift_r s1.toNatClampNeg (vp_nar .boolean s0)) rr hf hG _ _ hP hD hS _ (lv_sub hl [1, 2, 3, 4, 0] rfl))
              have J_89 : ∀ (v4 : Int32) (s0 : Int32) (o_shift_r : Nat → Int32) (rr : (Int32 × (Nat → Int32)) ⊕ ((Int32 × (Nat → Int32)) ⊕ ((Int32 × (Nat → Int32)) ⊕ ((Nat → Int32))))) (hf : fX8_laysShifts_89 o_shift_r v4 s0 = some rr) (hG : G3 rr) (H : Heap) (locs : List Loc) (hP : va_P (dC, dI) vwCl [(h_o, .inr (7, [.ref h_o_plans, .ref h_o_makers, .ref h_o_halves, .int o_raised, .ref h_o_all, .ref h_o_text, .ref h_o_saved, .ref h_o_undone, .int o_undos, .int o_reached, .int o_length, .int o_begin, .int o_letters, .int o_sort, .long o_word, .int o_wrongAt, .int o_badAt, .int o_bad, .ref h_o_told, .ref h_o_shift, .int o_firstX, .int o_firstY, .int o_secondX, .int o_secondY, .ref h_o_rootOf, .ref h_o_becomes, .ref h_o_comes, .ref h_o_next, .int o_x])), (h_o_all, .inl (ca 0, 350, .inl o_all_r)), (h_o_plans, .inl (ca 0, 80, .inl o_plans_r)), (h_o_shift, .inl (ca 3, 768, .inl o_shift_r))] H) (hD : va_D A [(h_o, .inr (7, [.ref h_o_plans, .ref h_o_makers, .ref h_o_halves, .int o_raised, .ref h_o_all, .ref h_o_text, .ref h_o_saved, .ref h_o_undone, .int o_undos, .int o_reached, .int o_length, .int o_begin, .int o_letters, .int o_sort, .long o_word, .int o_wrongAt, .int o_badAt, .int o_bad, .ref h_o_told, .ref h_o_shift, .int o_firstX, .int o_firstY, .int o_secondX, .int o_secondY, .ref h_o_rootOf, .ref h_o_becomes, .ref h_o_comes, .ref h_o_next, .int o_x])), (h_o_all, .inl (ca 0, 350, .inl o_all_r)), (h_o_plans, .inl (ca 0, 80, .inl o_plans_r)), (h_o_shift, .inl (ca 3, 768, .inl o_shift_r))]) (hS : va_S A s.heap H locs) (ls : Array Slot) (hl : lv_has ls 5 [(0, .ref h_o), (1, .int v1), (2, .int v2), (3, .int v3), (4, .int v4)]), WW H locs (F0 m 89 ls [.int s0, .ref h_o_shift]) := by
                intro v4 s0 o_shift_r rr hf hG H locs hP hD hS ls hl
                refine h2 ?_
                unfold fX8_laysShifts_89 at hf
                refine lv_iconst (v := 0) hx hb dX8_laysShifts_89 (by decide) ?_
                exact h1 (J_90 v4 (0 : Int32) s0 o_shift_r _ hf hG _ _ hP hD hS _ (lv_sub hl [0, 1, 2, 3, 4] rfl))
              unfold fX8_laysShifts_43_b at hf
              refine lv_iload hx hb dX8_laysShifts_43 (lv_at hl 4 rfl) ?_
              refine lv_aload_n hx hb dX8_laysShifts_45 rfl (lv_at hl 0 rfl) ?_
              refine va_get (D := (dC, dI)) (ci := 7) (v := .ref h_o_all) (C := RX8) (T := TX8) (N := 29) hx hb hts (fun w h => List.mem_cons_of_mem _ (kc_X8 w h)) hown hK hP 0 rfl rfl 4 (by decide) (hg kw_594) (fun _ h9 => h9) rfl dX8_laysShifts_46 ?_
              refine lv_iconst (v := 0) hx hb dX8_laysShifts_49 (by decide) ?_
              refine va_iald hx hb hK hP 1 0 rfl rfl (ds_in_ok (i := 0) (n := 350) (by decide)) dX8_laysShifts_50 ?_
              refine lv_icmp_ge (tgt := 97) hx hb dX8_laysShifts_51 (by decide) (fun c_51 => ?_) (fun c_51 => ?_)
              · replace hf := ds_t c_51 hf
                obtain ⟨rr, hr_0, hf⟩ := ds_ob hf
                have hf := Option.some.inj hf
                subst hf
                rw [eG3] at hG
                replace hG : G2 rr := hG
                have hf := hr_0
                exact h1 (J_97 v3 o_shift_r _ hf hG _ _ hP hD hS _ (lv_sub hl [0, 1, 2, 3] rfl))
              · replace hf := ds_f c_51 hf
                refine lv_aload_n hx hb dX8_laysShifts_54 rfl (lv_at hl 0 rfl) ?_
                refine va_get (D := (dC, dI)) (ci := 7) (v := .ref h_o_shift) (C := RX8) (T := TX8) (N := 29) hx hb hts (fun w h => List.mem_cons_of_mem _ (kc_X8 w h)) hown hK hP 0 rfl rfl 19 (by decide) (hg kw_650) (fun _ h9 => h9) rfl dX8_laysShifts_55 ?_
                refine lv_bipush (v := 64) hx hb dX8_laysShifts_58 (by decide) ?_
                refine lv_iload_n hx hb dX8_laysShifts_60 rfl (lv_at hl 1 rfl) ?_
                refine lv_imul hx hb dX8_laysShifts_61 ?_
                refine lv_bipush (v := 8) hx hb dX8_laysShifts_62 (by decide) ?_
                refine lv_iload_n hx hb dX8_laysShifts_64 rfl (lv_at hl 3 rfl) ?_
                refine lv_imul hx hb dX8_laysShifts_65 ?_
                refine lv_iadd hx hb dX8_laysShifts_66 ?_
                refine lv_iload hx hb dX8_laysShifts_67 (lv_at hl 4 rfl) ?_
                refine lv_iadd hx hb dX8_laysShifts_69 ?_
                refine lv_iload_n hx hb dX8_laysShifts_70 rfl (lv_at hl 2 rfl) ?_
                refine lv_if_eq (tgt := 89) hx hb dX8_laysShifts_71 (by decide) (fun c_71 => ?_) (fun c_71 => ?_)
                · replace hf := ds_t c_71 hf
                  exact h1 (J_89 v4 ((((64 : Int32) * v1) + ((8 : Int32) * v3)) + v4) o_shift_r _ hf hG _ _ hP hD hS _ (lv_sub hl [0, 1, 2, 3, 4] rfl))
                · replace hf := ds_f c_71 hf
                  refine lv_aload_n hx hb dX8_laysShifts_74 rfl (lv_at hl 0 rfl) ?_
                  refine lv_iload_n hx hb dX8_laysShifts_75 rfl (lv_at hl 1 rfl) ?_
                  refine lv_iload hx hb dX8_laysShifts_76 (lv_at hl 4 rfl) ?_
                  refine lv_iload_n hx hb dX8_laysShifts_78 rfl (lv_at hl 3 rfl) ?_
                  obtain ⟨q79, hq79, hf⟩ := ds_ob hf
                  refine ds_calli (wr := [(h_o_shift, .inl (ca 3, 768, .inl o_shift_r))]) (va_runV (As := [.int v1, .int v4, .int v3]) (rest := [.int ((((64 : Int32) * v1) + ((8 : Int32) * v3)) + v4), .ref h_o_shift]) ⟨hx, hb, hml, hown, hts⟩ (c_X8_isAlike l dC dI ca sa h_o h_o_plans h_o_makers h_o_halves h_o_all h_o_text h_o_saved h_o_undone h_o_told h_o_shift h_o_rootOf h_o_becomes h_o_comes h_o_next H.size o_raised o_undos o_reached o_length o_begin o_letters o_sort o_word o_wrongAt o_badAt o_bad o_firstX o_firstY o_secondX o_secondY o_x o_all_r o_plans_r v1 v4 v3 q79 hq79) (cwV 3 hts (ds_gV kw_667 kw_668 kw_669 kw_597 kw_670) rfl rfl rfl (by decide +kernel) ⟨Nat.le_of_ble_eq_true rfl, Nat.le_of_ble_eq_true rfl⟩) ⟨ds_blind, va_recv hK hP (ci := 7) (q0 := 0) rfl rfl, ds_at hP hD hK hE hS hA [0, 1, 2] rfl rfl _⟩ rfl rfl hl.1 rfl (lv_room (Nat.le_of_ble_eq_true rfl)) dX8_laysShifts_79 ⟨Nat.zero_le _, Nat.zero_le _⟩) hP hD hS hA [0, 1, 2] [3] rfl rfl rfl (by decide) (fun H locs hP hD hS => ?_)
                  have hP : va_P (dC, dI) vwCl [(h_o_shift, .inl (ca 3, 768, .inl o_shift_r)), (h_o, .inr (7, [.ref h_o_plans, .ref h_o_makers, .ref h_o_halves, .int o_raised, .ref h_o_all, .ref h_o_text, .ref h_o_saved, .ref h_o_undone, .int o_undos, .int o_reached, .int o_length, .int o_begin, .int o_letters, .int o_sort, .long o_word, .int o_wrongAt, .int o_badAt, .int o_bad, .ref h_o_told, .ref h_o_shift, .int o_firstX, .int o_firstY, .int o_secondX, .int o_secondY, .ref h_o_rootOf, .ref h_o_becomes, .ref h_o_comes, .ref h_o_next, .int o_x])), (h_o_all, .inl (ca 0, 350, .inl o_all_r)), (h_o_plans, .inl (ca 0, 80, .inl o_plans_r))] H := hP
                  have hD : va_D A [(h_o_shift, .inl (ca 3, 768, .inl o_shift_r)), (h_o, .inr (7, [.ref h_o_plans, .ref h_o_makers, .ref h_o_halves, .int o_raised, .ref h_o_all, .ref h_o_text, .ref h_o_saved, .ref h_o_undone, .int o_undos, .int o_reached, .int o_length, .int o_begin, .int o_letters, .int o_sort, .long o_word, .int o_wrongAt, .int o_badAt, .int o_bad, .ref h_o_told, .ref h_o_shift, .int o_firstX, .int o_firstY, .int o_secondX, .int o_secondY, .ref h_o_rootOf, .ref h_o_becomes, .ref h_o_comes, .ref h_o_next, .int o_x])), (h_o_all, .inl (ca 0, 350, .inl o_all_r)), (h_o_plans, .inl (ca 0, 80, .inl o_plans_r))] := hD
                  refine lv_if_eq (tgt := 89) hx hb dX8_laysShifts_82 (by decide) (fun c_82 => ?_) (fun c_82 => ?_)
                  · replace hf := ds_t c_82 hf
                    exact h1 (J_89 v4 ((((64 : Int32) * v1) + ((8 : Int32) * v3)) + v4) o_shift_r _ hf hG _ _ (hP.sub [1, 2, 3, 0] rfl) (hD.sub [1, 2, 3, 0] rfl rfl) hS _ (lv_sub hl [0, 1, 2, 3, 4] rfl))
                  · replace hf := ds_f c_82 hf
                    refine lv_iconst (v := 1) hx hb dX8_laysShifts_85 (by decide) ?_
                    refine lv_goto (tgt := 90) hx hb dX8_laysShifts_86 (by decide) ?_
                    exact h1 (J_90 v4 (1 : Int32) ((((64 : Int32) * v1) + ((8 : Int32) * v3)) + v4) o_shift_r _ hf hG _ _ (hP.sub [1, 2, 3, 0] rfl) (hD.sub [1, 2, 3, 0] rfl rfl) hS _ (lv_sub hl [0, 1, 2, 3, 4] rfl))
          unfold fX8_laysShifts_30_b at hf
          refine lv_iload_n hx hb dX8_laysShifts_30 rfl (lv_at hl 3 rfl) ?_
          refine lv_aload_n hx hb dX8_laysShifts_31 rfl (lv_at hl 0 rfl) ?_
          refine va_get (D := (dC, dI)) (ci := 7) (v := .ref h_o_all) (C := RX8) (T := TX8) (N := 29) hx hb hts (fun w h => List.mem_cons_of_mem _ (kc_X8 w h)) hown hK hP 0 rfl rfl 4 (by decide) (hg kw_594) (fun _ h9 => h9) rfl dX8_laysShifts_32 ?_
          refine lv_iconst (v := 1) hx hb dX8_laysShifts_35 (by decide) ?_
          refine va_iald hx hb hK hP 1 0 rfl rfl (ds_in_ok (i := 1) (n := 350) (by decide)) dX8_laysShifts_36 ?_
          refine lv_icmp_ge (tgt := 103) hx hb dX8_laysShifts_37 (by decide) (fun c_37 => ?_) (fun c_37 => ?_)
          · replace hf := ds_t c_37 hf
            obtain ⟨rr, hr_0, hf⟩ := ds_ob hf
            have hf := Option.some.inj hf
            subst hf
            rw [eG2] at hG
            replace hG : G1 rr := hG
            have hf := hr_0
            exact h1 (J_103 v1 o_shift_r _ hf hG _ _ hP hD hS _ (lv_sub hl [0, 1] rfl))
          · replace hf := ds_f c_37 hf
            refine lv_iconst (v := 0) hx hb dX8_laysShifts_40 (by decide) ?_
            refine lv_istore (lv' := [(4, .int (0 : Int32)), (0, .ref h_o), (1, .int v1), (2, .int v2), (3, .int v3)]) hx hb dX8_laysShifts_41 hl (by decide) rfl (fun ls hl => ?_)
            exact h1 (J_43 v3 1000 (0 : Int32) o_shift_r _ hf hG _ _ hP hD hS _ (lv_sub hl [1, 2, 3, 4, 0] rfl))
      have J_27 : ∀ (v1 : Int32) (s0 : Int32) (o_shift_r : Nat → Int32) (rr : (Int32 × (Nat → Int32)) ⊕ ((Nat → Int32))) (hf : fX8_laysShifts_27 o_all_r o_plans_r o_shift_r v1 s0 = some rr) (hG : G1 rr) (H : Heap) (locs : List Loc) (hP : va_P (dC, dI) vwCl [(h_o, .inr (7, [.ref h_o_plans, .ref h_o_makers, .ref h_o_halves, .int o_raised, .ref h_o_all, .ref h_o_text, .ref h_o_saved, .ref h_o_undone, .int o_undos, .int o_reached, .int o_length, .int o_begin, .int o_letters, .int o_sort, .long o_word, .int o_wrongAt, .int o_badAt, .int o_bad, .ref h_o_told, .ref h_o_shift, .int o_firstX, .int o_firstY, .int o_secondX, .int o_secondY, .ref h_o_rootOf, .ref h_o_becomes, .ref h_o_comes, .ref h_o_next, .int o_x])), (h_o_all, .inl (ca 0, 350, .inl o_all_r)), (h_o_plans, .inl (ca 0, 80, .inl o_plans_r)), (h_o_shift, .inl (ca 3, 768, .inl o_shift_r))] H) (hD : va_D A [(h_o, .inr (7, [.ref h_o_plans, .ref h_o_makers, .ref h_o_halves, .int o_raised, .ref h_o_all, .ref h_o_text, .ref h_o_saved, .ref h_o_undone, .int o_undos, .int o_reached, .int o_length, .int o_begin, .int o_letters, .int o_sort, .long o_word, .int o_wrongAt, .int o_badAt, .int o_bad, .ref h_o_told, .ref h_o_shift, .int o_firstX, .int o_firstY, .int o_secondX, .int o_secondY, .ref h_o_rootOf, .ref h_o_becomes, .ref h_o_comes, .ref h_o_next, .int o_x])), (h_o_all, .inl (ca 0, 350, .inl o_all_r)), (h_o_plans, .inl (ca 0, 80, .inl o_plans_r)), (h_o_shift, .inl (ca 3, 768, .inl o_shift_r))]) (hS : va_S A s.heap H locs) (ls : Array Slot) (hl : lv_has ls 5 [(0, .ref h_o), (1, .int v1)]), WW H locs (F0 m 27 ls [.int s0]) := by
        intro v1 s0 o_shift_r rr hf hG H locs hP hD hS ls hl
        refine h2 ?_
        unfold fX8_laysShifts_27 at hf
        refine lv_istore_n (lv' := [(2, .int s0), (0, .ref h_o), (1, .int v1)]) hx hb dX8_laysShifts_27 rfl hl (by decide) rfl (fun ls hl => ?_)
        refine lv_iconst (v := 0) hx hb dX8_laysShifts_28 (by decide) ?_
        refine lv_istore_n (lv' := [(3, .int (0 : Int32)), (2, .int s0), (0, .ref h_o), (1, .int v1)]) hx hb dX8_laysShifts_29 rfl hl (by decide) rfl (fun ls hl => ?_)
        exact h1 (J_30 v1 s0 1000 (0 : Int32) o_shift_r _ hf hG _ _ hP hD hS _ (lv_sub hl [2, 3, 1, 0] rfl))
      have J_22 : ∀ (v1 : Int32) (o_shift_r : Nat → Int32) (rr : (Int32 × (Nat → Int32)) ⊕ ((Nat → Int32))) (hf : fX8_laysShifts_22 o_all_r o_plans_r o_shift_r v1 = some rr) (hG : G1 rr) (H : Heap) (locs : List Loc) (hP : va_P (dC, dI) vwCl [(h_o, .inr (7, [.ref h_o_plans, .ref h_o_makers, .ref h_o_halves, .int o_raised, .ref h_o_all, .ref h_o_text, .ref h_o_saved, .ref h_o_undone, .int o_undos, .int o_reached, .int o_length, .int o_begin, .int o_letters, .int o_sort, .long o_word, .int o_wrongAt, .int o_badAt, .int o_bad, .ref h_o_told, .ref h_o_shift, .int o_firstX, .int o_firstY, .int o_secondX, .int o_secondY, .ref h_o_rootOf, .ref h_o_becomes, .ref h_o_comes, .ref h_o_next, .int o_x])), (h_o_all, .inl (ca 0, 350, .inl o_all_r)), (h_o_plans, .inl (ca 0, 80, .inl o_plans_r)), (h_o_shift, .inl (ca 3, 768, .inl o_shift_r))] H) (hD : va_D A [(h_o, .inr (7, [.ref h_o_plans, .ref h_o_makers, .ref h_o_halves, .int o_raised, .ref h_o_all, .ref h_o_text, .ref h_o_saved, .ref h_o_undone, .int o_undos, .int o_reached, .int o_length, .int o_begin, .int o_letters, .int o_sort, .long o_word, .int o_wrongAt, .int o_badAt, .int o_bad, .ref h_o_told, .ref h_o_shift, .int o_firstX, .int o_firstY, .int o_secondX, .int o_secondY, .ref h_o_rootOf, .ref h_o_becomes, .ref h_o_comes, .ref h_o_next, .int o_x])), (h_o_all, .inl (ca 0, 350, .inl o_all_r)), (h_o_plans, .inl (ca 0, 80, .inl o_plans_r)), (h_o_shift, .inl (ca 3, 768, .inl o_shift_r))]) (hS : va_S A s.heap H locs) (ls : Array Slot) (hl : lv_has ls 5 [(0, .ref h_o), (1, .int v1)]), WW H locs (F0 m 22 ls []) := by
        intro v1 o_shift_r rr hf hG H locs hP hD hS ls hl
        refine h2 ?_
        unfold fX8_laysShifts_22 at hf
        refine lv_iconst (v := 1) hx hb dX8_laysShifts_22 (by decide) ?_
        refine lv_goto (tgt := 27) hx hb dX8_laysShifts_23 (by decide) ?_
        exact h1 (J_27 v1 (1 : Int32) o_shift_r _ hf hG _ _ hP hD hS _ (lv_sub hl [0, 1] rfl))
      unfold fX8_laysShifts_2_b at hf
      refine lv_iload_n hx hb dX8_laysShifts_2 rfl (lv_at hl 1 rfl) ?_
      refine lv_aload_n hx hb dX8_laysShifts_3 rfl (lv_at hl 0 rfl) ?_
      obtain ⟨q4, hq4, hf⟩ := ds_ob hf
      refine ds_calli (wr := [(h_o_plans, .inl (ca 0, 80, .inl o_plans_r)), (h_o_shift, .inl (ca 3, 768, .inl o_shift_r))]) (va_runV (As := []) (rest := [.int v1]) ⟨hx, hb, hml, hown, hts⟩ (c_X8_turnings l dC dI ca sa h_o h_o_plans h_o_makers h_o_halves h_o_all h_o_text h_o_saved h_o_undone h_o_told h_o_shift h_o_rootOf h_o_becomes h_o_comes h_o_next H.size o_raised o_undos o_reached o_length o_begin o_letters o_sort o_word o_wrongAt o_badAt o_bad o_firstX o_firstY o_secondX o_secondY o_x o_all_r  q4 hq4) (cwV 0 hts (ds_gV kw_604 kw_605 kw_606 kw_597 kw_607) rfl rfl rfl (by decide +kernel) ⟨Nat.le_of_ble_eq_true rfl, Nat.le_of_ble_eq_true rfl⟩) ⟨ds_blind, va_recv hK hP (ci := 7) (q0 := 0) rfl rfl, ds_at hP hD hK hE hS hA [0, 1] rfl rfl _⟩ rfl rfl hl.1 rfl (lv_room (Nat.le_of_ble_eq_true rfl)) dX8_laysShifts_4 ⟨Nat.zero_le _, Nat.zero_le _⟩) hP hD hS hA [0, 1] [2, 3] rfl rfl rfl (by decide) (fun H locs hP hD hS => ?_)
      have hP : va_P (dC, dI) vwCl [(h_o_plans, .inl (ca 0, 80, .inl o_plans_r)), (h_o_shift, .inl (ca 3, 768, .inl o_shift_r)), (h_o, .inr (7, [.ref h_o_plans, .ref h_o_makers, .ref h_o_halves, .int o_raised, .ref h_o_all, .ref h_o_text, .ref h_o_saved, .ref h_o_undone, .int o_undos, .int o_reached, .int o_length, .int o_begin, .int o_letters, .int o_sort, .long o_word, .int o_wrongAt, .int o_badAt, .int o_bad, .ref h_o_told, .ref h_o_shift, .int o_firstX, .int o_firstY, .int o_secondX, .int o_secondY, .ref h_o_rootOf, .ref h_o_becomes, .ref h_o_comes, .ref h_o_next, .int o_x])), (h_o_all, .inl (ca 0, 350, .inl o_all_r))] H := hP
      have hD : va_D A [(h_o_plans, .inl (ca 0, 80, .inl o_plans_r)), (h_o_shift, .inl (ca 3, 768, .inl o_shift_r)), (h_o, .inr (7, [.ref h_o_plans, .ref h_o_makers, .ref h_o_halves, .int o_raised, .ref h_o_all, .ref h_o_text, .ref h_o_saved, .ref h_o_undone, .int o_undos, .int o_reached, .int o_length, .int o_begin, .int o_letters, .int o_sort, .long o_word, .int o_wrongAt, .int o_badAt, .int o_bad, .ref h_o_told, .ref h_o_shift, .int o_firstX, .int o_firstY, .int o_secondX, .int o_secondY, .ref h_o_rootOf, .ref h_o_becomes, .ref h_o_comes, .ref h_o_next, .int o_x])), (h_o_all, .inl (ca 0, 350, .inl o_all_r))] := hD
      refine lv_icmp_ge (tgt := 109) hx hb dX8_laysShifts_7 (by decide) (fun c_7 => ?_) (fun c_7 => ?_)
      · replace hf := ds_t c_7 hf
        have hf := Option.some.inj hf
        subst hf
        rw [eG1] at hG
        replace hG : G0 _ := hG
        rw [eG0] at hG
        have hG : _ = res := hG
        subst hG
        exact W.vret hx hb hr (fun t ht hW => ⟨⟨(), rfl, trivial, by rw [ht]; exact (hP.sub [2, 3, 0, 1] rfl), (hD.sub [2, 3, 0, 1] rfl rfl)⟩, hS.F ht⟩) hS.2.2 dX8_laysShifts_109
      · replace hf := ds_f c_7 hf
        refine lv_iload_n hx hb dX8_laysShifts_10 rfl (lv_at hl 1 rfl) ?_
        refine lv_if_eq (tgt := 22) hx hb dX8_laysShifts_11 (by decide) (fun c_11 => ?_) (fun c_11 => ?_)
        · replace hf := ds_t c_11 hf
          exact h1 (J_22 v1 o_shift_r _ hf hG _ _ (hP.sub [2, 3, 0, 1] rfl) (hD.sub [2, 3, 0, 1] rfl rfl) hS _ (lv_sub hl [0, 1] rfl))
        · replace hf := ds_f c_11 hf
          refine lv_aload_n hx hb dX8_laysShifts_14 rfl (lv_at hl 0 rfl) ?_
          refine lv_iload_n hx hb dX8_laysShifts_15 rfl (lv_at hl 1 rfl) ?_
          obtain ⟨q16, hq16, hf⟩ := ds_ob hf
          refine ds_calli (wr := []) (va_runV (As := [.int v1]) (rest := []) ⟨hx, hb, hml, hown, hts⟩ (c_X8_mayTurn l dC dI ca sa h_o h_o_plans h_o_makers h_o_halves h_o_all h_o_text h_o_saved h_o_undone h_o_told h_o_shift h_o_rootOf h_o_becomes h_o_comes h_o_next H.size o_raised o_undos o_reached o_length o_begin o_letters o_sort o_word o_wrongAt o_badAt o_bad o_firstX o_firstY o_secondX o_secondY o_x o_all_r o_plans_r o_shift_r v1 q16 hq16) (cwV 1 hts (ds_gV kw_671 kw_672 kw_673 kw_597 kw_674) rfl rfl rfl (by decide +kernel) ⟨Nat.le_of_ble_eq_true rfl, Nat.le_of_ble_eq_true rfl⟩) ⟨ds_blind, va_recv hK hP (ci := 7) (q0 := 2) rfl rfl, ds_at hP hD hK hE hS hA [2, 3, 0, 1] rfl rfl _⟩ rfl rfl hl.1 rfl (lv_room (Nat.le_of_ble_eq_true rfl)) dX8_laysShifts_16 ⟨Nat.zero_le _, Nat.zero_le _⟩) hP hD hS hA [2, 3, 0, 1] [] rfl rfl rfl (by decide) (fun H locs hP hD hS => ?_)
          have hP : va_P (dC, dI) vwCl [(h_o, .inr (7, [.ref h_o_plans, .ref h_o_makers, .ref h_o_halves, .int o_raised, .ref h_o_all, .ref h_o_text, .ref h_o_saved, .ref h_o_undone, .int o_undos, .int o_reached, .int o_length, .int o_begin, .int o_letters, .int o_sort, .long o_word, .int o_wrongAt, .int o_badAt, .int o_bad, .ref h_o_told, .ref h_o_shift, .int o_firstX, .int o_firstY, .int o_secondX, .int o_secondY, .ref h_o_rootOf, .ref h_o_becomes, .ref h_o_comes, .ref h_o_next, .int o_x])), (h_o_all, .inl (ca 0, 350, .inl o_all_r)), (h_o_plans, .inl (ca 0, 80, .inl o_plans_r)), (h_o_shift, .inl (ca 3, 768, .inl o_shift_r))] H := hP
          have hD : va_D A [(h_o, .inr (7, [.ref h_o_plans, .ref h_o_makers, .ref h_o_halves, .int o_raised, .ref h_o_all, .ref h_o_text, .ref h_o_saved, .ref h_o_undone, .int o_undos, .int o_reached, .int o_length, .int o_begin, .int o_letters, .int o_sort, .long o_word, .int o_wrongAt, .int o_badAt, .int o_bad, .ref h_o_told, .ref h_o_shift, .int o_firstX, .int o_firstY, .int o_secondX, .int o_secondY, .ref h_o_rootOf, .ref h_o_becomes, .ref h_o_comes, .ref h_o_next, .int o_x])), (h_o_all, .inl (ca 0, 350, .inl o_all_r)), (h_o_plans, .inl (ca 0, 80, .inl o_plans_r)), (h_o_shift, .inl (ca 3, 768, .inl o_shift_r))] := hD
          refine lv_if_eq (tgt := 26) hx hb dX8_laysShifts_19 (by decide) (fun c_19 => ?_) (fun c_19 => ?_)
          · replace hf := ds_t c_19 hf
            refine lv_iconst (v := 0) hx hb dX8_laysShifts_26 (by decide) ?_
            exact h1 (J_27 v1 (0 : Int32) o_shift_r _ hf hG _ _ hP hD hS _ (lv_sub hl [0, 1] rfl))
          · replace hf := ds_f c_19 hf
            exact h1 (J_22 v1 o_shift_r _ hf hG _ _ hP hD hS _ (lv_sub hl [0, 1] rfl))
  unfold fX8_laysShifts at hf
  refine lv_iconst (v := 0) hx hb dX8_laysShifts_0 (by decide) ?_
  refine lv_istore_n (lv' := [(1, .int (0 : Int32)), (0, .ref h_o)]) hx hb dX8_laysShifts_1 rfl hl (by decide) rfl (fun ls hl => ?_)
  exact h1 (J_2  1000 (0 : Int32) o_shift_r _ hf hG _ _ hP hD hS _ (lv_sub hl [1, 0] rfl))
