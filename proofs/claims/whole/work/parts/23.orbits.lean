theorem dX2_maker_0 : decode cX2_maker 0 = .ok (.bipush 6, 2) := by decide +kernel
theorem dX2_maker_2 : decode cX2_maker 2 = .ok (.iload_n 0, 1) := by decide +kernel
theorem dX2_maker_3 : decode cX2_maker 3 = .ok (.imul, 1) := by decide +kernel
theorem dX2_maker_4 : decode cX2_maker 4 = .ok (.iload_n 1, 1) := by decide +kernel
theorem dX2_maker_5 : decode cX2_maker 5 = .ok (.iadd, 1) := by decide +kernel
theorem dX2_maker_6 : decode cX2_maker 6 = .ok (.istore_n 2, 1) := by decide +kernel
theorem dX2_maker_7 : decode cX2_maker 7 = .ok (.iload_n 2, 1) := by decide +kernel
theorem dX2_maker_8 : decode cX2_maker 8 = .ok (.ifCond .lt 19, 3) := by decide +kernel
theorem dX2_maker_11 : decode cX2_maker 11 = .ok (.iload_n 2, 1) := by decide +kernel
theorem dX2_maker_12 : decode cX2_maker 12 = .ok (.getstatic 15, 3) := by decide +kernel
theorem dX2_maker_15 : decode cX2_maker 15 = .ok (.arraylength, 1) := by decide +kernel
theorem dX2_maker_16 : decode cX2_maker 16 = .ok (.if_icmp .ge 11, 3) := by decide +kernel
theorem dX2_maker_19 : decode cX2_maker 19 = .ok (.getstatic 15, 3) := by decide +kernel
theorem dX2_maker_22 : decode cX2_maker 22 = .ok (.iload_n 2, 1) := by decide +kernel
theorem dX2_maker_23 : decode cX2_maker 23 = .ok (.iaload, 1) := by decide +kernel
theorem dX2_maker_24 : decode cX2_maker 24 = .ok (.goto 4, 3) := by decide +kernel
theorem dX2_maker_27 : decode cX2_maker 27 = .ok (.iconst 0, 1) := by decide +kernel
theorem dX2_maker_28 : decode cX2_maker 28 = .ok (.ireturn, 1) := by decide +kernel
def fX2_maker (p1 : Int32) (p2 : Int32) : Option (Int32) :=
  if (((6 : Int32) * p1) + p2) < 0 then some (0 : Int32) else if (102 : Int32) ≤ (((6 : Int32) * p1) + p2) then some (0 : Int32) else if ds_in (((6 : Int32) * p1) + p2) 102 = true then some (ds_makF (((6 : Int32) * p1) + p2).toNatClampNeg) else none
set_option maxHeartbeats 4000000 in
set_option maxRecDepth 100000 in
theorem c_X2_maker (l : Launch) (dC : Nat → ClassId) (dI : Nat → Nat → Nat) (ca : Nat → ClassId) (sa : Nat → Nat) (sz : Nat) (p1 : Int32) (p2 : Int32) (res : Int32) (hf : fX2_maker p1 p2 = some res) : Met l yX2_maker (Cond.code yX2_maker cX2_maker 3 (some .int) :: ds_gw) { frames := 0, cells := 0, slots := 0, locals := 0 } (va_Pc [.int p1, .int p2] (ds_Pre dC dI ca sa [] sz)) (va_Qi (fun r (_ : Unit) => r = res) (ds_B dC dI (va_A [] sz) []) (va_A [] sz)) 0 0 (va_A [] sz) := by
  refine Met.ofW (cc := cX2_maker) (maxL := 3) (ret := (some .int)) (by decide) rfl ?_
  intro p e s m args below meth c s₁ B hml hv
  obtain ⟨rfl, hsz, hP, hK, hD0, hE⟩ := hv
  have hx := B.exec
  have hb := B.bytes
  have hr := B.returns
  have hts := atoms_spec (ws := Cond.code yX2_maker cX2_maker 3 (some .int) :: ds_gw) B.pre
  have hg : ∀ {w : Cond}, w ∈ ds_gw → w.before _ s = true := fun h => hts _ (List.mem_cons_of_mem _ h)
  have hown : s.vm.findClass RX2 = some m.cls := findClass_of_methodNamed B.named
  have hlocks := B.notSynchronized
  subst hsz
  have hD := hD0.self (sz := s.heap.size)
  generalize hAe : va_A [] s.heap.size = A at hD hE ⊢
  have hA : ∀ q : Nat, s.heap.size ≤ q → A q := fun q h => by rw [← hAe]; exact Or.inr h
  have hS : va_S A s.heap s.heap [] := va_S.rf
  have hl := lv_entry ([.int p1, .int p2]) (n := 3) (Nat.le_of_ble_eq_true rfl)
  rw [lg_entry_eq]
  generalize (lg_sl ([.int p1, .int p2]) ++ List.replicate (3 - (lg_sl ([.int p1, .int p2])).length) Slot.unset).toArray = ls at hl ⊢
  have hl : lv_has ls 3 [(0, .int p1), (1, .int p2)] := hl
  obtain ⟨G0, eG0⟩ : ∃ G : Int32 → Prop, G = (fun r => r = res) := ⟨_, rfl⟩
  obtain ⟨rr, hrr⟩ : ∃ z, z = res := ⟨_, rfl⟩
  rw [← hrr] at hf
  have hG : G0 rr := by subst eG0; exact hrr
  unfold fX2_maker at hf
  refine lv_bipush (v := 6) hx hb dX2_maker_0 (by decide) ?_
  refine lv_iload_n hx hb dX2_maker_2 rfl (lv_at hl 0 rfl) ?_
  refine lv_imul hx hb dX2_maker_3 ?_
  refine lv_iload_n hx hb dX2_maker_4 rfl (lv_at hl 1 rfl) ?_
  refine lv_iadd hx hb dX2_maker_5 ?_
  refine lv_istore_n (lv' := [(2, .int (((6 : Int32) * p1) + p2)), (0, .int p1), (1, .int p2)]) hx hb dX2_maker_6 rfl hl (by decide) rfl (fun ls hl => ?_)
  refine lv_iload_n hx hb dX2_maker_7 rfl (lv_at hl 0 rfl) ?_
  refine lv_if_lt (tgt := 27) hx hb dX2_maker_8 (by decide) (fun c_8 => ?_) (fun c_8 => ?_)
  · replace hf := ds_t c_8 hf
    refine lv_iconst (v := 0) hx hb dX2_maker_27 (by decide) ?_
    have hf := Option.some.inj hf
    subst hf
    rw [eG0] at hG
    have hG : _ = res := hG
    subst hG
    exact W.iret (v := (0 : Int32)) hx hb hr (fun t ht hW => ⟨⟨(0 : Int32), (), rfl, rfl, by rw [ht]; exact hP, hD⟩, hS.F ht⟩) hS.2.2 dX2_maker_28
  · replace hf := ds_f c_8 hf
    refine lv_iload_n hx hb dX2_maker_11 rfl (lv_at hl 0 rfl) ?_
    refine va_gets (C := RX2) (n := "MAKERS") (d := "[I") (v := .ref (sa 2)) hx hb hE.2.2.2.1.1 hS hown (hg kw_269) (fun _ h9 => h9) dX2_maker_12 ?_
    refine va_tlen (v := 102) hx hb hE.2.2.2.1.2 hS rfl dX2_maker_15 ?_
    refine lv_icmp_ge (tgt := 27) hx hb dX2_maker_16 (by decide) (fun c_16 => ?_) (fun c_16 => ?_)
    · replace hf := ds_t c_16 hf
      refine lv_iconst (v := 0) hx hb dX2_maker_27 (by decide) ?_
      have hf := Option.some.inj hf
      subst hf
      rw [eG0] at hG
      have hG : _ = res := hG
      subst hG
      exact W.iret (v := (0 : Int32)) hx hb hr (fun t ht hW => ⟨⟨(0 : Int32), (), rfl, rfl, by rw [ht]; exact hP, hD⟩, hS.F ht⟩) hS.2.2 dX2_maker_28
    · replace hf := ds_f c_16 hf
      refine va_gets (C := RX2) (n := "MAKERS") (d := "[I") (v := .ref (sa 2)) hx hb hE.2.2.2.1.1 hS hown (hg kw_269) (fun _ h9 => h9) dX2_maker_19 ?_
      refine lv_iload_n hx hb dX2_maker_22 rfl (lv_at hl 0 rfl) ?_
      obtain ⟨i_23, hf⟩ := ds_ci hf
      refine va_ti (v := .int (ds_makF (((6 : Int32) * p1) + p2).toNatClampNeg)) hx hb hE.2.2.2.1.2 hS i_23 rfl dX2_maker_23 ?_
      refine lv_goto (tgt := 28) hx hb dX2_maker_24 (by decide) ?_
      have hf := Option.some.inj hf
      subst hf
      rw [eG0] at hG
      have hG : _ = res := hG
      subst hG
      exact W.iret (v := (ds_makF (((6 : Int32) * p1) + p2).toNatClampNeg)) hx hb hr (fun t ht hW => ⟨⟨(ds_makF (((6 : Int32) * p1) + p2).toNatClampNeg), (), rfl, rfl, by rw [ht]; exact hP, hD⟩, hS.F ht⟩) hS.2.2 dX2_maker_28
theorem dX2_fits_0 : decode cX2_fits 0 = .ok (.iload_n 0, 1) := by decide +kernel
theorem dX2_fits_1 : decode cX2_fits 1 = .ok (.iconst 1, 1) := by decide +kernel
theorem dX2_fits_2 : decode cX2_fits 2 = .ok (.invokestatic 19, 3) := by decide +kernel
theorem dX2_fits_5 : decode cX2_fits 5 = .ok (.iload_n 0, 1) := by decide +kernel
theorem dX2_fits_6 : decode cX2_fits 6 = .ok (.iconst 2, 1) := by decide +kernel
theorem dX2_fits_7 : decode cX2_fits 7 = .ok (.invokestatic 19, 3) := by decide +kernel
theorem dX2_fits_10 : decode cX2_fits 10 = .ok (.iadd, 1) := by decide +kernel
theorem dX2_fits_11 : decode cX2_fits 11 = .ok (.iload_n 0, 1) := by decide +kernel
theorem dX2_fits_12 : decode cX2_fits 12 = .ok (.iconst 4, 1) := by decide +kernel
theorem dX2_fits_13 : decode cX2_fits 13 = .ok (.invokestatic 19, 3) := by decide +kernel
theorem dX2_fits_16 : decode cX2_fits 16 = .ok (.iadd, 1) := by decide +kernel
theorem dX2_fits_17 : decode cX2_fits 17 = .ok (.iload_n 0, 1) := by decide +kernel
theorem dX2_fits_18 : decode cX2_fits 18 = .ok (.iconst 5, 1) := by decide +kernel
theorem dX2_fits_19 : decode cX2_fits 19 = .ok (.invokestatic 19, 3) := by decide +kernel
theorem dX2_fits_22 : decode cX2_fits 22 = .ok (.iadd, 1) := by decide +kernel
theorem dX2_fits_23 : decode cX2_fits 23 = .ok (.istore_n 2, 1) := by decide +kernel
theorem dX2_fits_24 : decode cX2_fits 24 = .ok (.iload_n 2, 1) := by decide +kernel
theorem dX2_fits_25 : decode cX2_fits 25 = .ok (.ifCond .eq 9, 3) := by decide +kernel
theorem dX2_fits_28 : decode cX2_fits 28 = .ok (.iload_n 1, 1) := by decide +kernel
theorem dX2_fits_29 : decode cX2_fits 29 = .ok (.iconst 2, 1) := by decide +kernel
theorem dX2_fits_30 : decode cX2_fits 30 = .ok (.irem, 1) := by decide +kernel
theorem dX2_fits_31 : decode cX2_fits 31 = .ok (.ifCond .ne 7, 3) := by decide +kernel
theorem dX2_fits_34 : decode cX2_fits 34 = .ok (.iconst 1, 1) := by decide +kernel
theorem dX2_fits_35 : decode cX2_fits 35 = .ok (.goto 4, 3) := by decide +kernel
theorem dX2_fits_38 : decode cX2_fits 38 = .ok (.iconst 0, 1) := by decide +kernel
theorem dX2_fits_39 : decode cX2_fits 39 = .ok (.ireturn, 1) := by decide +kernel
def fX2_fits_34 : Option (Int32) :=
  some (1 : Int32)
def fX2_fits (p1 : Int32) (p2 : Int32) : Option (Int32) :=
  Option.bind (fX2_maker p1 (1 : Int32)) fun q2 => Option.bind (fX2_maker p1 (2 : Int32)) fun q7 => Option.bind (fX2_maker p1 (4 : Int32)) fun q13 => Option.bind (fX2_maker p1 (5 : Int32)) fun q19 => if (((q2 + q7) + q13) + q19) = 0 then fX2_fits_34 else if (ds_rem p2 (2 : Int32)) = 0 then fX2_fits_34 else some (0 : Int32)
set_option maxHeartbeats 4000000 in
set_option maxRecDepth 100000 in
theorem c_X2_fits (l : Launch) (dC : Nat → ClassId) (dI : Nat → Nat → Nat) (ca : Nat → ClassId) (sa : Nat → Nat) (sz : Nat) (p1 : Int32) (p2 : Int32) (res : Int32) (hf : fX2_fits p1 p2 = some res) : Met l yX2_fits (Cond.code yX2_fits cX2_fits 3 (some .boolean) :: ds_gw) { frames := 1, cells := 0, slots := 0, locals := 22 } (va_Pc [.int p1, .int p2] (ds_Pre dC dI ca sa [] sz)) (va_Qi (fun r (_ : Unit) => r = res) (ds_B dC dI (va_A [] sz) []) (va_A [] sz)) 0 0 (va_A [] sz) := by
  refine Met.ofW (cc := cX2_fits) (maxL := 3) (ret := (some .boolean)) (by decide) rfl ?_
  intro p e s m args below meth c s₁ B hml hv
  obtain ⟨rfl, hsz, hP, hK, hD0, hE⟩ := hv
  have hx := B.exec
  have hb := B.bytes
  have hr := B.returns
  have hts := atoms_spec (ws := Cond.code yX2_fits cX2_fits 3 (some .boolean) :: ds_gw) B.pre
  have hg : ∀ {w : Cond}, w ∈ ds_gw → w.before _ s = true := fun h => hts _ (List.mem_cons_of_mem _ h)
  have hown : s.vm.findClass RX2 = some m.cls := findClass_of_methodNamed B.named
  have hlocks := B.notSynchronized
  subst hsz
  have hD := hD0.self (sz := s.heap.size)
  generalize hAe : va_A [] s.heap.size = A at hD hE ⊢
  have hA : ∀ q : Nat, s.heap.size ≤ q → A q := fun q h => by rw [← hAe]; exact Or.inr h
  have hS : va_S A s.heap s.heap [] := va_S.rf
  have hl := lv_entry ([.int p1, .int p2]) (n := 3) (Nat.le_of_ble_eq_true rfl)
  rw [lg_entry_eq]
  generalize (lg_sl ([.int p1, .int p2]) ++ List.replicate (3 - (lg_sl ([.int p1, .int p2])).length) Slot.unset).toArray = ls at hl ⊢
  have hl : lv_has ls 3 [(0, .int p1), (1, .int p2)] := hl
  obtain ⟨G0, eG0⟩ : ∃ G : Int32 → Prop, G = (fun r => r = res) := ⟨_, rfl⟩
  obtain ⟨rr, hrr⟩ : ∃ z, z = res := ⟨_, rfl⟩
  rw [← hrr] at hf
  have hG : G0 rr := by subst eG0; exact hrr
  refine ds_cap (fun WW h1 h2 => ?_)
  have J_34 : ∀ (rr : Int32) (hf : fX2_fits_34 = some rr) (hG : G0 rr) (H : Heap) (locs : List Loc) (hP : va_P (dC, dI) vwCl [] H) (hD : va_D A []) (hS : va_S A s.heap H locs) (ls : Array Slot) (hl : lv_has ls 3 []), WW H locs (F0 m 34 ls []) := by
    intro  rr hf hG H locs hP hD hS ls hl
    refine h2 ?_
    unfold fX2_fits_34 at hf
    refine lv_iconst (v := 1) hx hb dX2_fits_34 (by decide) ?_
    refine lv_goto (tgt := 39) hx hb dX2_fits_35 (by decide) ?_
    have hf := Option.some.inj hf
    subst hf
    rw [eG0] at hG
    have hG : _ = res := hG
    subst hG
    exact W.zret (v := (1 : Int32)) (ty := .boolean) hx hb hr rfl (fun t ht hW => ⟨⟨(1 : Int32), (), rfl, rfl, by rw [ht]; exact hP, hD⟩, hS.F ht⟩) hS.2.2 dX2_fits_39
  unfold fX2_fits at hf
  refine lv_iload_n hx hb dX2_fits_0 rfl (lv_at hl 0 rfl) ?_
  refine lv_iconst (v := 1) hx hb dX2_fits_1 (by decide) ?_
  obtain ⟨q2, hq2, hf⟩ := ds_ob hf
  refine ds_calli (wr := []) (va_runS (As := [.int p1, .int (1 : Int32)]) (rest := []) ⟨hx, hb, hml, hown, hts⟩ (c_X2_maker l dC dI ca sa  s.heap.size  p1 (1 : Int32) q2 hq2) (va_cwS 2 hts (ds_gS kw_270 kw_271 kw_272 kw_273) rfl rfl rfl (by decide +kernel) ⟨Nat.le_of_ble_eq_true rfl, Nat.le_of_ble_eq_true rfl⟩) ⟨ds_blind, ds_at hP hD hK hE hS hA [] rfl rfl _⟩ rfl rfl hl.1 rfl (lv_room (Nat.le_of_ble_eq_true rfl)) dX2_fits_2 ⟨Nat.zero_le _, Nat.zero_le _⟩) hP hD hS hA [] [] rfl rfl rfl (by decide) (fun H locs hP hD hS => ?_)
  have hP : va_P (dC, dI) vwCl [] H := hP
  have hD : va_D A [] := hD
  refine lv_iload_n hx hb dX2_fits_5 rfl (lv_at hl 0 rfl) ?_
  refine lv_iconst (v := 2) hx hb dX2_fits_6 (by decide) ?_
  obtain ⟨q7, hq7, hf⟩ := ds_ob hf
  refine ds_calli (wr := []) (va_runS (As := [.int p1, .int (2 : Int32)]) (rest := [.int q2]) ⟨hx, hb, hml, hown, hts⟩ (c_X2_maker l dC dI ca sa  H.size  p1 (2 : Int32) q7 hq7) (va_cwS 2 hts (ds_gS kw_270 kw_271 kw_272 kw_273) rfl rfl rfl (by decide +kernel) ⟨Nat.le_of_ble_eq_true rfl, Nat.le_of_ble_eq_true rfl⟩) ⟨ds_blind, ds_at hP hD hK hE hS hA [] rfl rfl _⟩ rfl rfl hl.1 rfl (lv_room (Nat.le_of_ble_eq_true rfl)) dX2_fits_7 ⟨Nat.zero_le _, Nat.zero_le _⟩) hP hD hS hA [] [] rfl rfl rfl (by decide) (fun H locs hP hD hS => ?_)
  have hP : va_P (dC, dI) vwCl [] H := hP
  have hD : va_D A [] := hD
  refine lv_iadd hx hb dX2_fits_10 ?_
  refine lv_iload_n hx hb dX2_fits_11 rfl (lv_at hl 0 rfl) ?_
  refine lv_iconst (v := 4) hx hb dX2_fits_12 (by decide) ?_
  obtain ⟨q13, hq13, hf⟩ := ds_ob hf
  refine ds_calli (wr := []) (va_runS (As := [.int p1, .int (4 : Int32)]) (rest := [.int (q2 + q7)]) ⟨hx, hb, hml, hown, hts⟩ (c_X2_maker l dC dI ca sa  H.size  p1 (4 : Int32) q13 hq13) (va_cwS 2 hts (ds_gS kw_270 kw_271 kw_272 kw_273) rfl rfl rfl (by decide +kernel) ⟨Nat.le_of_ble_eq_true rfl, Nat.le_of_ble_eq_true rfl⟩) ⟨ds_blind, ds_at hP hD hK hE hS hA [] rfl rfl _⟩ rfl rfl hl.1 rfl (lv_room (Nat.le_of_ble_eq_true rfl)) dX2_fits_13 ⟨Nat.zero_le _, Nat.zero_le _⟩) hP hD hS hA [] [] rfl rfl rfl (by decide) (fun H locs hP hD hS => ?_)
  have hP : va_P (dC, dI) vwCl [] H := hP
  have hD : va_D A [] := hD
  refine lv_iadd hx hb dX2_fits_16 ?_
  refine lv_iload_n hx hb dX2_fits_17 rfl (lv_at hl 0 rfl) ?_
  refine lv_iconst (v := 5) hx hb dX2_fits_18 (by decide) ?_
  obtain ⟨q19, hq19, hf⟩ := ds_ob hf
  refine ds_calli (wr := []) (va_runS (As := [.int p1, .int (5 : Int32)]) (rest := [.int ((q2 + q7) + q13)]) ⟨hx, hb, hml, hown, hts⟩ (c_X2_maker l dC dI ca sa  H.size  p1 (5 : Int32) q19 hq19) (va_cwS 2 hts (ds_gS kw_270 kw_271 kw_272 kw_273) rfl rfl rfl (by decide +kernel) ⟨Nat.le_of_ble_eq_true rfl, Nat.le_of_ble_eq_true rfl⟩) ⟨ds_blind, ds_at hP hD hK hE hS hA [] rfl rfl _⟩ rfl rfl hl.1 rfl (lv_room (Nat.le_of_ble_eq_true rfl)) dX2_fits_19 ⟨Nat.zero_le _, Nat.zero_le _⟩) hP hD hS hA [] [] rfl rfl rfl (by decide) (fun H locs hP hD hS => ?_)
  have hP : va_P (dC, dI) vwCl [] H := hP
  have hD : va_D A [] := hD
  refine lv_iadd hx hb dX2_fits_22 ?_
  refine lv_istore_n (lv' := [(2, .int (((q2 + q7) + q13) + q19)), (0, .int p1), (1, .int p2)]) hx hb dX2_fits_23 rfl hl (by decide) rfl (fun ls hl => ?_)
  refine lv_iload_n hx hb dX2_fits_24 rfl (lv_at hl 0 rfl) ?_
  refine lv_if_eq (tgt := 34) hx hb dX2_fits_25 (by decide) (fun c_25 => ?_) (fun c_25 => ?_)
  · replace hf := ds_t c_25 hf
    exact h1 (J_34  _ hf hG _ _ hP hD hS _ (lv_sub hl [] rfl))
  · replace hf := ds_f c_25 hf
    refine lv_iload_n hx hb dX2_fits_28 rfl (lv_at hl 2 rfl) ?_
    refine lv_iconst (v := 2) hx hb dX2_fits_29 (by decide) ?_
    refine lv_irem hx hb dX2_fits_30 (by decide) ?_
    refine lv_if_ne (tgt := 38) hx hb dX2_fits_31 (by decide) (fun c_31 => ?_) (fun c_31 => ?_)
    · replace hf := ds_f c_31 hf
      refine lv_iconst (v := 0) hx hb dX2_fits_38 (by decide) ?_
      have hf := Option.some.inj hf
      subst hf
      rw [eG0] at hG
      have hG : _ = res := hG
      subst hG
      exact W.zret (v := (0 : Int32)) (ty := .boolean) hx hb hr rfl (fun t ht hW => ⟨⟨(0 : Int32), (), rfl, rfl, by rw [ht]; exact hP, hD⟩, hS.F ht⟩) hS.2.2 dX2_fits_39
    · replace hf := ds_t c_31 hf
      exact h1 (J_34  _ hf hG _ _ hP hD hS _ (lv_sub hl [] rfl))
theorem dX2_startingAt_0 : decode cX2_startingAt 0 = .ok (.iload_n 1, 1) := by decide +kernel
theorem dX2_startingAt_1 : decode cX2_startingAt 1 = .ok (.ifCond .lt 21, 3) := by decide +kernel
theorem dX2_startingAt_4 : decode cX2_startingAt 4 = .ok (.iload_n 1, 1) := by decide +kernel
theorem dX2_startingAt_5 : decode cX2_startingAt 5 = .ok (.aload_n 0, 1) := by decide +kernel
theorem dX2_startingAt_6 : decode cX2_startingAt 6 = .ok (.getfield 9, 3) := by decide +kernel
theorem dX2_startingAt_9 : decode cX2_startingAt 9 = .ok (.arraylength, 1) := by decide +kernel
theorem dX2_startingAt_10 : decode cX2_startingAt 10 = .ok (.if_icmp .ge 12, 3) := by decide +kernel
theorem dX2_startingAt_13 : decode cX2_startingAt 13 = .ok (.aload_n 0, 1) := by decide +kernel
theorem dX2_startingAt_14 : decode cX2_startingAt 14 = .ok (.getfield 9, 3) := by decide +kernel
theorem dX2_startingAt_17 : decode cX2_startingAt 17 = .ok (.iload_n 1, 1) := by decide +kernel
theorem dX2_startingAt_18 : decode cX2_startingAt 18 = .ok (.laload, 1) := by decide +kernel
theorem dX2_startingAt_19 : decode cX2_startingAt 19 = .ok (.goto 4, 3) := by decide +kernel
theorem dX2_startingAt_22 : decode cX2_startingAt 22 = .ok (.lconst 0, 1) := by decide +kernel
theorem dX2_startingAt_23 : decode cX2_startingAt 23 = .ok (.lreturn, 1) := by decide +kernel
def fX2_startingAt (o_members_r : Nat → Int64) (p1 : Int32) : Option (Int64) :=
  if p1 < 0 then some (0 : Int64) else if (64 : Int32) ≤ p1 then some (0 : Int64) else if ds_in p1 64 = true then some (o_members_r p1.toNatClampNeg) else none
set_option maxHeartbeats 4000000 in
set_option maxRecDepth 100000 in
theorem c_X2_startingAt (l : Launch) (dC : Nat → ClassId) (dI : Nat → Nat → Nat) (ca : Nat → ClassId) (sa : Nat → Nat) (h_o : Nat) (h_o_members : Nat) (sz : Nat) (o_size : Int32) (o_members_r : Nat → Int64) (p1 : Int32) (res : Int64) (hf : fX2_startingAt o_members_r p1 = some res) : Met l yX2_startingAt (Cond.code yX2_startingAt cX2_startingAt 2 (some .long) :: ds_gw) { frames := 0, cells := 0, slots := 0, locals := 0 } (va_Pc [.ref h_o, .int p1] (ds_Pre dC dI ca sa [(h_o, .inr (1, [.ref h_o_members, .int o_size])), (h_o_members, .inl (ca 1, 64, .inr (.inl o_members_r)))] sz)) (va_Ql (fun r (_ : Unit) => r = res) (ds_B dC dI (va_A [(h_o, .inr (1, [.ref h_o_members, .int o_size])), (h_o_members, .inl (ca 1, 64, .inr (.inl o_members_r)))] sz) [(h_o, .inr (1, [.ref h_o_members, .int o_size])), (h_o_members, .inl (ca 1, 64, .inr (.inl o_members_r)))]) (va_A [(h_o, .inr (1, [.ref h_o_members, .int o_size])), (h_o_members, .inl (ca 1, 64, .inr (.inl o_members_r)))] sz)) 0 0 (va_A [(h_o, .inr (1, [.ref h_o_members, .int o_size])), (h_o_members, .inl (ca 1, 64, .inr (.inl o_members_r)))] sz) := by
  refine Met.ofW (cc := cX2_startingAt) (maxL := 2) (ret := (some .long)) (by decide) rfl ?_
  intro p e s m args below meth c s₁ B hml hv
  obtain ⟨rfl, hsz, hP, hK, hD0, hE⟩ := hv
  have hx := B.exec
  have hb := B.bytes
  have hr := B.returns
  have hts := atoms_spec (ws := Cond.code yX2_startingAt cX2_startingAt 2 (some .long) :: ds_gw) B.pre
  have hg : ∀ {w : Cond}, w ∈ ds_gw → w.before _ s = true := fun h => hts _ (List.mem_cons_of_mem _ h)
  have hown : s.vm.findClass RX2 = some m.cls := findClass_of_methodNamed B.named
  have hlocks := B.notSynchronized
  subst hsz
  have hD := hD0.self (sz := s.heap.size)
  generalize hAe : va_A [(h_o, .inr (1, [.ref h_o_members, .int o_size])), (h_o_members, .inl (ca 1, 64, .inr (.inl o_members_r)))] s.heap.size = A at hD hE ⊢
  have hA : ∀ q : Nat, s.heap.size ≤ q → A q := fun q h => by rw [← hAe]; exact Or.inr h
  have hS : va_S A s.heap s.heap [] := va_S.rf
  have hl := lv_entry ([.ref h_o, .int p1]) (n := 2) (Nat.le_of_ble_eq_true rfl)
  rw [lg_entry_eq]
  generalize (lg_sl ([.ref h_o, .int p1]) ++ List.replicate (2 - (lg_sl ([.ref h_o, .int p1])).length) Slot.unset).toArray = ls at hl ⊢
  have hl : lv_has ls 2 [(0, .ref h_o), (1, .int p1)] := hl
  obtain ⟨G0, eG0⟩ : ∃ G : Int64 → Prop, G = (fun r => r = res) := ⟨_, rfl⟩
  obtain ⟨rr, hrr⟩ : ∃ z, z = res := ⟨_, rfl⟩
  rw [← hrr] at hf
  have hG : G0 rr := by subst eG0; exact hrr
  unfold fX2_startingAt at hf
  refine lv_iload_n hx hb dX2_startingAt_0 rfl (lv_at hl 1 rfl) ?_
  refine lv_if_lt (tgt := 22) hx hb dX2_startingAt_1 (by decide) (fun c_1 => ?_) (fun c_1 => ?_)
  · replace hf := ds_t c_1 hf
    refine lv_lconst (v := 0) hx hb dX2_startingAt_22 (by decide) ?_
    have hf := Option.some.inj hf
    subst hf
    rw [eG0] at hG
    have hG : _ = res := hG
    subst hG
    exact W.lret (v := (0 : Int64)) hx hb hr (fun t ht hW => ⟨⟨(0 : Int64), (), rfl, rfl, by rw [ht]; exact hP, hD⟩, hS.F ht⟩) hS.2.2 dX2_startingAt_23
  · replace hf := ds_f c_1 hf
    refine lv_iload_n hx hb dX2_startingAt_4 rfl (lv_at hl 1 rfl) ?_
    refine lv_aload_n hx hb dX2_startingAt_5 rfl (lv_at hl 0 rfl) ?_
    refine va_get (D := (dC, dI)) (ci := 1) (v := .ref h_o_members) (C := RX2) (T := TX2) (N := 2) hx hb hts (fun w h => List.mem_cons_of_mem _ (kc_X2 w h)) hown hK hP 0 rfl rfl 0 (by decide) (hg kw_274) (fun _ h9 => h9) rfl dX2_startingAt_6 ?_
    refine va_alen (v := 64) hx hb hK hP 1 1 rfl rfl rfl dX2_startingAt_9 ?_
    refine lv_icmp_ge (tgt := 22) hx hb dX2_startingAt_10 (by decide) (fun c_10 => ?_) (fun c_10 => ?_)
    · replace hf := ds_t c_10 hf
      refine lv_lconst (v := 0) hx hb dX2_startingAt_22 (by decide) ?_
      have hf := Option.some.inj hf
      subst hf
      rw [eG0] at hG
      have hG : _ = res := hG
      subst hG
      exact W.lret (v := (0 : Int64)) hx hb hr (fun t ht hW => ⟨⟨(0 : Int64), (), rfl, rfl, by rw [ht]; exact hP, hD⟩, hS.F ht⟩) hS.2.2 dX2_startingAt_23
    · replace hf := ds_f c_10 hf
      refine lv_aload_n hx hb dX2_startingAt_13 rfl (lv_at hl 0 rfl) ?_
      refine va_get (D := (dC, dI)) (ci := 1) (v := .ref h_o_members) (C := RX2) (T := TX2) (N := 2) hx hb hts (fun w h => List.mem_cons_of_mem _ (kc_X2 w h)) hown hK hP 0 rfl rfl 0 (by decide) (hg kw_274) (fun _ h9 => h9) rfl dX2_startingAt_14 ?_
      refine lv_iload_n hx hb dX2_startingAt_17 rfl (lv_at hl 1 rfl) ?_
      obtain ⟨i_18, hf⟩ := ds_ci hf
      refine va_lald hx hb hK hP 1 1 rfl rfl i_18 dX2_startingAt_18 ?_
      refine lv_goto (tgt := 23) hx hb dX2_startingAt_19 (by decide) ?_
      have hf := Option.some.inj hf
      subst hf
      rw [eG0] at hG
      have hG : _ = res := hG
      subst hG
      exact W.lret (v := (o_members_r p1.toNatClampNeg)) hx hb hr (fun t ht hW => ⟨⟨(o_members_r p1.toNatClampNeg), (), rfl, rfl, by rw [ht]; exact hP, hD⟩, hS.F ht⟩) hS.2.2 dX2_startingAt_23
theorem dX2_brought_0 : decode cX2_brought 0 = .ok (.iload_n 0, 1) := by decide +kernel
theorem dX2_brought_1 : decode cX2_brought 1 = .ok (.bipush 12, 2) := by decide +kernel
theorem dX2_brought_3 : decode cX2_brought 3 = .ok (.if_icmp .lt 7, 3) := by decide +kernel
theorem dX2_brought_6 : decode cX2_brought 6 = .ok (.iconst 1, 1) := by decide +kernel
theorem dX2_brought_7 : decode cX2_brought 7 = .ok (.goto 4, 3) := by decide +kernel
theorem dX2_brought_10 : decode cX2_brought 10 = .ok (.iconst 0, 1) := by decide +kernel
theorem dX2_brought_11 : decode cX2_brought 11 = .ok (.istore 4, 2) := by decide +kernel
theorem dX2_brought_13 : decode cX2_brought 13 = .ok (.iload_n 0, 1) := by decide +kernel
theorem dX2_brought_14 : decode cX2_brought 14 = .ok (.iload_n 1, 1) := by decide +kernel
theorem dX2_brought_15 : decode cX2_brought 15 = .ok (.invokestatic 19, 3) := by decide +kernel
theorem dX2_brought_18 : decode cX2_brought 18 = .ok (.istore 5, 2) := by decide +kernel
theorem dX2_brought_20 : decode cX2_brought 20 = .ok (.iload 4, 2) := by decide +kernel
theorem dX2_brought_22 : decode cX2_brought 22 = .ok (.iload 5, 2) := by decide +kernel
theorem dX2_brought_24 : decode cX2_brought 24 = .ok (.iload_n 3, 1) := by decide +kernel
theorem dX2_brought_25 : decode cX2_brought 25 = .ok (.bipush 8, 2) := by decide +kernel
theorem dX2_brought_27 : decode cX2_brought 27 = .ok (.irem, 1) := by decide +kernel
theorem dX2_brought_28 : decode cX2_brought 28 = .ok (.iload_n 3, 1) := by decide +kernel
theorem dX2_brought_29 : decode cX2_brought 29 = .ok (.bipush 8, 2) := by decide +kernel
theorem dX2_brought_31 : decode cX2_brought 31 = .ok (.idiv, 1) := by decide +kernel
theorem dX2_brought_32 : decode cX2_brought 32 = .ok (.invokestatic 35, 3) := by decide +kernel
theorem dX2_brought_35 : decode cX2_brought 35 = .ok (.iload_n 0, 1) := by decide +kernel
theorem dX2_brought_36 : decode cX2_brought 36 = .ok (.iload_n 1, 1) := by decide +kernel
theorem dX2_brought_37 : decode cX2_brought 37 = .ok (.iconst 1, 1) := by decide +kernel
theorem dX2_brought_38 : decode cX2_brought 38 = .ok (.iadd, 1) := by decide +kernel
theorem dX2_brought_39 : decode cX2_brought 39 = .ok (.invokestatic 19, 3) := by decide +kernel
theorem dX2_brought_42 : decode cX2_brought 42 = .ok (.iload_n 2, 1) := by decide +kernel
theorem dX2_brought_43 : decode cX2_brought 43 = .ok (.iconst 2, 1) := by decide +kernel
theorem dX2_brought_44 : decode cX2_brought 44 = .ok (.idiv, 1) := by decide +kernel
theorem dX2_brought_45 : decode cX2_brought 45 = .ok (.imul, 1) := by decide +kernel
theorem dX2_brought_46 : decode cX2_brought 46 = .ok (.iadd, 1) := by decide +kernel
theorem dX2_brought_47 : decode cX2_brought 47 = .ok (.istore 6, 2) := by decide +kernel
theorem dX2_brought_49 : decode cX2_brought 49 = .ok (.iload 4, 2) := by decide +kernel
theorem dX2_brought_51 : decode cX2_brought 51 = .ok (.iload 5, 2) := by decide +kernel
theorem dX2_brought_53 : decode cX2_brought 53 = .ok (.iload_n 3, 1) := by decide +kernel
theorem dX2_brought_54 : decode cX2_brought 54 = .ok (.bipush 8, 2) := by decide +kernel
theorem dX2_brought_56 : decode cX2_brought 56 = .ok (.irem, 1) := by decide +kernel
theorem dX2_brought_57 : decode cX2_brought 57 = .ok (.iload_n 3, 1) := by decide +kernel
theorem dX2_brought_58 : decode cX2_brought 58 = .ok (.bipush 8, 2) := by decide +kernel
theorem dX2_brought_60 : decode cX2_brought 60 = .ok (.idiv, 1) := by decide +kernel
theorem dX2_brought_61 : decode cX2_brought 61 = .ok (.invokestatic 41, 3) := by decide +kernel
theorem dX2_brought_64 : decode cX2_brought 64 = .ok (.iload_n 0, 1) := by decide +kernel
theorem dX2_brought_65 : decode cX2_brought 65 = .ok (.iload_n 1, 1) := by decide +kernel
theorem dX2_brought_66 : decode cX2_brought 66 = .ok (.iconst 2, 1) := by decide +kernel
theorem dX2_brought_67 : decode cX2_brought 67 = .ok (.iadd, 1) := by decide +kernel
theorem dX2_brought_68 : decode cX2_brought 68 = .ok (.invokestatic 19, 3) := by decide +kernel
theorem dX2_brought_71 : decode cX2_brought 71 = .ok (.iload_n 2, 1) := by decide +kernel
theorem dX2_brought_72 : decode cX2_brought 72 = .ok (.iconst 2, 1) := by decide +kernel
theorem dX2_brought_73 : decode cX2_brought 73 = .ok (.idiv, 1) := by decide +kernel
theorem dX2_brought_74 : decode cX2_brought 74 = .ok (.imul, 1) := by decide +kernel
theorem dX2_brought_75 : decode cX2_brought 75 = .ok (.iadd, 1) := by decide +kernel
theorem dX2_brought_76 : decode cX2_brought 76 = .ok (.istore 7, 2) := by decide +kernel
theorem dX2_brought_78 : decode cX2_brought 78 = .ok (.iload 6, 2) := by decide +kernel
theorem dX2_brought_80 : decode cX2_brought 80 = .ok (.iload_n 2, 1) := by decide +kernel
theorem dX2_brought_81 : decode cX2_brought 81 = .ok (.invokestatic 44, 3) := by decide +kernel
theorem dX2_brought_84 : decode cX2_brought 84 = .ok (.iload 7, 2) := by decide +kernel
theorem dX2_brought_86 : decode cX2_brought 86 = .ok (.iload_n 2, 1) := by decide +kernel
theorem dX2_brought_87 : decode cX2_brought 87 = .ok (.invokestatic 44, 3) := by decide +kernel
theorem dX2_brought_90 : decode cX2_brought 90 = .ok (.invokestatic 47, 3) := by decide +kernel
theorem dX2_brought_93 : decode cX2_brought 93 = .ok (.lreturn, 1) := by decide +kernel
def fX2_brought_11 (p1 : Int32) (p2 : Int32) (p3 : Int32) (p4 : Int32) (s0 : Int32) : Option (Int64) :=
  Option.bind (fX2_maker p1 p2) fun q15 => Option.bind (fX1_turnedX s0 q15 (ds_rem p4 (8 : Int32)) (p4 / (8 : Int32))) fun q32 => Option.bind (fX2_maker p1 (p2 + (1 : Int32))) fun q39 => Option.bind (fX1_turnedY s0 q15 (ds_rem p4 (8 : Int32)) (p4 / (8 : Int32))) fun q61 => Option.bind (fX2_maker p1 (p2 + (2 : Int32))) fun q68 => Option.bind (fX7_rest (q32 + (q39 * (p3 / (2 : Int32)))) p3) fun q81 => Option.bind (fX7_rest (q61 + (q68 * (p3 / (2 : Int32)))) p3) fun q87 => Option.bind (fX6_bit q81 q87) fun q90 => some q90
def fX2_brought (p1 : Int32) (p2 : Int32) (p3 : Int32) (p4 : Int32) : Option (Int64) :=
  if p1 < (12 : Int32) then fX2_brought_11 p1 p2 p3 p4 (0 : Int32) else fX2_brought_11 p1 p2 p3 p4 (1 : Int32)
set_option maxHeartbeats 4000000 in
set_option maxRecDepth 100000 in
theorem c_X2_brought (l : Launch) (dC : Nat → ClassId) (dI : Nat → Nat → Nat) (ca : Nat → ClassId) (sa : Nat → Nat) (sz : Nat) (p1 : Int32) (p2 : Int32) (p3 : Int32) (p4 : Int32) (res : Int64) (hf : fX2_brought p1 p2 p3 p4 = some res) : Met l yX2_brought (Cond.code yX2_brought cX2_brought 8 (some .long) :: ds_gw) { frames := 2, cells := 0, slots := 0, locals := 45 } (va_Pc [.int p1, .int p2, .int p3, .int p4] (ds_Pre dC dI ca sa [] sz)) (va_Ql (fun r (_ : Unit) => r = res) (ds_B dC dI (va_A [] sz) []) (va_A [] sz)) 0 0 (va_A [] sz) := by
  refine Met.ofW (cc := cX2_brought) (maxL := 8) (ret := (some .long)) (by decide) rfl ?_
  intro p e s m args below meth c s₁ B hml hv
  obtain ⟨rfl, hsz, hP, hK, hD0, hE⟩ := hv
  have hx := B.exec
  have hb := B.bytes
  have hr := B.returns
  have hts := atoms_spec (ws := Cond.code yX2_brought cX2_brought 8 (some .long) :: ds_gw) B.pre
  have hg : ∀ {w : Cond}, w ∈ ds_gw → w.before _ s = true := fun h => hts _ (List.mem_cons_of_mem _ h)
  have hown : s.vm.findClass RX2 = some m.cls := findClass_of_methodNamed B.named
  have hlocks := B.notSynchronized
  subst hsz
  have hD := hD0.self (sz := s.heap.size)
  generalize hAe : va_A [] s.heap.size = A at hD hE ⊢
  have hA : ∀ q : Nat, s.heap.size ≤ q → A q := fun q h => by rw [← hAe]; exact Or.inr h
  have hS : va_S A s.heap s.heap [] := va_S.rf
  have hl := lv_entry ([.int p1, .int p2, .int p3, .int p4]) (n := 8) (Nat.le_of_ble_eq_true rfl)
  rw [lg_entry_eq]
  generalize (lg_sl ([.int p1, .int p2, .int p3, .int p4]) ++ List.replicate (8 - (lg_sl ([.int p1, .int p2, .int p3, .int p4])).length) Slot.unset).toArray = ls at hl ⊢
  have hl : lv_has ls 8 [(0, .int p1), (1, .int p2), (2, .int p3), (3, .int p4)] := hl
  obtain ⟨G0, eG0⟩ : ∃ G : Int64 → Prop, G = (fun r => r = res) := ⟨_, rfl⟩
  obtain ⟨rr, hrr⟩ : ∃ z, z = res := ⟨_, rfl⟩
  rw [← hrr] at hf
  have hG : G0 rr := by subst eG0; exact hrr
  refine ds_cap (fun WW h1 h2 => ?_)
  have J_11 : ∀ (s0 : Int32) (rr : Int64) (hf : fX2_brought_11 p1 p2 p3 p4 s0 = some rr) (hG : G0 rr) (H : Heap) (locs : List Loc) (hP : va_P (dC, dI) vwCl [] H) (hD : va_D A []) (hS : va_S A s.heap H locs) (ls : Array Slot) (hl : lv_has ls 8 [(0, .int p1), (1, .int p2), (2, .int p3), (3, .int p4)]), WW H locs (F0 m 11 ls [.int s0]) := by
    intro s0 rr hf hG H locs hP hD hS ls hl
    refine h2 ?_
    unfold fX2_brought_11 at hf
    refine lv_istore (lv' := [(4, .int s0), (0, .int p1), (1, .int p2), (2, .int p3), (3, .int p4)]) hx hb dX2_brought_11 hl (by decide) rfl (fun ls hl => ?_)
    refine lv_iload_n hx hb dX2_brought_13 rfl (lv_at hl 1 rfl) ?_
    refine lv_iload_n hx hb dX2_brought_14 rfl (lv_at hl 2 rfl) ?_
    obtain ⟨q15, hq15, hf⟩ := ds_ob hf
    refine ds_calli (wr := []) (va_runS (As := [.int p1, .int p2]) (rest := []) ⟨hx, hb, hml, hown, hts⟩ (c_X2_maker l dC dI ca sa  H.size  p1 p2 q15 hq15) (va_cwS 2 hts (ds_gS kw_270 kw_271 kw_272 kw_273) rfl rfl rfl (by decide +kernel) ⟨Nat.le_of_ble_eq_true rfl, Nat.le_of_ble_eq_true rfl⟩) ⟨ds_blind, ds_at hP hD hK hE hS hA [] rfl rfl _⟩ rfl rfl hl.1 rfl (lv_room (Nat.le_of_ble_eq_true rfl)) dX2_brought_15 ⟨Nat.zero_le _, Nat.zero_le _⟩) hP hD hS hA [] [] rfl rfl rfl (by decide) (fun H locs hP hD hS => ?_)
    have hP : va_P (dC, dI) vwCl [] H := hP
    have hD : va_D A [] := hD
    refine lv_istore (lv' := [(5, .int q15), (4, .int s0), (0, .int p1), (1, .int p2), (2, .int p3), (3, .int p4)]) hx hb dX2_brought_18 hl (by decide) rfl (fun ls hl => ?_)
    refine lv_iload hx hb dX2_brought_20 (lv_at hl 1 rfl) ?_
    refine lv_iload hx hb dX2_brought_22 (lv_at hl 0 rfl) ?_
    refine lv_iload_n hx hb dX2_brought_24 rfl (lv_at hl 5 rfl) ?_
    refine lv_bipush (v := 8) hx hb dX2_brought_25 (by decide) ?_
    refine lv_irem hx hb dX2_brought_27 (by decide) ?_
    refine lv_iload_n hx hb dX2_brought_28 rfl (lv_at hl 5 rfl) ?_
    refine lv_bipush (v := 8) hx hb dX2_brought_29 (by decide) ?_
    refine lv_idiv hx hb dX2_brought_31 (by decide) ?_
    obtain ⟨q32, hq32, hf⟩ := ds_ob hf
    refine ds_calli (wr := []) (va_runS (As := [.int s0, .int q15, .int (ds_rem p4 (8 : Int32)), .int (p4 / (8 : Int32))]) (rest := []) ⟨hx, hb, hml, hown, hts⟩ (c_X1_turnedX l dC dI ca sa  H.size  s0 q15 (ds_rem p4 (8 : Int32)) (p4 / (8 : Int32)) q32 hq32) (va_cwS 4 hts (ds_gS kw_277 kw_93 kw_2 kw_94) rfl rfl rfl (by decide +kernel) ⟨Nat.le_of_ble_eq_true rfl, Nat.le_of_ble_eq_true rfl⟩) ⟨ds_blind, ds_at hP hD hK hE hS hA [] rfl rfl _⟩ rfl rfl hl.1 rfl (lv_room (Nat.le_of_ble_eq_true rfl)) dX2_brought_32 ⟨Nat.zero_le _, Nat.zero_le _⟩) hP hD hS hA [] [] rfl rfl rfl (by decide) (fun H locs hP hD hS => ?_)
    have hP : va_P (dC, dI) vwCl [] H := hP
    have hD : va_D A [] := hD
    refine lv_iload_n hx hb dX2_brought_35 rfl (lv_at hl 2 rfl) ?_
    refine lv_iload_n hx hb dX2_brought_36 rfl (lv_at hl 3 rfl) ?_
    refine lv_iconst (v := 1) hx hb dX2_brought_37 (by decide) ?_
    refine lv_iadd hx hb dX2_brought_38 ?_
    obtain ⟨q39, hq39, hf⟩ := ds_ob hf
    refine ds_calli (wr := []) (va_runS (As := [.int p1, .int (p2 + (1 : Int32))]) (rest := [.int q32]) ⟨hx, hb, hml, hown, hts⟩ (c_X2_maker l dC dI ca sa  H.size  p1 (p2 + (1 : Int32)) q39 hq39) (va_cwS 2 hts (ds_gS kw_270 kw_271 kw_272 kw_273) rfl rfl rfl (by decide +kernel) ⟨Nat.le_of_ble_eq_true rfl, Nat.le_of_ble_eq_true rfl⟩) ⟨ds_blind, ds_at hP hD hK hE hS hA [] rfl rfl _⟩ rfl rfl hl.1 rfl (lv_room (Nat.le_of_ble_eq_true rfl)) dX2_brought_39 ⟨Nat.zero_le _, Nat.zero_le _⟩) hP hD hS hA [] [] rfl rfl rfl (by decide) (fun H locs hP hD hS => ?_)
    have hP : va_P (dC, dI) vwCl [] H := hP
    have hD : va_D A [] := hD
    refine lv_iload_n hx hb dX2_brought_42 rfl (lv_at hl 4 rfl) ?_
    refine lv_iconst (v := 2) hx hb dX2_brought_43 (by decide) ?_
    refine lv_idiv hx hb dX2_brought_44 (by decide) ?_
    refine lv_imul hx hb dX2_brought_45 ?_
    refine lv_iadd hx hb dX2_brought_46 ?_
    refine lv_istore (lv' := [(6, .int (q32 + (q39 * (p3 / (2 : Int32))))), (5, .int q15), (4, .int s0), (0, .int p1), (1, .int p2), (2, .int p3), (3, .int p4)]) hx hb dX2_brought_47 hl (by decide) rfl (fun ls hl => ?_)
    refine lv_iload hx hb dX2_brought_49 (lv_at hl 2 rfl) ?_
    refine lv_iload hx hb dX2_brought_51 (lv_at hl 1 rfl) ?_
    refine lv_iload_n hx hb dX2_brought_53 rfl (lv_at hl 6 rfl) ?_
    refine lv_bipush (v := 8) hx hb dX2_brought_54 (by decide) ?_
    refine lv_irem hx hb dX2_brought_56 (by decide) ?_
    refine lv_iload_n hx hb dX2_brought_57 rfl (lv_at hl 6 rfl) ?_
    refine lv_bipush (v := 8) hx hb dX2_brought_58 (by decide) ?_
    refine lv_idiv hx hb dX2_brought_60 (by decide) ?_
    obtain ⟨q61, hq61, hf⟩ := ds_ob hf
    refine ds_calli (wr := []) (va_runS (As := [.int s0, .int q15, .int (ds_rem p4 (8 : Int32)), .int (p4 / (8 : Int32))]) (rest := []) ⟨hx, hb, hml, hown, hts⟩ (c_X1_turnedY l dC dI ca sa  H.size  s0 q15 (ds_rem p4 (8 : Int32)) (p4 / (8 : Int32)) q61 hq61) (va_cwS 4 hts (ds_gS kw_278 kw_96 kw_2 kw_97) rfl rfl rfl (by decide +kernel) ⟨Nat.le_of_ble_eq_true rfl, Nat.le_of_ble_eq_true rfl⟩) ⟨ds_blind, ds_at hP hD hK hE hS hA [] rfl rfl _⟩ rfl rfl hl.1 rfl (lv_room (Nat.le_of_ble_eq_true rfl)) dX2_brought_61 ⟨Nat.zero_le _, Nat.zero_le _⟩) hP hD hS hA [] [] rfl rfl rfl (by decide) (fun H locs hP hD hS => ?_)
    have hP : va_P (dC, dI) vwCl [] H := hP
    have hD : va_D A [] := hD
    refine lv_iload_n hx hb dX2_brought_64 rfl (lv_at hl 3 rfl) ?_
    refine lv_iload_n hx hb dX2_brought_65 rfl (lv_at hl 4 rfl) ?_
    refine lv_iconst (v := 2) hx hb dX2_brought_66 (by decide) ?_
    refine lv_iadd hx hb dX2_brought_67 ?_
    obtain ⟨q68, hq68, hf⟩ := ds_ob hf
    refine ds_calli (wr := []) (va_runS (As := [.int p1, .int (p2 + (2 : Int32))]) (rest := [.int q61]) ⟨hx, hb, hml, hown, hts⟩ (c_X2_maker l dC dI ca sa  H.size  p1 (p2 + (2 : Int32)) q68 hq68) (va_cwS 2 hts (ds_gS kw_270 kw_271 kw_272 kw_273) rfl rfl rfl (by decide +kernel) ⟨Nat.le_of_ble_eq_true rfl, Nat.le_of_ble_eq_true rfl⟩) ⟨ds_blind, ds_at hP hD hK hE hS hA [] rfl rfl _⟩ rfl rfl hl.1 rfl (lv_room (Nat.le_of_ble_eq_true rfl)) dX2_brought_68 ⟨Nat.zero_le _, Nat.zero_le _⟩) hP hD hS hA [] [] rfl rfl rfl (by decide) (fun H locs hP hD hS => ?_)
    have hP : va_P (dC, dI) vwCl [] H := hP
    have hD : va_D A [] := hD
    refine lv_iload_n hx hb dX2_brought_71 rfl (lv_at hl 5 rfl) ?_
    refine lv_iconst (v := 2) hx hb dX2_brought_72 (by decide) ?_
    refine lv_idiv hx hb dX2_brought_73 (by decide) ?_
    refine lv_imul hx hb dX2_brought_74 ?_
    refine lv_iadd hx hb dX2_brought_75 ?_
    refine lv_istore (lv' := [(7, .int (q61 + (q68 * (p3 / (2 : Int32))))), (6, .int (q32 + (q39 * (p3 / (2 : Int32))))), (5, .int q15), (4, .int s0), (0, .int p1), (1, .int p2), (2, .int p3), (3, .int p4)]) hx hb dX2_brought_76 hl (by decide) rfl (fun ls hl => ?_)
    refine lv_iload hx hb dX2_brought_78 (lv_at hl 1 rfl) ?_
    refine lv_iload_n hx hb dX2_brought_80 rfl (lv_at hl 6 rfl) ?_
    obtain ⟨q81, hq81, hf⟩ := ds_ob hf
    refine ds_calli (wr := []) (va_runSN (As := [.int (q32 + (q39 * (p3 / (2 : Int32)))), .int p3]) (rest := []) ⟨hx, hb, hml, hown, hts⟩ (c_X7_rest l dC dI ca sa  H.size  (q32 + (q39 * (p3 / (2 : Int32)))) p3 q81 hq81) ⟨va_cnB 2 hts (ds_gN kw_70) rfl rfl rfl (hE.1 _ kw_279) (hg kw_71) (by decide +kernel) ⟨Nat.le_of_ble_eq_true rfl, Nat.le_of_ble_eq_true rfl⟩, hg kw_72, trivial⟩ ⟨ds_blind, ds_at hP hD hK hE hS hA [] rfl rfl _⟩ rfl rfl hl.1 rfl (lv_room (Nat.le_of_ble_eq_true rfl)) dX2_brought_81 ⟨Nat.zero_le _, Nat.zero_le _⟩) hP hD hS hA [] [] rfl rfl rfl (by decide) (fun H locs hP hD hS => ?_)
    have hP : va_P (dC, dI) vwCl [] H := hP
    have hD : va_D A [] := hD
    refine lv_iload hx hb dX2_brought_84 (lv_at hl 0 rfl) ?_
    refine lv_iload_n hx hb dX2_brought_86 rfl (lv_at hl 6 rfl) ?_
    obtain ⟨q87, hq87, hf⟩ := ds_ob hf
    refine ds_calli (wr := []) (va_runSN (As := [.int (q61 + (q68 * (p3 / (2 : Int32)))), .int p3]) (rest := [.int q81]) ⟨hx, hb, hml, hown, hts⟩ (c_X7_rest l dC dI ca sa  H.size  (q61 + (q68 * (p3 / (2 : Int32)))) p3 q87 hq87) ⟨va_cnB 2 hts (ds_gN kw_70) rfl rfl rfl (hE.1 _ kw_279) (hg kw_71) (by decide +kernel) ⟨Nat.le_of_ble_eq_true rfl, Nat.le_of_ble_eq_true rfl⟩, hg kw_72, trivial⟩ ⟨ds_blind, ds_at hP hD hK hE hS hA [] rfl rfl _⟩ rfl rfl hl.1 rfl (lv_room (Nat.le_of_ble_eq_true rfl)) dX2_brought_87 ⟨Nat.zero_le _, Nat.zero_le _⟩) hP hD hS hA [] [] rfl rfl rfl (by decide) (fun H locs hP hD hS => ?_)
    have hP : va_P (dC, dI) vwCl [] H := hP
    have hD : va_D A [] := hD
    obtain ⟨q90, hq90, hf⟩ := ds_ob hf
    refine ds_calll (wr := []) (va_runS (As := [.int q81, .int q87]) (rest := []) ⟨hx, hb, hml, hown, hts⟩ (c_X6_bit l dC dI ca sa  H.size  q81 q87 q90 hq90) (va_cwS 2 hts (ds_gS kw_280 kw_103 kw_59 kw_104) rfl rfl rfl (by decide +kernel) ⟨Nat.le_of_ble_eq_true rfl, Nat.le_of_ble_eq_true rfl⟩) ⟨ds_blind, ds_at hP hD hK hE hS hA [] rfl rfl _⟩ rfl rfl hl.1 rfl (lv_room (Nat.le_of_ble_eq_true rfl)) dX2_brought_90 ⟨Nat.zero_le _, Nat.zero_le _⟩) hP hD hS hA [] [] rfl rfl rfl (by decide) (fun H locs hP hD hS => ?_)
    have hP : va_P (dC, dI) vwCl [] H := hP
    have hD : va_D A [] := hD
    have hf := Option.some.inj hf
    subst hf
    rw [eG0] at hG
    have hG : _ = res := hG
    subst hG
    exact W.lret (v := q90) hx hb hr (fun t ht hW => ⟨⟨q90, (), rfl, rfl, by rw [ht]; exact hP, hD⟩, hS.F ht⟩) hS.2.2 dX2_brought_93
  unfold fX2_brought at hf
  refine lv_iload_n hx hb dX2_brought_0 rfl (lv_at hl 0 rfl) ?_
  refine lv_bipush (v := 12) hx hb dX2_brought_1 (by decide) ?_
  refine lv_icmp_lt (tgt := 10) hx hb dX2_brought_3 (by decide) (fun c_3 => ?_) (fun c_3 => ?_)
  · replace hf := ds_t c_3 hf
    refine lv_iconst (v := 0) hx hb dX2_brought_10 (by decide) ?_
    exact h1 (J_11 (0 : Int32) _ hf hG _ _ hP hD hS _ (lv_sub hl [0, 1, 2, 3] rfl))
  · replace hf := ds_f c_3 hf
    refine lv_iconst (v := 1) hx hb dX2_brought_6 (by decide) ?_
    refine lv_goto (tgt := 11) hx hb dX2_brought_7 (by decide) ?_
    exact h1 (J_11 (1 : Int32) _ hf hG _ _ hP hD hS _ (lv_sub hl [0, 1, 2, 3] rfl))
theorem dX2_closed_0 : decode cX2_closed 0 = .ok (.lload_n 2, 1) := by decide +kernel
theorem dX2_closed_1 : decode cX2_closed 1 = .ok (.lstore 4, 2) := by decide +kernel
theorem dX2_closed_3 : decode cX2_closed 3 = .ok (.iconst 0, 1) := by decide +kernel
theorem dX2_closed_4 : decode cX2_closed 4 = .ok (.istore 6, 2) := by decide +kernel
theorem dX2_closed_6 : decode cX2_closed 6 = .ok (.iload 6, 2) := by decide +kernel
theorem dX2_closed_8 : decode cX2_closed 8 = .ok (.bipush 64, 2) := by decide +kernel
theorem dX2_closed_10 : decode cX2_closed 10 = .ok (.if_icmp .ge 74, 3) := by decide +kernel
theorem dX2_closed_13 : decode cX2_closed 13 = .ok (.lload 4, 2) := by decide +kernel
theorem dX2_closed_15 : decode cX2_closed 15 = .ok (.lstore 7, 2) := by decide +kernel
theorem dX2_closed_17 : decode cX2_closed 17 = .ok (.iconst 0, 1) := by decide +kernel
theorem dX2_closed_18 : decode cX2_closed 18 = .ok (.istore 9, 2) := by decide +kernel
theorem dX2_closed_20 : decode cX2_closed 20 = .ok (.iload 9, 2) := by decide +kernel
theorem dX2_closed_22 : decode cX2_closed 22 = .ok (.bipush 64, 2) := by decide +kernel
theorem dX2_closed_24 : decode cX2_closed 24 = .ok (.if_icmp .ge 43, 3) := by decide +kernel
theorem dX2_closed_27 : decode cX2_closed 27 = .ok (.lload 4, 2) := by decide +kernel
theorem dX2_closed_29 : decode cX2_closed 29 = .ok (.iload 9, 2) := by decide +kernel
theorem dX2_closed_31 : decode cX2_closed 31 = .ok (.lushr, 1) := by decide +kernel
theorem dX2_closed_32 : decode cX2_closed 32 = .ok (.lconst 1, 1) := by decide +kernel
theorem dX2_closed_33 : decode cX2_closed 33 = .ok (.land, 1) := by decide +kernel
theorem dX2_closed_34 : decode cX2_closed 34 = .ok (.lconst 0, 1) := by decide +kernel
theorem dX2_closed_35 : decode cX2_closed 35 = .ok (.lcmp, 1) := by decide +kernel
theorem dX2_closed_36 : decode cX2_closed 36 = .ok (.ifCond .eq 25, 3) := by decide +kernel
theorem dX2_closed_39 : decode cX2_closed 39 = .ok (.lload 4, 2) := by decide +kernel
theorem dX2_closed_41 : decode cX2_closed 41 = .ok (.iload_n 0, 1) := by decide +kernel
theorem dX2_closed_42 : decode cX2_closed 42 = .ok (.iconst 0, 1) := by decide +kernel
theorem dX2_closed_43 : decode cX2_closed 43 = .ok (.iload_n 1, 1) := by decide +kernel
theorem dX2_closed_44 : decode cX2_closed 44 = .ok (.iload 9, 2) := by decide +kernel
theorem dX2_closed_46 : decode cX2_closed 46 = .ok (.invokestatic 31, 3) := by decide +kernel
theorem dX2_closed_49 : decode cX2_closed 49 = .ok (.iload_n 0, 1) := by decide +kernel
theorem dX2_closed_50 : decode cX2_closed 50 = .ok (.iconst 3, 1) := by decide +kernel
theorem dX2_closed_51 : decode cX2_closed 51 = .ok (.iload_n 1, 1) := by decide +kernel
theorem dX2_closed_52 : decode cX2_closed 52 = .ok (.iload 9, 2) := by decide +kernel
theorem dX2_closed_54 : decode cX2_closed 54 = .ok (.invokestatic 31, 3) := by decide +kernel
theorem dX2_closed_57 : decode cX2_closed 57 = .ok (.lor, 1) := by decide +kernel
theorem dX2_closed_58 : decode cX2_closed 58 = .ok (.lor, 1) := by decide +kernel
theorem dX2_closed_59 : decode cX2_closed 59 = .ok (.lstore 4, 2) := by decide +kernel
theorem dX2_closed_61 : decode cX2_closed 61 = .ok (.iinc 9 1, 3) := by decide +kernel
theorem dX2_closed_64 : decode cX2_closed 64 = .ok (.goto (-44), 3) := by decide +kernel
theorem dX2_closed_67 : decode cX2_closed 67 = .ok (.lload 4, 2) := by decide +kernel
theorem dX2_closed_69 : decode cX2_closed 69 = .ok (.lload 7, 2) := by decide +kernel
theorem dX2_closed_71 : decode cX2_closed 71 = .ok (.lcmp, 1) := by decide +kernel
theorem dX2_closed_72 : decode cX2_closed 72 = .ok (.ifCond .ne 6, 3) := by decide +kernel
theorem dX2_closed_75 : decode cX2_closed 75 = .ok (.lload 4, 2) := by decide +kernel
theorem dX2_closed_77 : decode cX2_closed 77 = .ok (.lreturn, 1) := by decide +kernel
theorem dX2_closed_78 : decode cX2_closed 78 = .ok (.iinc 6 1, 3) := by decide +kernel
theorem dX2_closed_81 : decode cX2_closed 81 = .ok (.goto (-75), 3) := by decide +kernel
theorem dX2_closed_84 : decode cX2_closed 84 = .ok (.lload 4, 2) := by decide +kernel
theorem dX2_closed_86 : decode cX2_closed 86 = .ok (.lreturn, 1) := by decide +kernel
def fX2_closed_67 (u4 : Int64) (v6 : Int32) (u7 : Int64) : Option ((Int64 × Int32) ⊕ (Int64)) :=
  if (lg_cmp u4 u7) = 0 then some (.inr u4) else some (.inl (u4, (v6 + 1)))
def fX2_closed_61 (u4 : Int64) (v9 : Int32) : Option ((Int64 × Int32) ⊕ ((Int64 × Int32) ⊕ (Int64))) :=
  some (.inl (u4, (v9 + 1)))
def fX2_closed_20_b (p1 : Int32) (p2 : Int32) (v6 : Int32) (u7 : Int64) (u4 : Int64) (v9 : Int32) : Option ((Int64 × Int32) ⊕ ((Int64 × Int32) ⊕ (Int64))) :=
  if (64 : Int32) ≤ v9 then Option.bind (fX2_closed_67 u4 v6 u7) fun z => some (.inr z) else if (lg_cmp ((ds_lushr u4 v9) &&& (1 : Int64)) (0 : Int64)) = 0 then fX2_closed_61 u4 v9 else Option.bind (fX2_brought p1 (0 : Int32) p2 v9) fun q46 => Option.bind (fX2_brought p1 (3 : Int32) p2 v9) fun q54 => fX2_closed_61 (u4 ||| (q46 ||| q54)) v9
def fX2_closed_20 (p1 : Int32) (p2 : Int32) (v6 : Int32) (u7 : Int64) (u4 : Int64) (v9 : Int32) : Option ((Int64 × Int32) ⊕ (Int64)) := ds_it (fun s => fX2_closed_20_b p1 p2 v6 u7 s.1 s.2) 1000 (u4, v9)
def fX2_closed_6_b (p1 : Int32) (p2 : Int32) (u4 : Int64) (v6 : Int32) : Option ((Int64 × Int32) ⊕ (Int64)) :=
  if (64 : Int32) ≤ v6 then some (.inr u4) else fX2_closed_20 p1 p2 v6 u4 u4 (0 : Int32)
def fX2_closed_6 (p1 : Int32) (p2 : Int32) (u4 : Int64) (v6 : Int32) : Option (Int64) := ds_it (fun s => fX2_closed_6_b p1 p2 s.1 s.2) 1000 (u4, v6)
def fX2_closed (p1 : Int32) (p2 : Int32) (p3 : Int64) : Option (Int64) :=
  fX2_closed_6 p1 p2 p3 (0 : Int32)
set_option maxHeartbeats 4000000 in
set_option maxRecDepth 100000 in
theorem c_X2_closed (l : Launch) (dC : Nat → ClassId) (dI : Nat → Nat → Nat) (ca : Nat → ClassId) (sa : Nat → Nat) (sz : Nat) (p1 : Int32) (p2 : Int32) (p3 : Int64) (res : Int64) (hf : fX2_closed p1 p2 p3 = some res) : Met l yX2_closed (Cond.code yX2_closed cX2_closed 10 (some .long) :: ds_gw) { frames := 3, cells := 0, slots := 0, locals := 72 } (va_Pc [.int p1, .int p2, .long p3] (ds_Pre dC dI ca sa [] sz)) (va_Ql (fun r (_ : Unit) => r = res) (ds_B dC dI (va_A [] sz) []) (va_A [] sz)) 0 0 (va_A [] sz) := by
  refine Met.ofW (cc := cX2_closed) (maxL := 10) (ret := (some .long)) (by decide) rfl ?_
  intro p e s m args below meth c s₁ B hml hv
  obtain ⟨rfl, hsz, hP, hK, hD0, hE⟩ := hv
  have hx := B.exec
  have hb := B.bytes
  have hr := B.returns
  have hts := atoms_spec (ws := Cond.code yX2_closed cX2_closed 10 (some .long) :: ds_gw) B.pre
  have hg : ∀ {w : Cond}, w ∈ ds_gw → w.before _ s = true := fun h => hts _ (List.mem_cons_of_mem _ h)
  have hown : s.vm.findClass RX2 = some m.cls := findClass_of_methodNamed B.named
  have hlocks := B.notSynchronized
  subst hsz
  have hD := hD0.self (sz := s.heap.size)
  generalize hAe : va_A [] s.heap.size = A at hD hE ⊢
  have hA : ∀ q : Nat, s.heap.size ≤ q → A q := fun q h => by rw [← hAe]; exact Or.inr h
  have hS : va_S A s.heap s.heap [] := va_S.rf
  have hl := lv_entry ([.int p1, .int p2, .long p3]) (n := 10) (Nat.le_of_ble_eq_true rfl)
  rw [lg_entry_eq]
  generalize (lg_sl ([.int p1, .int p2, .long p3]) ++ List.replicate (10 - (lg_sl ([.int p1, .int p2, .long p3])).length) Slot.unset).toArray = ls at hl ⊢
  have hl : lv_has ls 10 [(0, .int p1), (1, .int p2), (2, .long p3)] := hl
  obtain ⟨G0, eG0⟩ : ∃ G : Int64 → Prop, G = (fun r => r = res) := ⟨_, rfl⟩
  obtain ⟨rr, hrr⟩ : ∃ z, z = res := ⟨_, rfl⟩
  rw [← hrr] at hf
  have hG : G0 rr := by subst eG0; exact hrr
  refine ds_cap (fun WW h1 h2 => ?_)
  have J_6 : ∀ (n : Nat) (u4 : Int64) (v6 : Int32) (rr : Int64) (hf : ds_it (fun s => fX2_closed_6_b p1 p2 s.1 s.2) n (u4, v6) = some rr) (hG : G0 rr) (H : Heap) (locs : List Loc) (hP : va_P (dC, dI) vwCl [] H) (hD : va_D A []) (hS : va_S A s.heap H locs) (ls : Array Slot) (hl : lv_has ls 10 [(0, .int p1), (1, .int p2), (4, .long u4), (6, .int v6)]), WW H locs (F0 m 6 ls []) := by
    intro  n
    induction n with
    | zero => intro u4 v6 rr hf; exact (ds_it_zero hf).elim
    | succ n ih6 =>
      intro u4 v6 rr hf hG H locs hP hD hS ls hl
      refine h2 ?_
      obtain ⟨rr, hf, hG⟩ := ds_it_succ hf hG
      replace hf : fX2_closed_6_b p1 p2 u4 v6 = some rr := hf
      obtain ⟨G1, eG1⟩ : ∃ G : ((Int64 × Int32) ⊕ (Int64)) → Prop, G = ds_G (fun s' => ∃ r', ds_it (fun s => fX2_closed_6_b p1 p2 s.1 s.2) n s' = some r' ∧ G0 r') G0 := ⟨_, rfl⟩
      rw [← eG1] at hG
      have J_67 : ∀ (u4 : Int64) (v6 : Int32) (u7 : Int64) (rr : (Int64 × Int32) ⊕ (Int64)) (hf : fX2_closed_67 u4 v6 u7 = some rr) (hG : G1 rr) (H : Heap) (locs : List Loc) (hP : va_P (dC, dI) vwCl [] H) (hD : va_D A []) (hS : va_S A s.heap H locs) (ls : Array Slot) (hl : lv_has ls 10 [(0, .int p1), (1, .int p2), (4, .long u4), (6, .int v6), (7, .long u7)]), WW H locs (F0 m 67 ls []) := by
        intro u4 v6 u7 rr hf hG H locs hP hD hS ls hl
        refine h2 ?_
        unfold fX2_closed_67 at hf
        refine lv_lload hx hb dX2_closed_67 (lv_at hl 2 rfl) ?_
        refine lv_lload hx hb dX2_closed_69 (lv_at hl 4 rfl) ?_
        refine W.lcmp hx hb dX2_closed_71 ?_
        refine lv_if_ne (tgt := 78) hx hb dX2_closed_72 (by decide) (fun c_72 => ?_) (fun c_72 => ?_)
        · replace hf := ds_f c_72 hf
          refine lv_iinc (v := (v6 + 1)) (lv' := [(6, .int (v6 + 1)), (0, .int p1), (1, .int p2), (4, .long u4), (7, .long u7)]) hx hb dX2_closed_78 hl (k := 3) rfl rfl (by decide) rfl (fun ls hl => ?_)
          refine lv_goto (tgt := 6) hx hb dX2_closed_81 (by decide) ?_
          have hf := Option.some.inj hf
          subst hf
          rw [eG1] at hG
          obtain ⟨rr, hf, hG⟩ := hG
          exact h1 (ih6 u4 (v6 + 1) rr hf hG _ _ hP hD hS _ (lv_sub hl [1, 2, 3, 0] rfl))
        · replace hf := ds_t c_72 hf
          refine lv_lload hx hb dX2_closed_75 (lv_at hl 2 rfl) ?_
          have hf := Option.some.inj hf
          subst hf
          rw [eG1] at hG
          replace hG : G0 _ := hG
          rw [eG0] at hG
          have hG : _ = res := hG
          subst hG
          exact W.lret (v := u4) hx hb hr (fun t ht hW => ⟨⟨u4, (), rfl, rfl, by rw [ht]; exact hP, hD⟩, hS.F ht⟩) hS.2.2 dX2_closed_77
      have J_20 : ∀ (v6 : Int32) (u7 : Int64) (n : Nat) (u4 : Int64) (v9 : Int32) (rr : (Int64 × Int32) ⊕ (Int64)) (hf : ds_it (fun s => fX2_closed_20_b p1 p2 v6 u7 s.1 s.2) n (u4, v9) = some rr) (hG : G1 rr) (H : Heap) (locs : List Loc) (hP : va_P (dC, dI) vwCl [] H) (hD : va_D A []) (hS : va_S A s.heap H locs) (ls : Array Slot) (hl : lv_has ls 10 [(0, .int p1), (1, .int p2), (4, .long u4), (6, .int v6), (7, .long u7), (9, .int v9)]), WW H locs (F0 m 20 ls []) := by
        intro v6 u7 n
        induction n with
        | zero => intro u4 v9 rr hf; exact (ds_it_zero hf).elim
        | succ n ih20 =>
          intro u4 v9 rr hf hG H locs hP hD hS ls hl
          refine h2 ?_
          obtain ⟨rr, hf, hG⟩ := ds_it_succ hf hG
          replace hf : fX2_closed_20_b p1 p2 v6 u7 u4 v9 = some rr := hf
          obtain ⟨G2, eG2⟩ : ∃ G : ((Int64 × Int32) ⊕ ((Int64 × Int32) ⊕ (Int64))) → Prop, G = ds_G (fun s' => ∃ r', ds_it (fun s => fX2_closed_20_b p1 p2 v6 u7 s.1 s.2) n s' = some r' ∧ G1 r') G1 := ⟨_, rfl⟩
          rw [← eG2] at hG
          have J_61 : ∀ (u4 : Int64) (v9 : Int32) (rr : (Int64 × Int32) ⊕ ((Int64 × Int32) ⊕ (Int64))) (hf : fX2_closed_61 u4 v9 = some rr) (hG : G2 rr) (H : Heap) (locs : List Loc) (hP : va_P (dC, dI) vwCl [] H) (hD : va_D A []) (hS : va_S A s.heap H locs) (ls : Array Slot) (hl : lv_has ls 10 [(0, .int p1), (1, .int p2), (4, .long u4), (6, .int v6), (7, .long u7), (9, .int v9)]), WW H locs (F0 m 61 ls []) := by
            intro u4 v9 rr hf hG H locs hP hD hS ls hl
            refine h2 ?_
            unfold fX2_closed_61 at hf
            refine lv_iinc (v := (v9 + 1)) (lv' := [(9, .int (v9 + 1)), (0, .int p1), (1, .int p2), (4, .long u4), (6, .int v6), (7, .long u7)]) hx hb dX2_closed_61 hl (k := 5) rfl rfl (by decide) rfl (fun ls hl => ?_)
            refine lv_goto (tgt := 20) hx hb dX2_closed_64 (by decide) ?_
            have hf := Option.some.inj hf
            subst hf
            rw [eG2] at hG
            obtain ⟨rr, hf, hG⟩ := hG
            exact h1 (ih20 u4 (v9 + 1) rr hf hG _ _ hP hD hS _ (lv_sub hl [1, 2, 3, 4, 5, 0] rfl))
          unfold fX2_closed_20_b at hf
          refine lv_iload hx hb dX2_closed_20 (lv_at hl 5 rfl) ?_
          refine lv_bipush (v := 64) hx hb dX2_closed_22 (by decide) ?_
          refine lv_icmp_ge (tgt := 67) hx hb dX2_closed_24 (by decide) (fun c_24 => ?_) (fun c_24 => ?_)
          · replace hf := ds_t c_24 hf
            obtain ⟨rr, hr_0, hf⟩ := ds_ob hf
            have hf := Option.some.inj hf
            subst hf
            rw [eG2] at hG
            replace hG : G1 rr := hG
            have hf := hr_0
            exact h1 (J_67 u4 v6 u7 _ hf hG _ _ hP hD hS _ (lv_sub hl [0, 1, 2, 3, 4] rfl))
          · replace hf := ds_f c_24 hf
            refine lv_lload hx hb dX2_closed_27 (lv_at hl 2 rfl) ?_
            refine lv_iload hx hb dX2_closed_29 (lv_at hl 5 rfl) ?_
            refine lv_lushr (v := (ds_lushr u4 v9)) hx hb dX2_closed_31 rfl ?_
            refine lv_lconst (v := 1) hx hb dX2_closed_32 (by decide) ?_
            refine lv_land hx hb dX2_closed_33 ?_
            refine lv_lconst (v := 0) hx hb dX2_closed_34 (by decide) ?_
            refine W.lcmp hx hb dX2_closed_35 ?_
            refine lv_if_eq (tgt := 61) hx hb dX2_closed_36 (by decide) (fun c_36 => ?_) (fun c_36 => ?_)
            · replace hf := ds_t c_36 hf
              exact h1 (J_61 u4 v9 _ hf hG _ _ hP hD hS _ (lv_sub hl [0, 1, 2, 3, 4, 5] rfl))
            · replace hf := ds_f c_36 hf
              refine lv_lload hx hb dX2_closed_39 (lv_at hl 2 rfl) ?_
              refine lv_iload_n hx hb dX2_closed_41 rfl (lv_at hl 0 rfl) ?_
              refine lv_iconst (v := 0) hx hb dX2_closed_42 (by decide) ?_
              refine lv_iload_n hx hb dX2_closed_43 rfl (lv_at hl 1 rfl) ?_
              refine lv_iload hx hb dX2_closed_44 (lv_at hl 5 rfl) ?_
              obtain ⟨q46, hq46, hf⟩ := ds_ob hf
              refine ds_calll (wr := []) (va_runS (As := [.int p1, .int (0 : Int32), .int p2, .int v9]) (rest := [.long u4]) ⟨hx, hb, hml, hown, hts⟩ (c_X2_brought l dC dI ca sa  H.size  p1 (0 : Int32) p2 v9 q46 hq46) (va_cwS 4 hts (ds_gS kw_281 kw_282 kw_272 kw_283) rfl rfl rfl (by decide +kernel) ⟨Nat.le_of_ble_eq_true rfl, Nat.le_of_ble_eq_true rfl⟩) ⟨ds_blind, ds_at hP hD hK hE hS hA [] rfl rfl _⟩ rfl rfl hl.1 rfl (lv_room (Nat.le_of_ble_eq_true rfl)) dX2_closed_46 ⟨Nat.zero_le _, Nat.zero_le _⟩) hP hD hS hA [] [] rfl rfl rfl (by decide) (fun H locs hP hD hS => ?_)
              have hP : va_P (dC, dI) vwCl [] H := hP
              have hD : va_D A [] := hD
              refine lv_iload_n hx hb dX2_closed_49 rfl (lv_at hl 0 rfl) ?_
              refine lv_iconst (v := 3) hx hb dX2_closed_50 (by decide) ?_
              refine lv_iload_n hx hb dX2_closed_51 rfl (lv_at hl 1 rfl) ?_
              refine lv_iload hx hb dX2_closed_52 (lv_at hl 5 rfl) ?_
              obtain ⟨q54, hq54, hf⟩ := ds_ob hf
              refine ds_calll (wr := []) (va_runS (As := [.int p1, .int (3 : Int32), .int p2, .int v9]) (rest := [.long q46, .long u4]) ⟨hx, hb, hml, hown, hts⟩ (c_X2_brought l dC dI ca sa  H.size  p1 (3 : Int32) p2 v9 q54 hq54) (va_cwS 4 hts (ds_gS kw_281 kw_282 kw_272 kw_283) rfl rfl rfl (by decide +kernel) ⟨Nat.le_of_ble_eq_true rfl, Nat.le_of_ble_eq_true rfl⟩) ⟨ds_blind, ds_at hP hD hK hE hS hA [] rfl rfl _⟩ rfl rfl hl.1 rfl (lv_room (Nat.le_of_ble_eq_true rfl)) dX2_closed_54 ⟨Nat.zero_le _, Nat.zero_le _⟩) hP hD hS hA [] [] rfl rfl rfl (by decide) (fun H locs hP hD hS => ?_)
              have hP : va_P (dC, dI) vwCl [] H := hP
              have hD : va_D A [] := hD
              refine lv_lor hx hb dX2_closed_57 ?_
              refine lv_lor hx hb dX2_closed_58 ?_
              refine lv_lstore (lv' := [(4, .long (u4 ||| (q46 ||| q54))), (0, .int p1), (1, .int p2), (6, .int v6), (7, .long u7), (9, .int v9)]) hx hb dX2_closed_59 hl (by decide) rfl (fun ls hl => ?_)
              exact h1 (J_61 (u4 ||| (q46 ||| q54)) v9 _ hf hG _ _ hP hD hS _ (lv_sub hl [1, 2, 0, 3, 4, 5] rfl))
      unfold fX2_closed_6_b at hf
      refine lv_iload hx hb dX2_closed_6 (lv_at hl 3 rfl) ?_
      refine lv_bipush (v := 64) hx hb dX2_closed_8 (by decide) ?_
      refine lv_icmp_ge (tgt := 84) hx hb dX2_closed_10 (by decide) (fun c_10 => ?_) (fun c_10 => ?_)
      · replace hf := ds_t c_10 hf
        refine lv_lload hx hb dX2_closed_84 (lv_at hl 2 rfl) ?_
        have hf := Option.some.inj hf
        subst hf
        rw [eG1] at hG
        replace hG : G0 _ := hG
        rw [eG0] at hG
        have hG : _ = res := hG
        subst hG
        exact W.lret (v := u4) hx hb hr (fun t ht hW => ⟨⟨u4, (), rfl, rfl, by rw [ht]; exact hP, hD⟩, hS.F ht⟩) hS.2.2 dX2_closed_86
      · replace hf := ds_f c_10 hf
        refine lv_lload hx hb dX2_closed_13 (lv_at hl 2 rfl) ?_
        refine lv_lstore (lv' := [(7, .long u4), (0, .int p1), (1, .int p2), (4, .long u4), (6, .int v6)]) hx hb dX2_closed_15 hl (by decide) rfl (fun ls hl => ?_)
        refine lv_iconst (v := 0) hx hb dX2_closed_17 (by decide) ?_
        refine lv_istore (lv' := [(9, .int (0 : Int32)), (7, .long u4), (0, .int p1), (1, .int p2), (4, .long u4), (6, .int v6)]) hx hb dX2_closed_18 hl (by decide) rfl (fun ls hl => ?_)
        exact h1 (J_20 v6 u4 1000 u4 (0 : Int32) _ hf hG _ _ hP hD hS _ (lv_sub hl [2, 3, 4, 5, 1, 0] rfl))
  unfold fX2_closed at hf
  refine lv_lload_n hx hb dX2_closed_0 rfl (lv_at hl 2 rfl) ?_
  refine lv_lstore (lv' := [(4, .long p3), (0, .int p1), (1, .int p2), (2, .long p3)]) hx hb dX2_closed_1 hl (by decide) rfl (fun ls hl => ?_)
  refine lv_iconst (v := 0) hx hb dX2_closed_3 (by decide) ?_
  refine lv_istore (lv' := [(6, .int (0 : Int32)), (4, .long p3), (0, .int p1), (1, .int p2), (2, .long p3)]) hx hb dX2_closed_4 hl (by decide) rfl (fun ls hl => ?_)
  exact h1 (J_6  1000 p3 (0 : Int32) _ hf hG _ _ hP hD hS _ (lv_sub hl [2, 3, 1, 0] rfl))
theorem dX2_split_0 : decode cX2_split 0 = .ok (.lconst 0, 1) := by decide +kernel
theorem dX2_split_1 : decode cX2_split 1 = .ok (.lstore_n 3, 1) := by decide +kernel
theorem dX2_split_2 : decode cX2_split 2 = .ok (.aload_n 0, 1) := by decide +kernel
theorem dX2_split_3 : decode cX2_split 3 = .ok (.iconst 0, 1) := by decide +kernel
theorem dX2_split_4 : decode cX2_split 4 = .ok (.putfield 23, 3) := by decide +kernel
theorem dX2_split_7 : decode cX2_split 7 = .ok (.iconst 0, 1) := by decide +kernel
theorem dX2_split_8 : decode cX2_split 8 = .ok (.istore 5, 2) := by decide +kernel
theorem dX2_split_10 : decode cX2_split 10 = .ok (.iload 5, 2) := by decide +kernel
theorem dX2_split_12 : decode cX2_split 12 = .ok (.aload_n 0, 1) := by decide +kernel
theorem dX2_split_13 : decode cX2_split 13 = .ok (.getfield 9, 3) := by decide +kernel
theorem dX2_split_16 : decode cX2_split 16 = .ok (.arraylength, 1) := by decide +kernel
theorem dX2_split_17 : decode cX2_split 17 = .ok (.if_icmp .ge 94, 3) := by decide +kernel
theorem dX2_split_20 : decode cX2_split 20 = .ok (.iload 5, 2) := by decide +kernel
theorem dX2_split_22 : decode cX2_split 22 = .ok (.bipush 8, 2) := by decide +kernel
theorem dX2_split_24 : decode cX2_split 24 = .ok (.idiv, 1) := by decide +kernel
theorem dX2_split_25 : decode cX2_split 25 = .ok (.iload_n 2, 1) := by decide +kernel
theorem dX2_split_26 : decode cX2_split 26 = .ok (.if_icmp .ge 16, 3) := by decide +kernel
theorem dX2_split_29 : decode cX2_split 29 = .ok (.iload 5, 2) := by decide +kernel
theorem dX2_split_31 : decode cX2_split 31 = .ok (.bipush 8, 2) := by decide +kernel
theorem dX2_split_33 : decode cX2_split 33 = .ok (.irem, 1) := by decide +kernel
theorem dX2_split_34 : decode cX2_split 34 = .ok (.iload_n 2, 1) := by decide +kernel
theorem dX2_split_35 : decode cX2_split 35 = .ok (.if_icmp .ge 7, 3) := by decide +kernel
theorem dX2_split_38 : decode cX2_split 38 = .ok (.iconst 1, 1) := by decide +kernel
theorem dX2_split_39 : decode cX2_split 39 = .ok (.goto 4, 3) := by decide +kernel
theorem dX2_split_42 : decode cX2_split 42 = .ok (.iconst 0, 1) := by decide +kernel
theorem dX2_split_43 : decode cX2_split 43 = .ok (.istore 6, 2) := by decide +kernel
theorem dX2_split_45 : decode cX2_split 45 = .ok (.aload_n 0, 1) := by decide +kernel
theorem dX2_split_46 : decode cX2_split 46 = .ok (.getfield 9, 3) := by decide +kernel
theorem dX2_split_49 : decode cX2_split 49 = .ok (.iload 5, 2) := by decide +kernel
theorem dX2_split_51 : decode cX2_split 51 = .ok (.lconst 0, 1) := by decide +kernel
theorem dX2_split_52 : decode cX2_split 52 = .ok (.lastore, 1) := by decide +kernel
theorem dX2_split_53 : decode cX2_split 53 = .ok (.iload 6, 2) := by decide +kernel
theorem dX2_split_55 : decode cX2_split 55 = .ok (.ifCond .eq 50, 3) := by decide +kernel
theorem dX2_split_58 : decode cX2_split 58 = .ok (.lload_n 3, 1) := by decide +kernel
theorem dX2_split_59 : decode cX2_split 59 = .ok (.iload 5, 2) := by decide +kernel
theorem dX2_split_61 : decode cX2_split 61 = .ok (.lushr, 1) := by decide +kernel
theorem dX2_split_62 : decode cX2_split 62 = .ok (.lconst 1, 1) := by decide +kernel
theorem dX2_split_63 : decode cX2_split 63 = .ok (.land, 1) := by decide +kernel
theorem dX2_split_64 : decode cX2_split 64 = .ok (.lconst 0, 1) := by decide +kernel
theorem dX2_split_65 : decode cX2_split 65 = .ok (.lcmp, 1) := by decide +kernel
theorem dX2_split_66 : decode cX2_split 66 = .ok (.ifCond .ne 39, 3) := by decide +kernel
theorem dX2_split_69 : decode cX2_split 69 = .ok (.aload_n 0, 1) := by decide +kernel
theorem dX2_split_70 : decode cX2_split 70 = .ok (.getfield 9, 3) := by decide +kernel
theorem dX2_split_73 : decode cX2_split 73 = .ok (.iload 5, 2) := by decide +kernel
theorem dX2_split_75 : decode cX2_split 75 = .ok (.iload_n 1, 1) := by decide +kernel
theorem dX2_split_76 : decode cX2_split 76 = .ok (.iload_n 2, 1) := by decide +kernel
theorem dX2_split_77 : decode cX2_split 77 = .ok (.lconst 1, 1) := by decide +kernel
theorem dX2_split_78 : decode cX2_split 78 = .ok (.iload 5, 2) := by decide +kernel
theorem dX2_split_80 : decode cX2_split 80 = .ok (.lshl, 1) := by decide +kernel
theorem dX2_split_81 : decode cX2_split 81 = .ok (.invokestatic 27, 3) := by decide +kernel
theorem dX2_split_84 : decode cX2_split 84 = .ok (.lastore, 1) := by decide +kernel
theorem dX2_split_85 : decode cX2_split 85 = .ok (.lload_n 3, 1) := by decide +kernel
theorem dX2_split_86 : decode cX2_split 86 = .ok (.aload_n 0, 1) := by decide +kernel
theorem dX2_split_87 : decode cX2_split 87 = .ok (.getfield 9, 3) := by decide +kernel
theorem dX2_split_90 : decode cX2_split 90 = .ok (.iload 5, 2) := by decide +kernel
theorem dX2_split_92 : decode cX2_split 92 = .ok (.laload, 1) := by decide +kernel
theorem dX2_split_93 : decode cX2_split 93 = .ok (.lor, 1) := by decide +kernel
theorem dX2_split_94 : decode cX2_split 94 = .ok (.lstore_n 3, 1) := by decide +kernel
theorem dX2_split_95 : decode cX2_split 95 = .ok (.aload_n 0, 1) := by decide +kernel
theorem dX2_split_96 : decode cX2_split 96 = .ok (.dup, 1) := by decide +kernel
theorem dX2_split_97 : decode cX2_split 97 = .ok (.getfield 23, 3) := by decide +kernel
theorem dX2_split_100 : decode cX2_split 100 = .ok (.iconst 1, 1) := by decide +kernel
theorem dX2_split_101 : decode cX2_split 101 = .ok (.iadd, 1) := by decide +kernel
theorem dX2_split_102 : decode cX2_split 102 = .ok (.putfield 23, 3) := by decide +kernel
theorem dX2_split_105 : decode cX2_split 105 = .ok (.iinc 5 1, 3) := by decide +kernel
theorem dX2_split_108 : decode cX2_split 108 = .ok (.goto (-98), 3) := by decide +kernel
theorem dX2_split_111 : decode cX2_split 111 = .ok (.return_, 1) := by decide +kernel
def fX2_split_105 (o_size : Int32) (o_members_r : Nat → Int64) (u3 : Int64) (v5 : Int32) : Option ((Int64 × Int32 × Int32 × (Nat → Int64)) ⊕ (Int32 × (Nat → Int64))) :=
  some (.inl (u3, (v5 + 1), o_size, o_members_r))
def fX2_split_43 (o_size : Int32) (o_members_r : Nat → Int64) (p1 : Int32) (p2 : Int32) (u3 : Int64) (v5 : Int32) (s0 : Int32) : Option ((Int64 × Int32 × Int32 × (Nat → Int64)) ⊕ (Int32 × (Nat → Int64))) :=
  if ds_in v5 64 = true then if s0 = 0 then fX2_split_105 o_size (vp_updL o_members_r v5.toNatClampNeg (0 : Int64)) u3 v5 else if (lg_cmp ((ds_lushr u3 v5) &&& (1 : Int64)) (0 : Int64)) = 0 then Option.bind (fX2_closed p1 p2 (ds_lshl (1 : Int64) v5)) fun q81 => if ds_in v5 64 = true then if ds_in v5 64 = true then Option.bind (some ((u3 ||| ((vp_updL (vp_updL o_members_r v5.toNatClampNeg (0 : Int64)) v5.toNatClampNeg q81) v5.toNatClampNeg)))) fun x94 => fX2_split_105 (o_size + (1 : Int32)) (vp_updL (vp_updL o_members_r v5.toNatClampNeg (0 : Int64)) v5.toNatClampNeg q81) x94 v5 else none else none else fX2_split_105 o_size (vp_updL o_members_r v5.toNatClampNeg (0 : Int64)) u3 v5 else none
def fX2_split_42 (o_size : Int32) (o_members_r : Nat → Int64) (p1 : Int32) (p2 : Int32) (u3 : Int64) (v5 : Int32) : Option ((Int64 × Int32 × Int32 × (Nat → Int64)) ⊕ (Int32 × (Nat → Int64))) :=
  fX2_split_43 o_size o_members_r p1 p2 u3 v5 (0 : Int32)
def fX2_split_10_b (p1 : Int32) (p2 : Int32) (u3 : Int64) (v5 : Int32) (o_size : Int32) (o_members_r : Nat → Int64) : Option ((Int64 × Int32 × Int32 × (Nat → Int64)) ⊕ (Int32 × (Nat → Int64))) :=
  if (64 : Int32) ≤ v5 then some (.inr (o_size, o_members_r)) else if p2 ≤ (v5 / (8 : Int32)) then fX2_split_42 o_size o_members_r p1 p2 u3 v5 else if p2 ≤ (ds_rem v5 (8 : Int32)) then fX2_split_42 o_size o_members_r p1 p2 u3 v5 else fX2_split_43 o_size o_members_r p1 p2 u3 v5 (1 : Int32)
def fX2_split_10 (p1 : Int32) (p2 : Int32) (u3 : Int64) (v5 : Int32) (o_size : Int32) (o_members_r : Nat → Int64) : Option (Int32 × (Nat → Int64)) := ds_it (fun s => fX2_split_10_b p1 p2 s.1 s.2.1 s.2.2.1 s.2.2.2) 1000 (u3, v5, o_size, o_members_r)
def fX2_split (o_members_r : Nat → Int64) (p1 : Int32) (p2 : Int32) : Option (Int32 × (Nat → Int64)) :=
  fX2_split_10 p1 p2 (0 : Int64) (0 : Int32) (0 : Int32) o_members_r
set_option maxHeartbeats 4000000 in
set_option maxRecDepth 100000 in
theorem c_X2_split (l : Launch) (dC : Nat → ClassId) (dI : Nat → Nat → Nat) (ca : Nat → ClassId) (sa : Nat → Nat) (h_o : Nat) (h_o_members : Nat) (sz : Nat) (o_size : Int32) (o_members_r : Nat → Int64) (p1 : Int32) (p2 : Int32) (res : Int32 × (Nat → Int64)) (hf : fX2_split o_members_r p1 p2 = some res) : Met l yX2_split (Cond.code yX2_split cX2_split 7 none :: ds_gw) { frames := 4, cells := 0, slots := 0, locals := 101 } (va_Pc [.ref h_o, .int p1, .int p2] (ds_Pre dC dI ca sa [(h_o, .inr (1, [.ref h_o_members, .int o_size])), (h_o_members, .inl (ca 1, 64, .inr (.inl o_members_r)))] sz)) (va_Qv (fun (_ : Unit) => True) (ds_B dC dI (va_A [(h_o, .inr (1, [.ref h_o_members, .int o_size])), (h_o_members, .inl (ca 1, 64, .inr (.inl o_members_r)))] sz) [(h_o, .inr (1, [.ref h_o_members, .int res.1])), (h_o_members, .inl (ca 1, 64, .inr (.inl res.2)))]) (va_A [(h_o, .inr (1, [.ref h_o_members, .int o_size])), (h_o_members, .inl (ca 1, 64, .inr (.inl o_members_r)))] sz)) 0 0 (va_A [(h_o, .inr (1, [.ref h_o_members, .int o_size])), (h_o_members, .inl (ca 1, 64, .inr (.inl o_members_r)))] sz) := by
  refine Met.ofW (cc := cX2_split) (maxL := 7) (ret := none) (by decide) rfl ?_
  intro p e s m args below meth c s₁ B hml hv
  obtain ⟨rfl, hsz, hP, hK, hD0, hE⟩ := hv
  have hx := B.exec
  have hb := B.bytes
  have hr := B.returns
  have hts := atoms_spec (ws := Cond.code yX2_split cX2_split 7 none :: ds_gw) B.pre
  have hg : ∀ {w : Cond}, w ∈ ds_gw → w.before _ s = true := fun h => hts _ (List.mem_cons_of_mem _ h)
  have hown : s.vm.findClass RX2 = some m.cls := findClass_of_methodNamed B.named
  have hlocks := B.notSynchronized
  subst hsz
  have hD := hD0.self (sz := s.heap.size)
  generalize hAe : va_A [(h_o, .inr (1, [.ref h_o_members, .int o_size])), (h_o_members, .inl (ca 1, 64, .inr (.inl o_members_r)))] s.heap.size = A at hD hE ⊢
  have hA : ∀ q : Nat, s.heap.size ≤ q → A q := fun q h => by rw [← hAe]; exact Or.inr h
  have hS : va_S A s.heap s.heap [] := va_S.rf
  have hl := lv_entry ([.ref h_o, .int p1, .int p2]) (n := 7) (Nat.le_of_ble_eq_true rfl)
  rw [lg_entry_eq]
  generalize (lg_sl ([.ref h_o, .int p1, .int p2]) ++ List.replicate (7 - (lg_sl ([.ref h_o, .int p1, .int p2])).length) Slot.unset).toArray = ls at hl ⊢
  have hl : lv_has ls 7 [(0, .ref h_o), (1, .int p1), (2, .int p2)] := hl
  obtain ⟨G0, eG0⟩ : ∃ G : (Int32 × (Nat → Int64)) → Prop, G = (fun r => r = res) := ⟨_, rfl⟩
  obtain ⟨rr, hrr⟩ : ∃ z, z = res := ⟨_, rfl⟩
  rw [← hrr] at hf
  have hG : G0 rr := by subst eG0; exact hrr
  refine ds_cap (fun WW h1 h2 => ?_)
  have J_10 : ∀ (n : Nat) (u3 : Int64) (v5 : Int32) (o_size : Int32) (o_members_r : Nat → Int64) (rr : Int32 × (Nat → Int64)) (hf : ds_it (fun s => fX2_split_10_b p1 p2 s.1 s.2.1 s.2.2.1 s.2.2.2) n (u3, v5, o_size, o_members_r) = some rr) (hG : G0 rr) (H : Heap) (locs : List Loc) (hP : va_P (dC, dI) vwCl [(h_o, .inr (1, [.ref h_o_members, .int o_size])), (h_o_members, .inl (ca 1, 64, .inr (.inl o_members_r)))] H) (hD : va_D A [(h_o, .inr (1, [.ref h_o_members, .int o_size])), (h_o_members, .inl (ca 1, 64, .inr (.inl o_members_r)))]) (hS : va_S A s.heap H locs) (ls : Array Slot) (hl : lv_has ls 7 [(0, .ref h_o), (1, .int p1), (2, .int p2), (3, .long u3), (5, .int v5)]), WW H locs (F0 m 10 ls []) := by
    intro  n
    induction n with
    | zero => intro u3 v5 o_size o_members_r rr hf; exact (ds_it_zero hf).elim
    | succ n ih10 =>
      intro u3 v5 o_size o_members_r rr hf hG H locs hP hD hS ls hl
      refine h2 ?_
      obtain ⟨rr, hf, hG⟩ := ds_it_succ hf hG
      replace hf : fX2_split_10_b p1 p2 u3 v5 o_size o_members_r = some rr := hf
      obtain ⟨G1, eG1⟩ : ∃ G : ((Int64 × Int32 × Int32 × (Nat → Int64)) ⊕ (Int32 × (Nat → Int64))) → Prop, G = ds_G (fun s' => ∃ r', ds_it (fun s => fX2_split_10_b p1 p2 s.1 s.2.1 s.2.2.1 s.2.2.2) n s' = some r' ∧ G0 r') G0 := ⟨_, rfl⟩
      rw [← eG1] at hG
      have J_105 : ∀ (u3 : Int64) (v5 : Int32) (o_size : Int32) (o_members_r : Nat → Int64) (rr : (Int64 × Int32 × Int32 × (Nat → Int64)) ⊕ (Int32 × (Nat → Int64))) (hf : fX2_split_105 o_size o_members_r u3 v5 = some rr) (hG : G1 rr) (H : Heap) (locs : List Loc) (hP : va_P (dC, dI) vwCl [(h_o, .inr (1, [.ref h_o_members, .int o_size])), (h_o_members, .inl (ca 1, 64, .inr (.inl o_members_r)))] H) (hD : va_D A [(h_o, .inr (1, [.ref h_o_members, .int o_size])), (h_o_members, .inl (ca 1, 64, .inr (.inl o_members_r)))]) (hS : va_S A s.heap H locs) (ls : Array Slot) (hl : lv_has ls 7 [(0, .ref h_o), (1, .int p1), (2, .int p2), (3, .long u3), (5, .int v5)]), WW H locs (F0 m 105 ls []) := by
        intro u3 v5 o_size o_members_r rr hf hG H locs hP hD hS ls hl
        refine h2 ?_
        unfold fX2_split_105 at hf
        refine lv_iinc (v := (v5 + 1)) (lv' := [(5, .int (v5 + 1)), (0, .ref h_o), (1, .int p1), (2, .int p2), (3, .long u3)]) hx hb dX2_split_105 hl (k := 4) rfl rfl (by decide) rfl (fun ls hl => ?_)
        refine lv_goto (tgt := 10) hx hb dX2_split_108 (by decide) ?_
        have hf := Option.some.inj hf
        subst hf
        rw [eG1] at hG
        obtain ⟨rr, hf, hG⟩ := hG
        exact h1 (ih10 u3 (v5 + 1) o_size o_members_r rr hf hG _ _ hP hD hS _ (lv_sub hl [1, 2, 3, 4, 0] rfl))
      have J_43 : ∀ (u3 : Int64) (v5 : Int32) (s0 : Int32) (o_size : Int32) (o_members_r : Nat → Int64) (rr : (Int64 × Int32 × Int32 × (Nat → Int64)) ⊕ (Int32 × (Nat → Int64))) (hf : fX2_split_43 o_size o_members_r p1 p2 u3 v5 s0 = some rr) (hG : G1 rr) (H : Heap) (locs : List Loc) (hP : va_P (dC, dI) vwCl [(h_o, .inr (1, [.ref h_o_members, .int o_size])), (h_o_members, .inl (ca 1, 64, .inr (.inl o_members_r)))] H) (hD : va_D A [(h_o, .inr (1, [.ref h_o_members, .int o_size])), (h_o_members, .inl (ca 1, 64, .inr (.inl o_members_r)))]) (hS : va_S A s.heap H locs) (ls : Array Slot) (hl : lv_has ls 7 [(0, .ref h_o), (1, .int p1), (2, .int p2), (3, .long u3), (5, .int v5)]), WW H locs (F0 m 43 ls [.int s0]) := by
        intro u3 v5 s0 o_size o_members_r rr hf hG H locs hP hD hS ls hl
        refine h2 ?_
        unfold fX2_split_43 at hf
        refine lv_istore (lv' := [(6, .int s0), (0, .ref h_o), (1, .int p1), (2, .int p2), (3, .long u3), (5, .int v5)]) hx hb dX2_split_43 hl (by decide) rfl (fun ls hl => ?_)
        refine lv_aload_n hx hb dX2_split_45 rfl (lv_at hl 1 rfl) ?_
        refine va_get (D := (dC, dI)) (ci := 1) (v := .ref h_o_members) (C := RX2) (T := TX2) (N := 2) hx hb hts (fun w h => List.mem_cons_of_mem _ (kc_X2 w h)) hown hK hP 0 rfl rfl 0 (by decide) (hg kw_274) (fun _ h9 => h9) rfl dX2_split_46 ?_
        refine lv_iload hx hb dX2_split_49 (lv_at hl 5 rfl) ?_
        refine lv_lconst (v := 0) hx hb dX2_split_51 (by decide) ?_
        obtain ⟨i_52, hf⟩ := ds_ci hf
        refine va_last hx hb hK hP hD hS 1 1 rfl rfl i_52 dX2_split_52 (fun H locs hP hD hS => ?_)
        have hP : va_P (dC, dI) vwCl [(h_o, .inr (1, [.ref h_o_members, .int o_size])), (h_o_members, .inl (ca 1, 64, .inr (.inl (vp_updL o_members_r v5.toNatClampNeg (0 : Int64)))))] H := hP
        have hD : va_D A [(h_o, .inr (1, [.ref h_o_members, .int o_size])), (h_o_members, .inl (ca 1, 64, .inr (.inl (vp_updL o_members_r v5.toNatClampNeg (0 : Int64)))))] := hD
        refine lv_iload hx hb dX2_split_53 (lv_at hl 0 rfl) ?_
        refine lv_if_eq (tgt := 105) hx hb dX2_split_55 (by decide) (fun c_55 => ?_) (fun c_55 => ?_)
        · replace hf := ds_t c_55 hf
          exact h1 (J_105 u3 v5 o_size (vp_updL o_members_r v5.toNatClampNeg (0 : Int64)) _ hf hG _ _ hP hD hS _ (lv_sub hl [1, 2, 3, 4, 5] rfl))
        · replace hf := ds_f c_55 hf
          refine lv_lload_n hx hb dX2_split_58 rfl (lv_at hl 4 rfl) ?_
          refine lv_iload hx hb dX2_split_59 (lv_at hl 5 rfl) ?_
          refine lv_lushr (v := (ds_lushr u3 v5)) hx hb dX2_split_61 rfl ?_
          refine lv_lconst (v := 1) hx hb dX2_split_62 (by decide) ?_
          refine lv_land hx hb dX2_split_63 ?_
          refine lv_lconst (v := 0) hx hb dX2_split_64 (by decide) ?_
          refine W.lcmp hx hb dX2_split_65 ?_
          refine lv_if_ne (tgt := 105) hx hb dX2_split_66 (by decide) (fun c_66 => ?_) (fun c_66 => ?_)
          · replace hf := ds_f c_66 hf
            exact h1 (J_105 u3 v5 o_size (vp_updL o_members_r v5.toNatClampNeg (0 : Int64)) _ hf hG _ _ hP hD hS _ (lv_sub hl [1, 2, 3, 4, 5] rfl))
          · replace hf := ds_t c_66 hf
            refine lv_aload_n hx hb dX2_split_69 rfl (lv_at hl 1 rfl) ?_
            refine va_get (D := (dC, dI)) (ci := 1) (v := .ref h_o_members) (C := RX2) (T := TX2) (N := 2) hx hb hts (fun w h => List.mem_cons_of_mem _ (kc_X2 w h)) hown hK hP 0 rfl rfl 0 (by decide) (hg kw_274) (fun _ h9 => h9) rfl dX2_split_70 ?_
            refine lv_iload hx hb dX2_split_73 (lv_at hl 5 rfl) ?_
            refine lv_iload_n hx hb dX2_split_75 rfl (lv_at hl 2 rfl) ?_
            refine lv_iload_n hx hb dX2_split_76 rfl (lv_at hl 3 rfl) ?_
            refine lv_lconst (v := 1) hx hb dX2_split_77 (by decide) ?_
            refine lv_iload hx hb dX2_split_78 (lv_at hl 5 rfl) ?_
            refine lv_lshl (v := (ds_lshl (1 : Int64) v5)) hx hb dX2_split_80 rfl ?_
            obtain ⟨q81, hq81, hf⟩ := ds_ob hf
            refine ds_calll (wr := [(h_o, .inr (1, [.ref h_o_members, .int o_size])), (h_o_members, .inl (ca 1, 64, .inr (.inl (vp_updL o_members_r v5.toNatClampNeg (0 : Int64)))))]) (va_runS (As := [.int p1, .int p2, .long (ds_lshl (1 : Int64) v5)]) (rest := [.int v5, .ref h_o_members]) ⟨hx, hb, hml, hown, hts⟩ (c_X2_closed l dC dI ca sa  H.size  p1 p2 (ds_lshl (1 : Int64) v5) q81 hq81) (va_cwS 3 hts (ds_gS kw_284 kw_285 kw_272 kw_286) rfl rfl rfl (by decide +kernel) ⟨Nat.le_of_ble_eq_true rfl, Nat.le_of_ble_eq_true rfl⟩) ⟨ds_blind, ds_at hP hD hK hE hS hA [] rfl rfl _⟩ rfl rfl hl.1 rfl (lv_room (Nat.le_of_ble_eq_true rfl)) dX2_split_81 ⟨Nat.zero_le _, Nat.zero_le _⟩) hP hD hS hA [] [0, 1] rfl rfl rfl (by decide) (fun H locs hP hD hS => ?_)
            have hP : va_P (dC, dI) vwCl [(h_o, .inr (1, [.ref h_o_members, .int o_size])), (h_o_members, .inl (ca 1, 64, .inr (.inl (vp_updL o_members_r v5.toNatClampNeg (0 : Int64)))))] H := hP
            have hD : va_D A [(h_o, .inr (1, [.ref h_o_members, .int o_size])), (h_o_members, .inl (ca 1, 64, .inr (.inl (vp_updL o_members_r v5.toNatClampNeg (0 : Int64)))))] := hD
            obtain ⟨i_84, hf⟩ := ds_ci hf
            refine va_last hx hb hK hP hD hS 1 1 rfl rfl i_84 dX2_split_84 (fun H locs hP hD hS => ?_)
            have hP : va_P (dC, dI) vwCl [(h_o, .inr (1, [.ref h_o_members, .int o_size])), (h_o_members, .inl (ca 1, 64, .inr (.inl (vp_updL (vp_updL o_members_r v5.toNatClampNeg (0 : Int64)) v5.toNatClampNeg q81))))] H := hP
            have hD : va_D A [(h_o, .inr (1, [.ref h_o_members, .int o_size])), (h_o_members, .inl (ca 1, 64, .inr (.inl (vp_updL (vp_updL o_members_r v5.toNatClampNeg (0 : Int64)) v5.toNatClampNeg q81))))] := hD
            refine lv_lload_n hx hb dX2_split_85 rfl (lv_at hl 4 rfl) ?_
            refine lv_aload_n hx hb dX2_split_86 rfl (lv_at hl 1 rfl) ?_
            refine va_get (D := (dC, dI)) (ci := 1) (v := .ref h_o_members) (C := RX2) (T := TX2) (N := 2) hx hb hts (fun w h => List.mem_cons_of_mem _ (kc_X2 w h)) hown hK hP 0 rfl rfl 0 (by decide) (hg kw_274) (fun _ h9 => h9) rfl dX2_split_87 ?_
            refine lv_iload hx hb dX2_split_90 (lv_at hl 5 rfl) ?_
            obtain ⟨i_92, hf⟩ := ds_ci hf
            refine va_lald hx hb hK hP 1 1 rfl rfl i_92 dX2_split_92 ?_
            refine lv_lor hx hb dX2_split_93 ?_
            obtain ⟨x94, hx_94, hf⟩ := ds_ob hf
            refine ds_nml hx_94 ?_
            refine lv_lstore_n (lv' := [(3, .long x94), (6, .int s0), (0, .ref h_o), (1, .int p1), (2, .int p2), (5, .int v5)]) hx hb dX2_split_94 rfl hl (by decide) rfl (fun ls hl => ?_)
            refine lv_aload_n hx hb dX2_split_95 rfl (lv_at hl 2 rfl) ?_
            refine lv_dup hx hb dX2_split_96 rfl ?_
            refine va_get (D := (dC, dI)) (ci := 1) (v := .int o_size) (C := RX2) (T := TX2) (N := 2) hx hb hts (fun w h => List.mem_cons_of_mem _ (kc_X2 w h)) hown hK hP 0 rfl rfl 1 (by decide) (hg kw_287) (fun _ h9 => h9) rfl dX2_split_97 ?_
            refine lv_iconst (v := 1) hx hb dX2_split_100 (by decide) ?_
            refine lv_iadd hx hb dX2_split_101 ?_
            refine va_put (D := (dC, dI)) (ci := 1) (v := .int (o_size + (1 : Int32))) (ty := tyX2 1) (C := RX2) (T := TX2) (N := 2) hx hb hts (fun w h => List.mem_cons_of_mem _ (kc_X2 w h)) tyX2 tyX2_ok nmX2 hown hK hP hD hS 0 rfl rfl 1 (by decide) (hg kw_287) (fun _ h9 => h9) rfl (by decide +kernel) rfl rfl (Nat.le_of_ble_eq_true rfl) dX2_split_102 (fun H locs hP hD hS => ?_)
            have hP : va_P (dC, dI) vwCl [(h_o, .inr (1, [.ref h_o_members, .int (o_size + (1 : Int32))])), (h_o_members, .inl (ca 1, 64, .inr (.inl (vp_updL (vp_updL o_members_r v5.toNatClampNeg (0 : Int64)) v5.toNatClampNeg q81))))] H := hP
            have hD : va_D A [(h_o, .inr (1, [.ref h_o_members, .int (o_size + (1 : Int32))])), (h_o_members, .inl (ca 1, 64, .inr (.inl (vp_updL (vp_updL o_members_r v5.toNatClampNeg (0 : Int64)) v5.toNatClampNeg q81))))] := hD
            exact h1 (J_105 x94 v5 (o_size + (1 : Int32)) (vp_updL (vp_updL o_members_r v5.toNatClampNeg (0 : Int64)) v5.toNatClampNeg q81) _ hf hG _ _ hP hD hS _ (lv_sub hl [2, 3, 4, 0, 5] rfl))
      have J_42 : ∀ (u3 : Int64) (v5 : Int32) (o_size : Int32) (o_members_r : Nat → Int64) (rr : (Int64 × Int32 × Int32 × (Nat → Int64)) ⊕ (Int32 × (Nat → Int64))) (hf : fX2_split_42 o_size o_members_r p1 p2 u3 v5 = some rr) (hG : G1 rr) (H : Heap) (locs : List Loc) (hP : va_P (dC, dI) vwCl [(h_o, .inr (1, [.ref h_o_members, .int o_size])), (h_o_members, .inl (ca 1, 64, .inr (.inl o_members_r)))] H) (hD : va_D A [(h_o, .inr (1, [.ref h_o_members, .int o_size])), (h_o_members, .inl (ca 1, 64, .inr (.inl o_members_r)))]) (hS : va_S A s.heap H locs) (ls : Array Slot) (hl : lv_has ls 7 [(0, .ref h_o), (1, .int p1), (2, .int p2), (3, .long u3), (5, .int v5)]), WW H locs (F0 m 42 ls []) := by
        intro u3 v5 o_size o_members_r rr hf hG H locs hP hD hS ls hl
        refine h2 ?_
        unfold fX2_split_42 at hf
        refine lv_iconst (v := 0) hx hb dX2_split_42 (by decide) ?_
        exact h1 (J_43 u3 v5 (0 : Int32) o_size o_members_r _ hf hG _ _ hP hD hS _ (lv_sub hl [0, 1, 2, 3, 4] rfl))
      unfold fX2_split_10_b at hf
      refine lv_iload hx hb dX2_split_10 (lv_at hl 4 rfl) ?_
      refine lv_aload_n hx hb dX2_split_12 rfl (lv_at hl 0 rfl) ?_
      refine va_get (D := (dC, dI)) (ci := 1) (v := .ref h_o_members) (C := RX2) (T := TX2) (N := 2) hx hb hts (fun w h => List.mem_cons_of_mem _ (kc_X2 w h)) hown hK hP 0 rfl rfl 0 (by decide) (hg kw_274) (fun _ h9 => h9) rfl dX2_split_13 ?_
      refine va_alen (v := 64) hx hb hK hP 1 1 rfl rfl rfl dX2_split_16 ?_
      refine lv_icmp_ge (tgt := 111) hx hb dX2_split_17 (by decide) (fun c_17 => ?_) (fun c_17 => ?_)
      · replace hf := ds_t c_17 hf
        have hf := Option.some.inj hf
        subst hf
        rw [eG1] at hG
        replace hG : G0 _ := hG
        rw [eG0] at hG
        have hG : _ = res := hG
        subst hG
        exact W.vret hx hb hr (fun t ht hW => ⟨⟨(), rfl, trivial, by rw [ht]; exact hP, hD⟩, hS.F ht⟩) hS.2.2 dX2_split_111
      · replace hf := ds_f c_17 hf
        refine lv_iload hx hb dX2_split_20 (lv_at hl 4 rfl) ?_
        refine lv_bipush (v := 8) hx hb dX2_split_22 (by decide) ?_
        refine lv_idiv hx hb dX2_split_24 (by decide) ?_
        refine lv_iload_n hx hb dX2_split_25 rfl (lv_at hl 2 rfl) ?_
        refine lv_icmp_ge (tgt := 42) hx hb dX2_split_26 (by decide) (fun c_26 => ?_) (fun c_26 => ?_)
        · replace hf := ds_t c_26 hf
          exact h1 (J_42 u3 v5 o_size o_members_r _ hf hG _ _ hP hD hS _ (lv_sub hl [0, 1, 2, 3, 4] rfl))
        · replace hf := ds_f c_26 hf
          refine lv_iload hx hb dX2_split_29 (lv_at hl 4 rfl) ?_
          refine lv_bipush (v := 8) hx hb dX2_split_31 (by decide) ?_
          refine lv_irem hx hb dX2_split_33 (by decide) ?_
          refine lv_iload_n hx hb dX2_split_34 rfl (lv_at hl 2 rfl) ?_
          refine lv_icmp_ge (tgt := 42) hx hb dX2_split_35 (by decide) (fun c_35 => ?_) (fun c_35 => ?_)
          · replace hf := ds_t c_35 hf
            exact h1 (J_42 u3 v5 o_size o_members_r _ hf hG _ _ hP hD hS _ (lv_sub hl [0, 1, 2, 3, 4] rfl))
          · replace hf := ds_f c_35 hf
            refine lv_iconst (v := 1) hx hb dX2_split_38 (by decide) ?_
            refine lv_goto (tgt := 43) hx hb dX2_split_39 (by decide) ?_
            exact h1 (J_43 u3 v5 (1 : Int32) o_size o_members_r _ hf hG _ _ hP hD hS _ (lv_sub hl [0, 1, 2, 3, 4] rfl))
  unfold fX2_split at hf
  refine lv_lconst (v := 0) hx hb dX2_split_0 (by decide) ?_
  refine lv_lstore_n (lv' := [(3, .long (0 : Int64)), (0, .ref h_o), (1, .int p1), (2, .int p2)]) hx hb dX2_split_1 rfl hl (by decide) rfl (fun ls hl => ?_)
  refine lv_aload_n hx hb dX2_split_2 rfl (lv_at hl 1 rfl) ?_
  refine lv_iconst (v := 0) hx hb dX2_split_3 (by decide) ?_
  refine va_put (D := (dC, dI)) (ci := 1) (v := .int (0 : Int32)) (ty := tyX2 1) (C := RX2) (T := TX2) (N := 2) hx hb hts (fun w h => List.mem_cons_of_mem _ (kc_X2 w h)) tyX2 tyX2_ok nmX2 hown hK hP hD hS 0 rfl rfl 1 (by decide) (hg kw_287) (fun _ h9 => h9) rfl (by decide +kernel) rfl rfl (Nat.le_of_ble_eq_true rfl) dX2_split_4 (fun H locs hP hD hS => ?_)
  have hP : va_P (dC, dI) vwCl [(h_o, .inr (1, [.ref h_o_members, .int (0 : Int32)])), (h_o_members, .inl (ca 1, 64, .inr (.inl o_members_r)))] H := hP
  have hD : va_D A [(h_o, .inr (1, [.ref h_o_members, .int (0 : Int32)])), (h_o_members, .inl (ca 1, 64, .inr (.inl o_members_r)))] := hD
  refine lv_iconst (v := 0) hx hb dX2_split_7 (by decide) ?_
  refine lv_istore (lv' := [(5, .int (0 : Int32)), (3, .long (0 : Int64)), (0, .ref h_o), (1, .int p1), (2, .int p2)]) hx hb dX2_split_8 hl (by decide) rfl (fun ls hl => ?_)
  exact h1 (J_10  1000 (0 : Int64) (0 : Int32) (0 : Int32) o_members_r _ hf hG _ _ hP hD hS _ (lv_sub hl [2, 3, 4, 1, 0] rfl))
theorem dX2_withCell_0 : decode cX2_withCell 0 = .ok (.iload_n 1, 1) := by decide +kernel
theorem dX2_withCell_1 : decode cX2_withCell 1 = .ok (.iload_n 2, 1) := by decide +kernel
theorem dX2_withCell_2 : decode cX2_withCell 2 = .ok (.invokestatic 47, 3) := by decide +kernel
theorem dX2_withCell_5 : decode cX2_withCell 5 = .ok (.lstore_n 3, 1) := by decide +kernel
theorem dX2_withCell_6 : decode cX2_withCell 6 = .ok (.iconst 0, 1) := by decide +kernel
theorem dX2_withCell_7 : decode cX2_withCell 7 = .ok (.istore 5, 2) := by decide +kernel
theorem dX2_withCell_9 : decode cX2_withCell 9 = .ok (.iload 5, 2) := by decide +kernel
theorem dX2_withCell_11 : decode cX2_withCell 11 = .ok (.aload_n 0, 1) := by decide +kernel
theorem dX2_withCell_12 : decode cX2_withCell 12 = .ok (.getfield 9, 3) := by decide +kernel
theorem dX2_withCell_15 : decode cX2_withCell 15 = .ok (.arraylength, 1) := by decide +kernel
theorem dX2_withCell_16 : decode cX2_withCell 16 = .ok (.if_icmp .ge 31, 3) := by decide +kernel
theorem dX2_withCell_19 : decode cX2_withCell 19 = .ok (.aload_n 0, 1) := by decide +kernel
theorem dX2_withCell_20 : decode cX2_withCell 20 = .ok (.getfield 9, 3) := by decide +kernel
theorem dX2_withCell_23 : decode cX2_withCell 23 = .ok (.iload 5, 2) := by decide +kernel
theorem dX2_withCell_25 : decode cX2_withCell 25 = .ok (.laload, 1) := by decide +kernel
theorem dX2_withCell_26 : decode cX2_withCell 26 = .ok (.lload_n 3, 1) := by decide +kernel
theorem dX2_withCell_27 : decode cX2_withCell 27 = .ok (.land, 1) := by decide +kernel
theorem dX2_withCell_28 : decode cX2_withCell 28 = .ok (.lconst 0, 1) := by decide +kernel
theorem dX2_withCell_29 : decode cX2_withCell 29 = .ok (.lcmp, 1) := by decide +kernel
theorem dX2_withCell_30 : decode cX2_withCell 30 = .ok (.ifCond .eq 11, 3) := by decide +kernel
theorem dX2_withCell_33 : decode cX2_withCell 33 = .ok (.aload_n 0, 1) := by decide +kernel
theorem dX2_withCell_34 : decode cX2_withCell 34 = .ok (.getfield 9, 3) := by decide +kernel
theorem dX2_withCell_37 : decode cX2_withCell 37 = .ok (.iload 5, 2) := by decide +kernel
theorem dX2_withCell_39 : decode cX2_withCell 39 = .ok (.laload, 1) := by decide +kernel
theorem dX2_withCell_40 : decode cX2_withCell 40 = .ok (.lreturn, 1) := by decide +kernel
theorem dX2_withCell_41 : decode cX2_withCell 41 = .ok (.iinc 5 1, 3) := by decide +kernel
theorem dX2_withCell_44 : decode cX2_withCell 44 = .ok (.goto (-35), 3) := by decide +kernel
theorem dX2_withCell_47 : decode cX2_withCell 47 = .ok (.lconst 0, 1) := by decide +kernel
theorem dX2_withCell_48 : decode cX2_withCell 48 = .ok (.lreturn, 1) := by decide +kernel
def fX2_withCell_33 (o_members_r : Nat → Int64) (v5 : Int32) : Option (Int64) :=
  if ds_in v5 64 = true then some (o_members_r v5.toNatClampNeg) else none
def fX2_withCell_9_b (o_members_r : Nat → Int64) (u3 : Int64) (v5 : Int32) : Option ((Int32) ⊕ (Int64)) :=
  if (64 : Int32) ≤ v5 then some (.inr (0 : Int64)) else if ds_in v5 64 = true then if (lg_cmp ((o_members_r v5.toNatClampNeg) &&& u3) (0 : Int64)) = 0 then some (.inl (v5 + 1)) else Option.bind (fX2_withCell_33 o_members_r v5) fun z => some (.inr z) else none
def fX2_withCell_9 (o_members_r : Nat → Int64) (u3 : Int64) (v5 : Int32) : Option (Int64) := ds_it (fun s => fX2_withCell_9_b o_members_r u3 s) 1000 v5
def fX2_withCell (o_members_r : Nat → Int64) (p1 : Int32) (p2 : Int32) : Option (Int64) :=
  Option.bind (fX6_bit p1 p2) fun q2 => fX2_withCell_9 o_members_r q2 (0 : Int32)
set_option maxHeartbeats 4000000 in
set_option maxRecDepth 100000 in
theorem c_X2_withCell (l : Launch) (dC : Nat → ClassId) (dI : Nat → Nat → Nat) (ca : Nat → ClassId) (sa : Nat → Nat) (h_o : Nat) (h_o_members : Nat) (sz : Nat) (o_size : Int32) (o_members_r : Nat → Int64) (p1 : Int32) (p2 : Int32) (res : Int64) (hf : fX2_withCell o_members_r p1 p2 = some res) : Met l yX2_withCell (Cond.code yX2_withCell cX2_withCell 6 (some .long) :: ds_gw) { frames := 1, cells := 0, slots := 0, locals := 21 } (va_Pc [.ref h_o, .int p1, .int p2] (ds_Pre dC dI ca sa [(h_o, .inr (1, [.ref h_o_members, .int o_size])), (h_o_members, .inl (ca 1, 64, .inr (.inl o_members_r)))] sz)) (va_Ql (fun r (_ : Unit) => r = res) (ds_B dC dI (va_A [(h_o, .inr (1, [.ref h_o_members, .int o_size])), (h_o_members, .inl (ca 1, 64, .inr (.inl o_members_r)))] sz) [(h_o, .inr (1, [.ref h_o_members, .int o_size])), (h_o_members, .inl (ca 1, 64, .inr (.inl o_members_r)))]) (va_A [(h_o, .inr (1, [.ref h_o_members, .int o_size])), (h_o_members, .inl (ca 1, 64, .inr (.inl o_members_r)))] sz)) 0 0 (va_A [(h_o, .inr (1, [.ref h_o_members, .int o_size])), (h_o_members, .inl (ca 1, 64, .inr (.inl o_members_r)))] sz) := by
  refine Met.ofW (cc := cX2_withCell) (maxL := 6) (ret := (some .long)) (by decide) rfl ?_
  intro p e s m args below meth c s₁ B hml hv
  obtain ⟨rfl, hsz, hP, hK, hD0, hE⟩ := hv
  have hx := B.exec
  have hb := B.bytes
  have hr := B.returns
  have hts := atoms_spec (ws := Cond.code yX2_withCell cX2_withCell 6 (some .long) :: ds_gw) B.pre
  have hg : ∀ {w : Cond}, w ∈ ds_gw → w.before _ s = true := fun h => hts _ (List.mem_cons_of_mem _ h)
  have hown : s.vm.findClass RX2 = some m.cls := findClass_of_methodNamed B.named
  have hlocks := B.notSynchronized
  subst hsz
  have hD := hD0.self (sz := s.heap.size)
  generalize hAe : va_A [(h_o, .inr (1, [.ref h_o_members, .int o_size])), (h_o_members, .inl (ca 1, 64, .inr (.inl o_members_r)))] s.heap.size = A at hD hE ⊢
  have hA : ∀ q : Nat, s.heap.size ≤ q → A q := fun q h => by rw [← hAe]; exact Or.inr h
  have hS : va_S A s.heap s.heap [] := va_S.rf
  have hl := lv_entry ([.ref h_o, .int p1, .int p2]) (n := 6) (Nat.le_of_ble_eq_true rfl)
  rw [lg_entry_eq]
  generalize (lg_sl ([.ref h_o, .int p1, .int p2]) ++ List.replicate (6 - (lg_sl ([.ref h_o, .int p1, .int p2])).length) Slot.unset).toArray = ls at hl ⊢
  have hl : lv_has ls 6 [(0, .ref h_o), (1, .int p1), (2, .int p2)] := hl
  obtain ⟨G0, eG0⟩ : ∃ G : Int64 → Prop, G = (fun r => r = res) := ⟨_, rfl⟩
  obtain ⟨rr, hrr⟩ : ∃ z, z = res := ⟨_, rfl⟩
  rw [← hrr] at hf
  have hG : G0 rr := by subst eG0; exact hrr
  refine ds_cap (fun WW h1 h2 => ?_)
  have J_33 : ∀ (v5 : Int32) (rr : Int64) (hf : fX2_withCell_33 o_members_r v5 = some rr) (hG : G0 rr) (H : Heap) (locs : List Loc) (hP : va_P (dC, dI) vwCl [(h_o, .inr (1, [.ref h_o_members, .int o_size])), (h_o_members, .inl (ca 1, 64, .inr (.inl o_members_r)))] H) (hD : va_D A [(h_o, .inr (1, [.ref h_o_members, .int o_size])), (h_o_members, .inl (ca 1, 64, .inr (.inl o_members_r)))]) (hS : va_S A s.heap H locs) (ls : Array Slot) (hl : lv_has ls 6 [(0, .ref h_o), (5, .int v5)]), WW H locs (F0 m 33 ls []) := by
    intro v5 rr hf hG H locs hP hD hS ls hl
    refine h2 ?_
    unfold fX2_withCell_33 at hf
    refine lv_aload_n hx hb dX2_withCell_33 rfl (lv_at hl 0 rfl) ?_
    refine va_get (D := (dC, dI)) (ci := 1) (v := .ref h_o_members) (C := RX2) (T := TX2) (N := 2) hx hb hts (fun w h => List.mem_cons_of_mem _ (kc_X2 w h)) hown hK hP 0 rfl rfl 0 (by decide) (hg kw_274) (fun _ h9 => h9) rfl dX2_withCell_34 ?_
    refine lv_iload hx hb dX2_withCell_37 (lv_at hl 1 rfl) ?_
    obtain ⟨i_39, hf⟩ := ds_ci hf
    refine va_lald hx hb hK hP 1 1 rfl rfl i_39 dX2_withCell_39 ?_
    have hf := Option.some.inj hf
    subst hf
    rw [eG0] at hG
    have hG : _ = res := hG
    subst hG
    exact W.lret (v := (o_members_r v5.toNatClampNeg)) hx hb hr (fun t ht hW => ⟨⟨(o_members_r v5.toNatClampNeg), (), rfl, rfl, by rw [ht]; exact hP, hD⟩, hS.F ht⟩) hS.2.2 dX2_withCell_40
  have J_9 : ∀ (u3 : Int64) (n : Nat) (v5 : Int32) (rr : Int64) (hf : ds_it (fun s => fX2_withCell_9_b o_members_r u3 s) n v5 = some rr) (hG : G0 rr) (H : Heap) (locs : List Loc) (hP : va_P (dC, dI) vwCl [(h_o, .inr (1, [.ref h_o_members, .int o_size])), (h_o_members, .inl (ca 1, 64, .inr (.inl o_members_r)))] H) (hD : va_D A [(h_o, .inr (1, [.ref h_o_members, .int o_size])), (h_o_members, .inl (ca 1, 64, .inr (.inl o_members_r)))]) (hS : va_S A s.heap H locs) (ls : Array Slot) (hl : lv_has ls 6 [(0, .ref h_o), (3, .long u3), (5, .int v5)]), WW H locs (F0 m 9 ls []) := by
    intro u3 n
    induction n with
    | zero => intro v5 rr hf; exact (ds_it_zero hf).elim
    | succ n ih9 =>
      intro v5 rr hf hG H locs hP hD hS ls hl
      refine h2 ?_
      obtain ⟨rr, hf, hG⟩ := ds_it_succ hf hG
      replace hf : fX2_withCell_9_b o_members_r u3 v5 = some rr := hf
      obtain ⟨G1, eG1⟩ : ∃ G : ((Int32) ⊕ (Int64)) → Prop, G = ds_G (fun s' => ∃ r', ds_it (fun s => fX2_withCell_9_b o_members_r u3 s) n s' = some r' ∧ G0 r') G0 := ⟨_, rfl⟩
      rw [← eG1] at hG
      unfold fX2_withCell_9_b at hf
      refine lv_iload hx hb dX2_withCell_9 (lv_at hl 2 rfl) ?_
      refine lv_aload_n hx hb dX2_withCell_11 rfl (lv_at hl 0 rfl) ?_
      refine va_get (D := (dC, dI)) (ci := 1) (v := .ref h_o_members) (C := RX2) (T := TX2) (N := 2) hx hb hts (fun w h => List.mem_cons_of_mem _ (kc_X2 w h)) hown hK hP 0 rfl rfl 0 (by decide) (hg kw_274) (fun _ h9 => h9) rfl dX2_withCell_12 ?_
      refine va_alen (v := 64) hx hb hK hP 1 1 rfl rfl rfl dX2_withCell_15 ?_
      refine lv_icmp_ge (tgt := 47) hx hb dX2_withCell_16 (by decide) (fun c_16 => ?_) (fun c_16 => ?_)
      · replace hf := ds_t c_16 hf
        refine lv_lconst (v := 0) hx hb dX2_withCell_47 (by decide) ?_
        have hf := Option.some.inj hf
        subst hf
        rw [eG1] at hG
        replace hG : G0 _ := hG
        rw [eG0] at hG
        have hG : _ = res := hG
        subst hG
        exact W.lret (v := (0 : Int64)) hx hb hr (fun t ht hW => ⟨⟨(0 : Int64), (), rfl, rfl, by rw [ht]; exact hP, hD⟩, hS.F ht⟩) hS.2.2 dX2_withCell_48
      · replace hf := ds_f c_16 hf
        refine lv_aload_n hx hb dX2_withCell_19 rfl (lv_at hl 0 rfl) ?_
        refine va_get (D := (dC, dI)) (ci := 1) (v := .ref h_o_members) (C := RX2) (T := TX2) (N := 2) hx hb hts (fun w h => List.mem_cons_of_mem _ (kc_X2 w h)) hown hK hP 0 rfl rfl 0 (by decide) (hg kw_274) (fun _ h9 => h9) rfl dX2_withCell_20 ?_
        refine lv_iload hx hb dX2_withCell_23 (lv_at hl 2 rfl) ?_
        obtain ⟨i_25, hf⟩ := ds_ci hf
        refine va_lald hx hb hK hP 1 1 rfl rfl i_25 dX2_withCell_25 ?_
        refine lv_lload_n hx hb dX2_withCell_26 rfl (lv_at hl 1 rfl) ?_
        refine lv_land hx hb dX2_withCell_27 ?_
        refine lv_lconst (v := 0) hx hb dX2_withCell_28 (by decide) ?_
        refine W.lcmp hx hb dX2_withCell_29 ?_
        refine lv_if_eq (tgt := 41) hx hb dX2_withCell_30 (by decide) (fun c_30 => ?_) (fun c_30 => ?_)
        · replace hf := ds_t c_30 hf
          refine lv_iinc (v := (v5 + 1)) (lv' := [(5, .int (v5 + 1)), (0, .ref h_o), (3, .long u3)]) hx hb dX2_withCell_41 hl (k := 2) rfl rfl (by decide) rfl (fun ls hl => ?_)
          refine lv_goto (tgt := 9) hx hb dX2_withCell_44 (by decide) ?_
          have hf := Option.some.inj hf
          subst hf
          rw [eG1] at hG
          obtain ⟨rr, hf, hG⟩ := hG
          exact h1 (ih9 (v5 + 1) rr hf hG _ _ hP hD hS _ (lv_sub hl [1, 2, 0] rfl))
        · replace hf := ds_f c_30 hf
          obtain ⟨rr, hr_0, hf⟩ := ds_ob hf
          have hf := Option.some.inj hf
          subst hf
          rw [eG1] at hG
          replace hG : G0 rr := hG
          have hf := hr_0
          exact h1 (J_33 v5 _ hf hG _ _ hP hD hS _ (lv_sub hl [0, 2] rfl))
  unfold fX2_withCell at hf
  refine lv_iload_n hx hb dX2_withCell_0 rfl (lv_at hl 1 rfl) ?_
  refine lv_iload_n hx hb dX2_withCell_1 rfl (lv_at hl 2 rfl) ?_
  obtain ⟨q2, hq2, hf⟩ := ds_ob hf
  refine ds_calll (wr := [(h_o, .inr (1, [.ref h_o_members, .int o_size])), (h_o_members, .inl (ca 1, 64, .inr (.inl o_members_r)))]) (va_runS (As := [.int p1, .int p2]) (rest := []) ⟨hx, hb, hml, hown, hts⟩ (c_X6_bit l dC dI ca sa  s.heap.size  p1 p2 q2 hq2) (va_cwS 2 hts (ds_gS kw_280 kw_103 kw_59 kw_104) rfl rfl rfl (by decide +kernel) ⟨Nat.le_of_ble_eq_true rfl, Nat.le_of_ble_eq_true rfl⟩) ⟨ds_blind, ds_at hP hD hK hE hS hA [] rfl rfl _⟩ rfl rfl hl.1 rfl (lv_room (Nat.le_of_ble_eq_true rfl)) dX2_withCell_2 ⟨Nat.zero_le _, Nat.zero_le _⟩) hP hD hS hA [] [0, 1] rfl rfl rfl (by decide) (fun H locs hP hD hS => ?_)
  have hP : va_P (dC, dI) vwCl [(h_o, .inr (1, [.ref h_o_members, .int o_size])), (h_o_members, .inl (ca 1, 64, .inr (.inl o_members_r)))] H := hP
  have hD : va_D A [(h_o, .inr (1, [.ref h_o_members, .int o_size])), (h_o_members, .inl (ca 1, 64, .inr (.inl o_members_r)))] := hD
  refine lv_lstore_n (lv' := [(3, .long q2), (0, .ref h_o), (1, .int p1), (2, .int p2)]) hx hb dX2_withCell_5 rfl hl (by decide) rfl (fun ls hl => ?_)
  refine lv_iconst (v := 0) hx hb dX2_withCell_6 (by decide) ?_
  refine lv_istore (lv' := [(5, .int (0 : Int32)), (3, .long q2), (0, .ref h_o), (1, .int p1), (2, .int p2)]) hx hb dX2_withCell_7 hl (by decide) rfl (fun ls hl => ?_)
  exact h1 (J_9 q2 1000 (0 : Int32) _ hf hG _ _ hP hD hS _ (lv_sub hl [2, 1, 0] rfl))
theorem dX2_flawsOf_0 : decode cX2_flawsOf 0 = .ok (.iconst 0, 1) := by decide +kernel
theorem dX2_flawsOf_1 : decode cX2_flawsOf 1 = .ok (.istore_n 2, 1) := by decide +kernel
theorem dX2_flawsOf_2 : decode cX2_flawsOf 2 = .ok (.iconst 0, 1) := by decide +kernel
theorem dX2_flawsOf_3 : decode cX2_flawsOf 3 = .ok (.istore_n 3, 1) := by decide +kernel
theorem dX2_flawsOf_4 : decode cX2_flawsOf 4 = .ok (.iload_n 3, 1) := by decide +kernel
theorem dX2_flawsOf_5 : decode cX2_flawsOf 5 = .ok (.aload_n 0, 1) := by decide +kernel
theorem dX2_flawsOf_6 : decode cX2_flawsOf 6 = .ok (.getfield 9, 3) := by decide +kernel
theorem dX2_flawsOf_9 : decode cX2_flawsOf 9 = .ok (.arraylength, 1) := by decide +kernel
theorem dX2_flawsOf_10 : decode cX2_flawsOf 10 = .ok (.if_icmp .ge 47, 3) := by decide +kernel
theorem dX2_flawsOf_13 : decode cX2_flawsOf 13 = .ok (.aload_n 0, 1) := by decide +kernel
theorem dX2_flawsOf_14 : decode cX2_flawsOf 14 = .ok (.getfield 9, 3) := by decide +kernel
theorem dX2_flawsOf_17 : decode cX2_flawsOf 17 = .ok (.iload_n 3, 1) := by decide +kernel
theorem dX2_flawsOf_18 : decode cX2_flawsOf 18 = .ok (.laload, 1) := by decide +kernel
theorem dX2_flawsOf_19 : decode cX2_flawsOf 19 = .ok (.lstore 4, 2) := by decide +kernel
theorem dX2_flawsOf_21 : decode cX2_flawsOf 21 = .ok (.lload 4, 2) := by decide +kernel
theorem dX2_flawsOf_23 : decode cX2_flawsOf 23 = .ok (.lconst 0, 1) := by decide +kernel
theorem dX2_flawsOf_24 : decode cX2_flawsOf 24 = .ok (.lcmp, 1) := by decide +kernel
theorem dX2_flawsOf_25 : decode cX2_flawsOf 25 = .ok (.ifCond .eq 26, 3) := by decide +kernel
theorem dX2_flawsOf_28 : decode cX2_flawsOf 28 = .ok (.iload_n 2, 1) := by decide +kernel
theorem dX2_flawsOf_29 : decode cX2_flawsOf 29 = .ok (.lload 4, 2) := by decide +kernel
theorem dX2_flawsOf_31 : decode cX2_flawsOf 31 = .ok (.aload_n 1, 1) := by decide +kernel
theorem dX2_flawsOf_32 : decode cX2_flawsOf 32 = .ok (.aload_n 1, 1) := by decide +kernel
theorem dX2_flawsOf_33 : decode cX2_flawsOf 33 = .ok (.lload 4, 2) := by decide +kernel
theorem dX2_flawsOf_35 : decode cX2_flawsOf 35 = .ok (.invokevirtual 53, 3) := by decide +kernel
theorem dX2_flawsOf_38 : decode cX2_flawsOf 38 = .ok (.invokevirtual 57, 3) := by decide +kernel
theorem dX2_flawsOf_41 : decode cX2_flawsOf 41 = .ok (.ldc2_w 61, 3) := by decide +kernel
theorem dX2_flawsOf_44 : decode cX2_flawsOf 44 = .ok (.lxor, 1) := by decide +kernel
theorem dX2_flawsOf_45 : decode cX2_flawsOf 45 = .ok (.land, 1) := by decide +kernel
theorem dX2_flawsOf_46 : decode cX2_flawsOf 46 = .ok (.invokestatic 63, 3) := by decide +kernel
theorem dX2_flawsOf_49 : decode cX2_flawsOf 49 = .ok (.iadd, 1) := by decide +kernel
theorem dX2_flawsOf_50 : decode cX2_flawsOf 50 = .ok (.istore_n 2, 1) := by decide +kernel
theorem dX2_flawsOf_51 : decode cX2_flawsOf 51 = .ok (.iinc 3 1, 3) := by decide +kernel
theorem dX2_flawsOf_54 : decode cX2_flawsOf 54 = .ok (.goto (-50), 3) := by decide +kernel
theorem dX2_flawsOf_57 : decode cX2_flawsOf 57 = .ok (.iload_n 2, 1) := by decide +kernel
theorem dX2_flawsOf_58 : decode cX2_flawsOf 58 = .ok (.ireturn, 1) := by decide +kernel
def fX2_flawsOf_51 (v2 : Int32) (v3 : Int32) : Option ((Int32 × Int32) ⊕ (Int32)) :=
  some (.inl (v2, (v3 + 1)))
def fX2_flawsOf_4_b (o_members_r : Nat → Int64) (p1_wide : Int32) (p1_high : Int32) (p1_ones : Int64) (p1_twos : Int64) (v2 : Int32) (v3 : Int32) : Option ((Int32 × Int32) ⊕ (Int32)) :=
  if (64 : Int32) ≤ v3 then some (.inr v2) else if ds_in v3 64 = true then if (lg_cmp (o_members_r v3.toNatClampNeg) (0 : Int64)) = 0 then fX2_flawsOf_51 v2 v3 else Option.bind (fX6_mostlyOf p1_wide p1_high p1_ones p1_twos (o_members_r v3.toNatClampNeg)) fun q35 => Option.bind (fX6_ofColour p1_wide p1_high p1_ones p1_twos q35) fun q38 => Option.bind (fJ13_bitCount_95d88 ((o_members_r v3.toNatClampNeg) &&& (q38 ^^^ (-1 : Int64)))) fun q46 => fX2_flawsOf_51 (v2 + q46) v3 else none
def fX2_flawsOf_4 (o_members_r : Nat → Int64) (p1_wide : Int32) (p1_high : Int32) (p1_ones : Int64) (p1_twos : Int64) (v2 : Int32) (v3 : Int32) : Option (Int32) := ds_it (fun s => fX2_flawsOf_4_b o_members_r p1_wide p1_high p1_ones p1_twos s.1 s.2) 1000 (v2, v3)
def fX2_flawsOf (o_members_r : Nat → Int64) (p1_wide : Int32) (p1_high : Int32) (p1_ones : Int64) (p1_twos : Int64) : Option (Int32) :=
  fX2_flawsOf_4 o_members_r p1_wide p1_high p1_ones p1_twos (0 : Int32) (0 : Int32)
set_option maxHeartbeats 4000000 in
set_option maxRecDepth 100000 in
theorem c_X2_flawsOf (l : Launch) (dC : Nat → ClassId) (dI : Nat → Nat → Nat) (ca : Nat → ClassId) (sa : Nat → Nat) (h_o : Nat) (h_o_members : Nat) (h_p1 : Nat) (sz : Nat) (o_size : Int32) (o_members_r : Nat → Int64) (p1_wide : Int32) (p1_high : Int32) (p1_hex : Int32) (p1_ones : Int64) (p1_twos : Int64) (res : Int32) (hf : fX2_flawsOf o_members_r p1_wide p1_high p1_ones p1_twos = some res) : Met l yX2_flawsOf (Cond.code yX2_flawsOf cX2_flawsOf 6 (some .int) :: ds_gw) { frames := 3, cells := 0, slots := 0, locals := 73 } (va_Pc [.ref h_o, .ref h_p1] (ds_Pre dC dI ca sa [(h_o, .inr (1, [.ref h_o_members, .int o_size])), (h_o_members, .inl (ca 1, 64, .inr (.inl o_members_r))), (h_p1, .inr (5, [.int p1_wide, .int p1_high, .int p1_hex, .long p1_ones, .long p1_twos]))] sz)) (va_Qi (fun r (_ : Unit) => r = res) (ds_B dC dI (va_A [(h_o, .inr (1, [.ref h_o_members, .int o_size])), (h_o_members, .inl (ca 1, 64, .inr (.inl o_members_r))), (h_p1, .inr (5, [.int p1_wide, .int p1_high, .int p1_hex, .long p1_ones, .long p1_twos]))] sz) [(h_o, .inr (1, [.ref h_o_members, .int o_size])), (h_o_members, .inl (ca 1, 64, .inr (.inl o_members_r))), (h_p1, .inr (5, [.int p1_wide, .int p1_high, .int p1_hex, .long p1_ones, .long p1_twos]))]) (va_A [(h_o, .inr (1, [.ref h_o_members, .int o_size])), (h_o_members, .inl (ca 1, 64, .inr (.inl o_members_r))), (h_p1, .inr (5, [.int p1_wide, .int p1_high, .int p1_hex, .long p1_ones, .long p1_twos]))] sz)) 0 0 (va_A [(h_o, .inr (1, [.ref h_o_members, .int o_size])), (h_o_members, .inl (ca 1, 64, .inr (.inl o_members_r))), (h_p1, .inr (5, [.int p1_wide, .int p1_high, .int p1_hex, .long p1_ones, .long p1_twos]))] sz) := by
  refine Met.ofW (cc := cX2_flawsOf) (maxL := 6) (ret := (some .int)) (by decide) rfl ?_
  intro p e s m args below meth c s₁ B hml hv
  obtain ⟨rfl, hsz, hP, hK, hD0, hE⟩ := hv
  have hx := B.exec
  have hb := B.bytes
  have hr := B.returns
  have hts := atoms_spec (ws := Cond.code yX2_flawsOf cX2_flawsOf 6 (some .int) :: ds_gw) B.pre
  have hg : ∀ {w : Cond}, w ∈ ds_gw → w.before _ s = true := fun h => hts _ (List.mem_cons_of_mem _ h)
  have hown : s.vm.findClass RX2 = some m.cls := findClass_of_methodNamed B.named
  have hlocks := B.notSynchronized
  subst hsz
  have hD := hD0.self (sz := s.heap.size)
  generalize hAe : va_A [(h_o, .inr (1, [.ref h_o_members, .int o_size])), (h_o_members, .inl (ca 1, 64, .inr (.inl o_members_r))), (h_p1, .inr (5, [.int p1_wide, .int p1_high, .int p1_hex, .long p1_ones, .long p1_twos]))] s.heap.size = A at hD hE ⊢
  have hA : ∀ q : Nat, s.heap.size ≤ q → A q := fun q h => by rw [← hAe]; exact Or.inr h
  have hS : va_S A s.heap s.heap [] := va_S.rf
  have hl := lv_entry ([.ref h_o, .ref h_p1]) (n := 6) (Nat.le_of_ble_eq_true rfl)
  rw [lg_entry_eq]
  generalize (lg_sl ([.ref h_o, .ref h_p1]) ++ List.replicate (6 - (lg_sl ([.ref h_o, .ref h_p1])).length) Slot.unset).toArray = ls at hl ⊢
  have hl : lv_has ls 6 [(0, .ref h_o), (1, .ref h_p1)] := hl
  obtain ⟨G0, eG0⟩ : ∃ G : Int32 → Prop, G = (fun r => r = res) := ⟨_, rfl⟩
  obtain ⟨rr, hrr⟩ : ∃ z, z = res := ⟨_, rfl⟩
  rw [← hrr] at hf
  have hG : G0 rr := by subst eG0; exact hrr
  refine ds_cap (fun WW h1 h2 => ?_)
  have J_4 : ∀ (n : Nat) (v2 : Int32) (v3 : Int32) (rr : Int32) (hf : ds_it (fun s => fX2_flawsOf_4_b o_members_r p1_wide p1_high p1_ones p1_twos s.1 s.2) n (v2, v3) = some rr) (hG : G0 rr) (H : Heap) (locs : List Loc) (hP : va_P (dC, dI) vwCl [(h_o, .inr (1, [.ref h_o_members, .int o_size])), (h_o_members, .inl (ca 1, 64, .inr (.inl o_members_r))), (h_p1, .inr (5, [.int p1_wide, .int p1_high, .int p1_hex, .long p1_ones, .long p1_twos]))] H) (hD : va_D A [(h_o, .inr (1, [.ref h_o_members, .int o_size])), (h_o_members, .inl (ca 1, 64, .inr (.inl o_members_r))), (h_p1, .inr (5, [.int p1_wide, .int p1_high, .int p1_hex, .long p1_ones, .long p1_twos]))]) (hS : va_S A s.heap H locs) (ls : Array Slot) (hl : lv_has ls 6 [(0, .ref h_o), (1, .ref h_p1), (2, .int v2), (3, .int v3)]), WW H locs (F0 m 4 ls []) := by
    intro  n
    induction n with
    | zero => intro v2 v3 rr hf; exact (ds_it_zero hf).elim
    | succ n ih4 =>
      intro v2 v3 rr hf hG H locs hP hD hS ls hl
      refine h2 ?_
      obtain ⟨rr, hf, hG⟩ := ds_it_succ hf hG
      replace hf : fX2_flawsOf_4_b o_members_r p1_wide p1_high p1_ones p1_twos v2 v3 = some rr := hf
      obtain ⟨G1, eG1⟩ : ∃ G : ((Int32 × Int32) ⊕ (Int32)) → Prop, G = ds_G (fun s' => ∃ r', ds_it (fun s => fX2_flawsOf_4_b o_members_r p1_wide p1_high p1_ones p1_twos s.1 s.2) n s' = some r' ∧ G0 r') G0 := ⟨_, rfl⟩
      rw [← eG1] at hG
      have J_51 : ∀ (v2 : Int32) (v3 : Int32) (rr : (Int32 × Int32) ⊕ (Int32)) (hf : fX2_flawsOf_51 v2 v3 = some rr) (hG : G1 rr) (H : Heap) (locs : List Loc) (hP : va_P (dC, dI) vwCl [(h_o, .inr (1, [.ref h_o_members, .int o_size])), (h_o_members, .inl (ca 1, 64, .inr (.inl o_members_r))), (h_p1, .inr (5, [.int p1_wide, .int p1_high, .int p1_hex, .long p1_ones, .long p1_twos]))] H) (hD : va_D A [(h_o, .inr (1, [.ref h_o_members, .int o_size])), (h_o_members, .inl (ca 1, 64, .inr (.inl o_members_r))), (h_p1, .inr (5, [.int p1_wide, .int p1_high, .int p1_hex, .long p1_ones, .long p1_twos]))]) (hS : va_S A s.heap H locs) (ls : Array Slot) (hl : lv_has ls 6 [(0, .ref h_o), (1, .ref h_p1), (2, .int v2), (3, .int v3)]), WW H locs (F0 m 51 ls []) := by
        intro v2 v3 rr hf hG H locs hP hD hS ls hl
        refine h2 ?_
        unfold fX2_flawsOf_51 at hf
        refine lv_iinc (v := (v3 + 1)) (lv' := [(3, .int (v3 + 1)), (0, .ref h_o), (1, .ref h_p1), (2, .int v2)]) hx hb dX2_flawsOf_51 hl (k := 3) rfl rfl (by decide) rfl (fun ls hl => ?_)
        refine lv_goto (tgt := 4) hx hb dX2_flawsOf_54 (by decide) ?_
        have hf := Option.some.inj hf
        subst hf
        rw [eG1] at hG
        obtain ⟨rr, hf, hG⟩ := hG
        exact h1 (ih4 v2 (v3 + 1) rr hf hG _ _ hP hD hS _ (lv_sub hl [1, 2, 3, 0] rfl))
      unfold fX2_flawsOf_4_b at hf
      refine lv_iload_n hx hb dX2_flawsOf_4 rfl (lv_at hl 3 rfl) ?_
      refine lv_aload_n hx hb dX2_flawsOf_5 rfl (lv_at hl 0 rfl) ?_
      refine va_get (D := (dC, dI)) (ci := 1) (v := .ref h_o_members) (C := RX2) (T := TX2) (N := 2) hx hb hts (fun w h => List.mem_cons_of_mem _ (kc_X2 w h)) hown hK hP 0 rfl rfl 0 (by decide) (hg kw_274) (fun _ h9 => h9) rfl dX2_flawsOf_6 ?_
      refine va_alen (v := 64) hx hb hK hP 1 1 rfl rfl rfl dX2_flawsOf_9 ?_
      refine lv_icmp_ge (tgt := 57) hx hb dX2_flawsOf_10 (by decide) (fun c_10 => ?_) (fun c_10 => ?_)
      · replace hf := ds_t c_10 hf
        refine lv_iload_n hx hb dX2_flawsOf_57 rfl (lv_at hl 2 rfl) ?_
        have hf := Option.some.inj hf
        subst hf
        rw [eG1] at hG
        replace hG : G0 _ := hG
        rw [eG0] at hG
        have hG : _ = res := hG
        subst hG
        exact W.iret (v := v2) hx hb hr (fun t ht hW => ⟨⟨v2, (), rfl, rfl, by rw [ht]; exact hP, hD⟩, hS.F ht⟩) hS.2.2 dX2_flawsOf_58
      · replace hf := ds_f c_10 hf
        refine lv_aload_n hx hb dX2_flawsOf_13 rfl (lv_at hl 0 rfl) ?_
        refine va_get (D := (dC, dI)) (ci := 1) (v := .ref h_o_members) (C := RX2) (T := TX2) (N := 2) hx hb hts (fun w h => List.mem_cons_of_mem _ (kc_X2 w h)) hown hK hP 0 rfl rfl 0 (by decide) (hg kw_274) (fun _ h9 => h9) rfl dX2_flawsOf_14 ?_
        refine lv_iload_n hx hb dX2_flawsOf_17 rfl (lv_at hl 3 rfl) ?_
        obtain ⟨i_18, hf⟩ := ds_ci hf
        refine va_lald hx hb hK hP 1 1 rfl rfl i_18 dX2_flawsOf_18 ?_
        refine lv_lstore (lv' := [(4, .long (o_members_r v3.toNatClampNeg)), (0, .ref h_o), (1, .ref h_p1), (2, .int v2), (3, .int v3)]) hx hb dX2_flawsOf_19 hl (by decide) rfl (fun ls hl => ?_)
        refine lv_lload hx hb dX2_flawsOf_21 (lv_at hl 0 rfl) ?_
        refine lv_lconst (v := 0) hx hb dX2_flawsOf_23 (by decide) ?_
        refine W.lcmp hx hb dX2_flawsOf_24 ?_
        refine lv_if_eq (tgt := 51) hx hb dX2_flawsOf_25 (by decide) (fun c_25 => ?_) (fun c_25 => ?_)
        · replace hf := ds_t c_25 hf
          exact h1 (J_51 v2 v3 _ hf hG _ _ hP hD hS _ (lv_sub hl [1, 2, 3, 4] rfl))
        · replace hf := ds_f c_25 hf
          refine lv_iload_n hx hb dX2_flawsOf_28 rfl (lv_at hl 3 rfl) ?_
          refine lv_lload hx hb dX2_flawsOf_29 (lv_at hl 0 rfl) ?_
          refine lv_aload_n hx hb dX2_flawsOf_31 rfl (lv_at hl 2 rfl) ?_
          refine lv_aload_n hx hb dX2_flawsOf_32 rfl (lv_at hl 2 rfl) ?_
          refine lv_lload hx hb dX2_flawsOf_33 (lv_at hl 0 rfl) ?_
          obtain ⟨q35, hq35, hf⟩ := ds_ob hf
          refine ds_calli (wr := [(h_o, .inr (1, [.ref h_o_members, .int o_size])), (h_o_members, .inl (ca 1, 64, .inr (.inl o_members_r)))]) (va_runV (As := [.long (o_members_r v3.toNatClampNeg)]) (rest := [.ref h_p1, .long (o_members_r v3.toNatClampNeg), .int v2]) ⟨hx, hb, hml, hown, hts⟩ (c_X6_mostlyOf l dC dI ca sa h_p1 H.size p1_wide p1_high p1_hex p1_ones p1_twos (o_members_r v3.toNatClampNeg) q35 hq35) (cwV 1 hts (ds_gV kw_288 kw_289 kw_290 kw_59 kw_291) rfl rfl rfl (by decide +kernel) ⟨Nat.le_of_ble_eq_true rfl, Nat.le_of_ble_eq_true rfl⟩) ⟨ds_blind, va_recv hK hP (ci := 5) (q0 := 2) rfl rfl, ds_at hP hD hK hE hS hA [2] rfl rfl _⟩ rfl rfl hl.1 rfl (lv_room (Nat.le_of_ble_eq_true rfl)) dX2_flawsOf_35 ⟨Nat.zero_le _, Nat.zero_le _⟩) hP hD hS hA [2] [0, 1] rfl rfl rfl (by decide) (fun H locs hP hD hS => ?_)
          have hP : va_P (dC, dI) vwCl [(h_o, .inr (1, [.ref h_o_members, .int o_size])), (h_o_members, .inl (ca 1, 64, .inr (.inl o_members_r))), (h_p1, .inr (5, [.int p1_wide, .int p1_high, .int p1_hex, .long p1_ones, .long p1_twos]))] H := hP
          have hD : va_D A [(h_o, .inr (1, [.ref h_o_members, .int o_size])), (h_o_members, .inl (ca 1, 64, .inr (.inl o_members_r))), (h_p1, .inr (5, [.int p1_wide, .int p1_high, .int p1_hex, .long p1_ones, .long p1_twos]))] := hD
          obtain ⟨q38, hq38, hf⟩ := ds_ob hf
          refine ds_calll (wr := [(h_o, .inr (1, [.ref h_o_members, .int o_size])), (h_o_members, .inl (ca 1, 64, .inr (.inl o_members_r)))]) (va_runV (As := [.int q35]) (rest := [.long (o_members_r v3.toNatClampNeg), .int v2]) ⟨hx, hb, hml, hown, hts⟩ (c_X6_ofColour l dC dI ca sa h_p1 H.size p1_wide p1_high p1_hex p1_ones p1_twos q35 q38 hq38) (cwV 1 hts (ds_gV kw_292 kw_106 kw_107 kw_59 kw_108) rfl rfl rfl (by decide +kernel) ⟨Nat.le_of_ble_eq_true rfl, Nat.le_of_ble_eq_true rfl⟩) ⟨ds_blind, va_recv hK hP (ci := 5) (q0 := 2) rfl rfl, ds_at hP hD hK hE hS hA [2] rfl rfl _⟩ rfl rfl hl.1 rfl (lv_room (Nat.le_of_ble_eq_true rfl)) dX2_flawsOf_38 ⟨Nat.zero_le _, Nat.zero_le _⟩) hP hD hS hA [2] [0, 1] rfl rfl rfl (by decide) (fun H locs hP hD hS => ?_)
          have hP : va_P (dC, dI) vwCl [(h_o, .inr (1, [.ref h_o_members, .int o_size])), (h_o_members, .inl (ca 1, 64, .inr (.inl o_members_r))), (h_p1, .inr (5, [.int p1_wide, .int p1_high, .int p1_hex, .long p1_ones, .long p1_twos]))] H := hP
          have hD : va_D A [(h_o, .inr (1, [.ref h_o_members, .int o_size])), (h_o_members, .inl (ca 1, 64, .inr (.inl o_members_r))), (h_p1, .inr (5, [.int p1_wide, .int p1_high, .int p1_hex, .long p1_ones, .long p1_twos]))] := hD
          refine lv_ldc2 (own := RX2) (v := -1) hx hb hown (hg kw_293) dX2_flawsOf_41 ?_
          refine lv_lxor hx hb dX2_flawsOf_44 ?_
          refine lv_land hx hb dX2_flawsOf_45 ?_
          obtain ⟨q46, hq46, hf⟩ := ds_ob hf
          refine ds_calli (wr := [(h_o, .inr (1, [.ref h_o_members, .int o_size])), (h_o_members, .inl (ca 1, 64, .inr (.inl o_members_r))), (h_p1, .inr (5, [.int p1_wide, .int p1_high, .int p1_hex, .long p1_ones, .long p1_twos]))]) (va_runS (As := [.long ((o_members_r v3.toNatClampNeg) &&& (q38 ^^^ (-1 : Int64)))]) (rest := [.int v2]) ⟨hx, hb, hml, hown, hts⟩ (c_J13_bitCount_95d88 l dC dI ca sa  H.size  ((o_members_r v3.toNatClampNeg) &&& (q38 ^^^ (-1 : Int64))) q46 hq46) (va_cwS 1 hts (ds_gS kw_294 kw_110 kw_111 kw_112) rfl rfl rfl (by decide +kernel) ⟨Nat.le_of_ble_eq_true rfl, Nat.le_of_ble_eq_true rfl⟩) ⟨ds_blind, ds_at hP hD hK hE hS hA [] rfl rfl _⟩ rfl rfl hl.1 rfl (lv_room (Nat.le_of_ble_eq_true rfl)) dX2_flawsOf_46 ⟨Nat.zero_le _, Nat.zero_le _⟩) hP hD hS hA [] [0, 1, 2] rfl rfl rfl (by decide) (fun H locs hP hD hS => ?_)
          have hP : va_P (dC, dI) vwCl [(h_o, .inr (1, [.ref h_o_members, .int o_size])), (h_o_members, .inl (ca 1, 64, .inr (.inl o_members_r))), (h_p1, .inr (5, [.int p1_wide, .int p1_high, .int p1_hex, .long p1_ones, .long p1_twos]))] H := hP
          have hD : va_D A [(h_o, .inr (1, [.ref h_o_members, .int o_size])), (h_o_members, .inl (ca 1, 64, .inr (.inl o_members_r))), (h_p1, .inr (5, [.int p1_wide, .int p1_high, .int p1_hex, .long p1_ones, .long p1_twos]))] := hD
          refine lv_iadd hx hb dX2_flawsOf_49 ?_
          refine lv_istore_n (lv' := [(2, .int (v2 + q46)), (4, .long (o_members_r v3.toNatClampNeg)), (0, .ref h_o), (1, .ref h_p1), (3, .int v3)]) hx hb dX2_flawsOf_50 rfl hl (by decide) rfl (fun ls hl => ?_)
          exact h1 (J_51 (v2 + q46) v3 _ hf hG _ _ hP hD hS _ (lv_sub hl [2, 3, 0, 4] rfl))
  unfold fX2_flawsOf at hf
  refine lv_iconst (v := 0) hx hb dX2_flawsOf_0 (by decide) ?_
  refine lv_istore_n (lv' := [(2, .int (0 : Int32)), (0, .ref h_o), (1, .ref h_p1)]) hx hb dX2_flawsOf_1 rfl hl (by decide) rfl (fun ls hl => ?_)
  refine lv_iconst (v := 0) hx hb dX2_flawsOf_2 (by decide) ?_
  refine lv_istore_n (lv' := [(3, .int (0 : Int32)), (2, .int (0 : Int32)), (0, .ref h_o), (1, .ref h_p1)]) hx hb dX2_flawsOf_3 rfl hl (by decide) rfl (fun ls hl => ?_)
  exact h1 (J_4  1000 (0 : Int32) (0 : Int32) _ hf hG _ _ hP hD hS _ (lv_sub hl [2, 3, 1, 0] rfl))
