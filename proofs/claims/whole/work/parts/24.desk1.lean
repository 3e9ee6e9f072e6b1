theorem dX5_copyFrom_0 : decode cX5_copyFrom 0 = .ok (.iconst 0, 1) := by decide +kernel
theorem dX5_copyFrom_1 : decode cX5_copyFrom 1 = .ok (.istore_n 2, 1) := by decide +kernel
theorem dX5_copyFrom_2 : decode cX5_copyFrom 2 = .ok (.iload_n 2, 1) := by decide +kernel
theorem dX5_copyFrom_3 : decode cX5_copyFrom 3 = .ok (.aload_n 0, 1) := by decide +kernel
theorem dX5_copyFrom_4 : decode cX5_copyFrom 4 = .ok (.getfield 11, 3) := by decide +kernel
theorem dX5_copyFrom_7 : decode cX5_copyFrom 7 = .ok (.arraylength, 1) := by decide +kernel
theorem dX5_copyFrom_8 : decode cX5_copyFrom 8 = .ok (.if_icmp .ge 30, 3) := by decide +kernel
theorem dX5_copyFrom_11 : decode cX5_copyFrom 11 = .ok (.iload_n 2, 1) := by decide +kernel
theorem dX5_copyFrom_12 : decode cX5_copyFrom 12 = .ok (.aload_n 1, 1) := by decide +kernel
theorem dX5_copyFrom_13 : decode cX5_copyFrom 13 = .ok (.getfield 11, 3) := by decide +kernel
theorem dX5_copyFrom_16 : decode cX5_copyFrom 16 = .ok (.arraylength, 1) := by decide +kernel
theorem dX5_copyFrom_17 : decode cX5_copyFrom 17 = .ok (.if_icmp .ge 21, 3) := by decide +kernel
theorem dX5_copyFrom_20 : decode cX5_copyFrom 20 = .ok (.aload_n 0, 1) := by decide +kernel
theorem dX5_copyFrom_21 : decode cX5_copyFrom 21 = .ok (.getfield 11, 3) := by decide +kernel
theorem dX5_copyFrom_24 : decode cX5_copyFrom 24 = .ok (.iload_n 2, 1) := by decide +kernel
theorem dX5_copyFrom_25 : decode cX5_copyFrom 25 = .ok (.aload_n 1, 1) := by decide +kernel
theorem dX5_copyFrom_26 : decode cX5_copyFrom 26 = .ok (.getfield 11, 3) := by decide +kernel
theorem dX5_copyFrom_29 : decode cX5_copyFrom 29 = .ok (.iload_n 2, 1) := by decide +kernel
theorem dX5_copyFrom_30 : decode cX5_copyFrom 30 = .ok (.iaload, 1) := by decide +kernel
theorem dX5_copyFrom_31 : decode cX5_copyFrom 31 = .ok (.iastore, 1) := by decide +kernel
theorem dX5_copyFrom_32 : decode cX5_copyFrom 32 = .ok (.iinc 2 1, 3) := by decide +kernel
theorem dX5_copyFrom_35 : decode cX5_copyFrom 35 = .ok (.goto (-33), 3) := by decide +kernel
theorem dX5_copyFrom_38 : decode cX5_copyFrom 38 = .ok (.aload_n 0, 1) := by decide +kernel
theorem dX5_copyFrom_39 : decode cX5_copyFrom 39 = .ok (.aload_n 1, 1) := by decide +kernel
theorem dX5_copyFrom_40 : decode cX5_copyFrom 40 = .ok (.getfield 19, 3) := by decide +kernel
theorem dX5_copyFrom_43 : decode cX5_copyFrom 43 = .ok (.putfield 19, 3) := by decide +kernel
theorem dX5_copyFrom_46 : decode cX5_copyFrom 46 = .ok (.aload_n 0, 1) := by decide +kernel
theorem dX5_copyFrom_47 : decode cX5_copyFrom 47 = .ok (.aload_n 1, 1) := by decide +kernel
theorem dX5_copyFrom_48 : decode cX5_copyFrom 48 = .ok (.getfield 22, 3) := by decide +kernel
theorem dX5_copyFrom_51 : decode cX5_copyFrom 51 = .ok (.putfield 22, 3) := by decide +kernel
theorem dX5_copyFrom_54 : decode cX5_copyFrom 54 = .ok (.aload_n 0, 1) := by decide +kernel
theorem dX5_copyFrom_55 : decode cX5_copyFrom 55 = .ok (.aload_n 1, 1) := by decide +kernel
theorem dX5_copyFrom_56 : decode cX5_copyFrom 56 = .ok (.getfield 15, 3) := by decide +kernel
theorem dX5_copyFrom_59 : decode cX5_copyFrom 59 = .ok (.putfield 15, 3) := by decide +kernel
theorem dX5_copyFrom_62 : decode cX5_copyFrom 62 = .ok (.return_, 1) := by decide +kernel
def fX5_copyFrom_38 (o_bytes_r : Nat → Int32) (p1_length : Int32) (p1_fault : Int32) (p1_place : Int32) : Option (Int32 × Int32 × Int32 × (Nat → Int32)) :=
  some (p1_length, p1_fault, p1_place, o_bytes_r)
def fX5_copyFrom_2_b (p1_length : Int32) (p1_fault : Int32) (p1_place : Int32) (p1_bytes_r : Nat → Int32) (v2 : Int32) (o_bytes_r : Nat → Int32) : Option ((Int32 × (Nat → Int32)) ⊕ (Int32 × Int32 × Int32 × (Nat → Int32))) :=
  if (200 : Int32) ≤ v2 then Option.bind (fX5_copyFrom_38 o_bytes_r p1_length p1_fault p1_place) fun z => some (.inr z) else if (200 : Int32) ≤ v2 then Option.bind (fX5_copyFrom_38 o_bytes_r p1_length p1_fault p1_place) fun z => some (.inr z) else if ds_in v2 200 = true then if ds_in v2 200 = true then some (.inl ((v2 + 1), (upd o_bytes_r v2.toNatClampNeg (p1_bytes_r v2.toNatClampNeg)))) else none else none
def fX5_copyFrom_2 (p1_length : Int32) (p1_fault : Int32) (p1_place : Int32) (p1_bytes_r : Nat → Int32) (v2 : Int32) (o_bytes_r : Nat → Int32) : Option (Int32 × Int32 × Int32 × (Nat → Int32)) := ds_it (fun s => fX5_copyFrom_2_b p1_length p1_fault p1_place p1_bytes_r s.1 s.2) 1000 (v2, o_bytes_r)
def fX5_copyFrom (o_bytes_r : Nat → Int32) (p1_length : Int32) (p1_fault : Int32) (p1_place : Int32) (p1_bytes_r : Nat → Int32) : Option (Int32 × Int32 × Int32 × (Nat → Int32)) :=
  fX5_copyFrom_2 p1_length p1_fault p1_place p1_bytes_r (0 : Int32) o_bytes_r
set_option maxHeartbeats 4000000 in
set_option maxRecDepth 100000 in
theorem c_X5_copyFrom (l : Launch) (dC : Nat → ClassId) (dI : Nat → Nat → Nat) (ca : Nat → ClassId) (sa : Nat → Nat) (h_o : Nat) (h_o_bytes : Nat) (h_p1 : Nat) (h_p1_bytes : Nat) (sz : Nat) (o_length : Int32) (o_fault : Int32) (o_place : Int32) (o_rows : Int32) (o_bytes_r : Nat → Int32) (p1_length : Int32) (p1_fault : Int32) (p1_place : Int32) (p1_rows : Int32) (p1_bytes_r : Nat → Int32) (res : Int32 × Int32 × Int32 × (Nat → Int32)) (hf : fX5_copyFrom o_bytes_r p1_length p1_fault p1_place p1_bytes_r = some res) : Met l yX5_copyFrom (Cond.code yX5_copyFrom cX5_copyFrom 3 none :: ds_gw) { frames := 0, cells := 0, slots := 0, locals := 0 } (va_Pc [.ref h_o, .ref h_p1] (ds_Pre dC dI ca sa [(h_o, .inr (4, [.ref h_o_bytes, .int o_length, .int o_fault, .int o_place, .int o_rows])), (h_o_bytes, .inl (ca 0, 200, .inl o_bytes_r)), (h_p1, .inr (4, [.ref h_p1_bytes, .int p1_length, .int p1_fault, .int p1_place, .int p1_rows])), (h_p1_bytes, .inl (ca 0, 200, .inl p1_bytes_r))] sz)) (va_Qv (fun (_ : Unit) => True) (ds_B dC dI (va_A [(h_o, .inr (4, [.ref h_o_bytes, .int o_length, .int o_fault, .int o_place, .int o_rows])), (h_o_bytes, .inl (ca 0, 200, .inl o_bytes_r)), (h_p1, .inr (4, [.ref h_p1_bytes, .int p1_length, .int p1_fault, .int p1_place, .int p1_rows])), (h_p1_bytes, .inl (ca 0, 200, .inl p1_bytes_r))] sz) [(h_o, .inr (4, [.ref h_o_bytes, .int res.1, .int res.2.1, .int res.2.2.1, .int o_rows])), (h_o_bytes, .inl (ca 0, 200, .inl res.2.2.2)), (h_p1, .inr (4, [.ref h_p1_bytes, .int p1_length, .int p1_fault, .int p1_place, .int p1_rows])), (h_p1_bytes, .inl (ca 0, 200, .inl p1_bytes_r))]) (va_A [(h_o, .inr (4, [.ref h_o_bytes, .int o_length, .int o_fault, .int o_place, .int o_rows])), (h_o_bytes, .inl (ca 0, 200, .inl o_bytes_r)), (h_p1, .inr (4, [.ref h_p1_bytes, .int p1_length, .int p1_fault, .int p1_place, .int p1_rows])), (h_p1_bytes, .inl (ca 0, 200, .inl p1_bytes_r))] sz)) 0 0 (va_A [(h_o, .inr (4, [.ref h_o_bytes, .int o_length, .int o_fault, .int o_place, .int o_rows])), (h_o_bytes, .inl (ca 0, 200, .inl o_bytes_r)), (h_p1, .inr (4, [.ref h_p1_bytes, .int p1_length, .int p1_fault, .int p1_place, .int p1_rows])), (h_p1_bytes, .inl (ca 0, 200, .inl p1_bytes_r))] sz) := by
  refine Met.ofW (cc := cX5_copyFrom) (maxL := 3) (ret := none) (by decide) rfl ?_
  intro p e s m args below meth c s₁ B hml hv
  obtain ⟨rfl, hsz, hP, hK, hD0, hE⟩ := hv
  have hx := B.exec
  have hb := B.bytes
  have hr := B.returns
  have hts := atoms_spec (ws := Cond.code yX5_copyFrom cX5_copyFrom 3 none :: ds_gw) B.pre
  have hg : ∀ {w : Cond}, w ∈ ds_gw → w.before _ s = true := fun h => hts _ (List.mem_cons_of_mem _ h)
  have hown : s.vm.findClass RX5 = some m.cls := findClass_of_methodNamed B.named
  have hlocks := B.notSynchronized
  subst hsz
  have hD := hD0.self (sz := s.heap.size)
  generalize hAe : va_A [(h_o, .inr (4, [.ref h_o_bytes, .int o_length, .int o_fault, .int o_place, .int o_rows])), (h_o_bytes, .inl (ca 0, 200, .inl o_bytes_r)), (h_p1, .inr (4, [.ref h_p1_bytes, .int p1_length, .int p1_fault, .int p1_place, .int p1_rows])), (h_p1_bytes, .inl (ca 0, 200, .inl p1_bytes_r))] s.heap.size = A at hD hE ⊢
  have hA : ∀ q : Nat, s.heap.size ≤ q → A q := fun q h => by rw [← hAe]; exact Or.inr h
  have hS : va_S A s.heap s.heap [] := va_S.rf
  have hl := lv_entry ([.ref h_o, .ref h_p1]) (n := 3) (Nat.le_of_ble_eq_true rfl)
  rw [lg_entry_eq]
  generalize (lg_sl ([.ref h_o, .ref h_p1]) ++ List.replicate (3 - (lg_sl ([.ref h_o, .ref h_p1])).length) Slot.unset).toArray = ls at hl ⊢
  have hl : lv_has ls 3 [(0, .ref h_o), (1, .ref h_p1)] := hl
  obtain ⟨G0, eG0⟩ : ∃ G : (Int32 × Int32 × Int32 × (Nat → Int32)) → Prop, G = (fun r => r = res) := ⟨_, rfl⟩
  obtain ⟨rr, hrr⟩ : ∃ z, z = res := ⟨_, rfl⟩
  rw [← hrr] at hf
  have hG : G0 rr := by subst eG0; exact hrr
  refine ds_cap (fun WW h1 h2 => ?_)
  have J_38 : ∀ (o_length : Int32) (o_fault : Int32) (o_place : Int32) (o_bytes_r : Nat → Int32) (rr : Int32 × Int32 × Int32 × (Nat → Int32)) (hf : fX5_copyFrom_38 o_bytes_r p1_length p1_fault p1_place = some rr) (hG : G0 rr) (H : Heap) (locs : List Loc) (hP : va_P (dC, dI) vwCl [(h_o, .inr (4, [.ref h_o_bytes, .int o_length, .int o_fault, .int o_place, .int o_rows])), (h_o_bytes, .inl (ca 0, 200, .inl o_bytes_r)), (h_p1, .inr (4, [.ref h_p1_bytes, .int p1_length, .int p1_fault, .int p1_place, .int p1_rows])), (h_p1_bytes, .inl (ca 0, 200, .inl p1_bytes_r))] H) (hD : va_D A [(h_o, .inr (4, [.ref h_o_bytes, .int o_length, .int o_fault, .int o_place, .int o_rows])), (h_o_bytes, .inl (ca 0, 200, .inl o_bytes_r)), (h_p1, .inr (4, [.ref h_p1_bytes, .int p1_length, .int p1_fault, .int p1_place, .int p1_rows])), (h_p1_bytes, .inl (ca 0, 200, .inl p1_bytes_r))]) (hS : va_S A s.heap H locs) (ls : Array Slot) (hl : lv_has ls 3 [(0, .ref h_o), (1, .ref h_p1)]), WW H locs (F0 m 38 ls []) := by
    intro o_length o_fault o_place o_bytes_r rr hf hG H locs hP hD hS ls hl
    refine h2 ?_
    unfold fX5_copyFrom_38 at hf
    refine lv_aload_n hx hb dX5_copyFrom_38 rfl (lv_at hl 0 rfl) ?_
    refine lv_aload_n hx hb dX5_copyFrom_39 rfl (lv_at hl 1 rfl) ?_
    refine va_get (D := (dC, dI)) (ci := 4) (v := .int p1_length) (C := RX5) (T := TX5) (N := 5) hx hb hts (fun w h => List.mem_cons_of_mem _ (kc_X5 w h)) hown hK hP 2 rfl rfl 1 (by decide) (hg kw_295) (fun _ h9 => h9) rfl dX5_copyFrom_40 ?_
    refine va_put (D := (dC, dI)) (ci := 4) (v := .int p1_length) (ty := tyX5 1) (C := RX5) (T := TX5) (N := 5) hx hb hts (fun w h => List.mem_cons_of_mem _ (kc_X5 w h)) tyX5 tyX5_ok nmX5 hown hK hP hD hS 0 rfl rfl 1 (by decide) (hg kw_295) (fun _ h9 => h9) rfl (by decide +kernel) rfl rfl (Nat.le_of_ble_eq_true rfl) dX5_copyFrom_43 (fun H locs hP hD hS => ?_)
    have hP : va_P (dC, dI) vwCl [(h_o, .inr (4, [.ref h_o_bytes, .int p1_length, .int o_fault, .int o_place, .int o_rows])), (h_o_bytes, .inl (ca 0, 200, .inl o_bytes_r)), (h_p1, .inr (4, [.ref h_p1_bytes, .int p1_length, .int p1_fault, .int p1_place, .int p1_rows])), (h_p1_bytes, .inl (ca 0, 200, .inl p1_bytes_r))] H := hP
    have hD : va_D A [(h_o, .inr (4, [.ref h_o_bytes, .int p1_length, .int o_fault, .int o_place, .int o_rows])), (h_o_bytes, .inl (ca 0, 200, .inl o_bytes_r)), (h_p1, .inr (4, [.ref h_p1_bytes, .int p1_length, .int p1_fault, .int p1_place, .int p1_rows])), (h_p1_bytes, .inl (ca 0, 200, .inl p1_bytes_r))] := hD
    refine lv_aload_n hx hb dX5_copyFrom_46 rfl (lv_at hl 0 rfl) ?_
    refine lv_aload_n hx hb dX5_copyFrom_47 rfl (lv_at hl 1 rfl) ?_
    refine va_get (D := (dC, dI)) (ci := 4) (v := .int p1_fault) (C := RX5) (T := TX5) (N := 5) hx hb hts (fun w h => List.mem_cons_of_mem _ (kc_X5 w h)) hown hK hP 2 rfl rfl 2 (by decide) (hg kw_301) (fun _ h9 => h9) rfl dX5_copyFrom_48 ?_
    refine va_put (D := (dC, dI)) (ci := 4) (v := .int p1_fault) (ty := tyX5 2) (C := RX5) (T := TX5) (N := 5) hx hb hts (fun w h => List.mem_cons_of_mem _ (kc_X5 w h)) tyX5 tyX5_ok nmX5 hown hK hP hD hS 0 rfl rfl 2 (by decide) (hg kw_301) (fun _ h9 => h9) rfl (by decide +kernel) rfl rfl (Nat.le_of_ble_eq_true rfl) dX5_copyFrom_51 (fun H locs hP hD hS => ?_)
    have hP : va_P (dC, dI) vwCl [(h_o, .inr (4, [.ref h_o_bytes, .int p1_length, .int p1_fault, .int o_place, .int o_rows])), (h_o_bytes, .inl (ca 0, 200, .inl o_bytes_r)), (h_p1, .inr (4, [.ref h_p1_bytes, .int p1_length, .int p1_fault, .int p1_place, .int p1_rows])), (h_p1_bytes, .inl (ca 0, 200, .inl p1_bytes_r))] H := hP
    have hD : va_D A [(h_o, .inr (4, [.ref h_o_bytes, .int p1_length, .int p1_fault, .int o_place, .int o_rows])), (h_o_bytes, .inl (ca 0, 200, .inl o_bytes_r)), (h_p1, .inr (4, [.ref h_p1_bytes, .int p1_length, .int p1_fault, .int p1_place, .int p1_rows])), (h_p1_bytes, .inl (ca 0, 200, .inl p1_bytes_r))] := hD
    refine lv_aload_n hx hb dX5_copyFrom_54 rfl (lv_at hl 0 rfl) ?_
    refine lv_aload_n hx hb dX5_copyFrom_55 rfl (lv_at hl 1 rfl) ?_
    refine va_get (D := (dC, dI)) (ci := 4) (v := .int p1_place) (C := RX5) (T := TX5) (N := 5) hx hb hts (fun w h => List.mem_cons_of_mem _ (kc_X5 w h)) hown hK hP 2 rfl rfl 3 (by decide) (hg kw_302) (fun _ h9 => h9) rfl dX5_copyFrom_56 ?_
    refine va_put (D := (dC, dI)) (ci := 4) (v := .int p1_place) (ty := tyX5 3) (C := RX5) (T := TX5) (N := 5) hx hb hts (fun w h => List.mem_cons_of_mem _ (kc_X5 w h)) tyX5 tyX5_ok nmX5 hown hK hP hD hS 0 rfl rfl 3 (by decide) (hg kw_302) (fun _ h9 => h9) rfl (by decide +kernel) rfl rfl (Nat.le_of_ble_eq_true rfl) dX5_copyFrom_59 (fun H locs hP hD hS => ?_)
    have hP : va_P (dC, dI) vwCl [(h_o, .inr (4, [.ref h_o_bytes, .int p1_length, .int p1_fault, .int p1_place, .int o_rows])), (h_o_bytes, .inl (ca 0, 200, .inl o_bytes_r)), (h_p1, .inr (4, [.ref h_p1_bytes, .int p1_length, .int p1_fault, .int p1_place, .int p1_rows])), (h_p1_bytes, .inl (ca 0, 200, .inl p1_bytes_r))] H := hP
    have hD : va_D A [(h_o, .inr (4, [.ref h_o_bytes, .int p1_length, .int p1_fault, .int p1_place, .int o_rows])), (h_o_bytes, .inl (ca 0, 200, .inl o_bytes_r)), (h_p1, .inr (4, [.ref h_p1_bytes, .int p1_length, .int p1_fault, .int p1_place, .int p1_rows])), (h_p1_bytes, .inl (ca 0, 200, .inl p1_bytes_r))] := hD
    have hf := Option.some.inj hf
    subst hf
    rw [eG0] at hG
    have hG : _ = res := hG
    subst hG
    exact W.vret hx hb hr (fun t ht hW => ⟨⟨(), rfl, trivial, by rw [ht]; exact hP, hD⟩, hS.F ht⟩) hS.2.2 dX5_copyFrom_62
  have J_2 : ∀ (o_length : Int32) (o_fault : Int32) (o_place : Int32) (n : Nat) (v2 : Int32) (o_bytes_r : Nat → Int32) (rr : Int32 × Int32 × Int32 × (Nat → Int32)) (hf : ds_it (fun s => fX5_copyFrom_2_b p1_length p1_fault p1_place p1_bytes_r s.1 s.2) n (v2, o_bytes_r) = some rr) (hG : G0 rr) (H : Heap) (locs : List Loc) (hP : va_P (dC, dI) vwCl [(h_o, .inr (4, [.ref h_o_bytes, .int o_length, .int o_fault, .int o_place, .int o_rows])), (h_o_bytes, .inl (ca 0, 200, .inl o_bytes_r)), (h_p1, .inr (4, [.ref h_p1_bytes, .int p1_length, .int p1_fault, .int p1_place, .int p1_rows])), (h_p1_bytes, .inl (ca 0, 200, .inl p1_bytes_r))] H) (hD : va_D A [(h_o, .inr (4, [.ref h_o_bytes, .int o_length, .int o_fault, .int o_place, .int o_rows])), (h_o_bytes, .inl (ca 0, 200, .inl o_bytes_r)), (h_p1, .inr (4, [.ref h_p1_bytes, .int p1_length, .int p1_fault, .int p1_place, .int p1_rows])), (h_p1_bytes, .inl (ca 0, 200, .inl p1_bytes_r))]) (hS : va_S A s.heap H locs) (ls : Array Slot) (hl : lv_has ls 3 [(0, .ref h_o), (1, .ref h_p1), (2, .int v2)]), WW H locs (F0 m 2 ls []) := by
    intro o_length o_fault o_place n
    induction n with
    | zero => intro v2 o_bytes_r rr hf; exact (ds_it_zero hf).elim
    | succ n ih2 =>
      intro v2 o_bytes_r rr hf hG H locs hP hD hS ls hl
      refine h2 ?_
      obtain ⟨rr, hf, hG⟩ := ds_it_succ hf hG
      replace hf : fX5_copyFrom_2_b p1_length p1_fault p1_place p1_bytes_r v2 o_bytes_r = some rr := hf
      obtain ⟨G1, eG1⟩ : ∃ G : ((Int32 × (Nat → Int32)) ⊕ (Int32 × Int32 × Int32 × (Nat → Int32))) → Prop, G = ds_G (fun s' => ∃ r', ds_it (fun s => fX5_copyFrom_2_b p1_length p1_fault p1_place p1_bytes_r s.1 s.2) n s' = some r' ∧ G0 r') G0 := ⟨_, rfl⟩
      rw [← eG1] at hG
      unfold fX5_copyFrom_2_b at hf
      refine lv_iload_n hx hb dX5_copyFrom_2 rfl (lv_at hl 2 rfl) ?_
      refine lv_aload_n hx hb dX5_copyFrom_3 rfl (lv_at hl 0 rfl) ?_
      refine va_get (D := (dC, dI)) (ci := 4) (v := .ref h_o_bytes) (C := RX5) (T := TX5) (N := 5) hx hb hts (fun w h => List.mem_cons_of_mem _ (kc_X5 w h)) hown hK hP 0 rfl rfl 0 (by decide) (hg kw_303) (fun _ h9 => h9) rfl dX5_copyFrom_4 ?_
      refine va_alen (v := 200) hx hb hK hP 1 0 rfl rfl rfl dX5_copyFrom_7 ?_
      refine lv_icmp_ge (tgt := 38) hx hb dX5_copyFrom_8 (by decide) (fun c_8 => ?_) (fun c_8 => ?_)
      · replace hf := ds_t c_8 hf
        obtain ⟨rr, hr_0, hf⟩ := ds_ob hf
        have hf := Option.some.inj hf
        subst hf
        rw [eG1] at hG
        replace hG : G0 rr := hG
        have hf := hr_0
        exact h1 (J_38 o_length o_fault o_place o_bytes_r _ hf hG _ _ hP hD hS _ (lv_sub hl [0, 1] rfl))
      · replace hf := ds_f c_8 hf
        refine lv_iload_n hx hb dX5_copyFrom_11 rfl (lv_at hl 2 rfl) ?_
        refine lv_aload_n hx hb dX5_copyFrom_12 rfl (lv_at hl 1 rfl) ?_
        refine va_get (D := (dC, dI)) (ci := 4) (v := .ref h_p1_bytes) (C := RX5) (T := TX5) (N := 5) hx hb hts (fun w h => List.mem_cons_of_mem _ (kc_X5 w h)) hown hK hP 2 rfl rfl 0 (by decide) (hg kw_303) (fun _ h9 => h9) rfl dX5_copyFrom_13 ?_
        refine va_alen (v := 200) hx hb hK hP 3 0 rfl rfl rfl dX5_copyFrom_16 ?_
        refine lv_icmp_ge (tgt := 38) hx hb dX5_copyFrom_17 (by decide) (fun c_17 => ?_) (fun c_17 => ?_)
        · replace hf := ds_t c_17 hf
          obtain ⟨rr, hr_0, hf⟩ := ds_ob hf
          have hf := Option.some.inj hf
          subst hf
          rw [eG1] at hG
          replace hG : G0 rr := hG
          have hf := hr_0
          exact h1 (J_38 o_length o_fault o_place o_bytes_r _ hf hG _ _ hP hD hS _ (lv_sub hl [0, 1] rfl))
        · replace hf := ds_f c_17 hf
          refine lv_aload_n hx hb dX5_copyFrom_20 rfl (lv_at hl 0 rfl) ?_
          refine va_get (D := (dC, dI)) (ci := 4) (v := .ref h_o_bytes) (C := RX5) (T := TX5) (N := 5) hx hb hts (fun w h => List.mem_cons_of_mem _ (kc_X5 w h)) hown hK hP 0 rfl rfl 0 (by decide) (hg kw_303) (fun _ h9 => h9) rfl dX5_copyFrom_21 ?_
          refine lv_iload_n hx hb dX5_copyFrom_24 rfl (lv_at hl 2 rfl) ?_
          refine lv_aload_n hx hb dX5_copyFrom_25 rfl (lv_at hl 1 rfl) ?_
          refine va_get (D := (dC, dI)) (ci := 4) (v := .ref h_p1_bytes) (C := RX5) (T := TX5) (N := 5) hx hb hts (fun w h => List.mem_cons_of_mem _ (kc_X5 w h)) hown hK hP 2 rfl rfl 0 (by decide) (hg kw_303) (fun _ h9 => h9) rfl dX5_copyFrom_26 ?_
          refine lv_iload_n hx hb dX5_copyFrom_29 rfl (lv_at hl 2 rfl) ?_
          obtain ⟨i_30, hf⟩ := ds_ci hf
          refine va_iald hx hb hK hP 3 0 rfl rfl i_30 dX5_copyFrom_30 ?_
          obtain ⟨i_31, hf⟩ := ds_ci hf
          refine va_iast hx hb hK hP hD hS 1 0 rfl rfl i_31 dX5_copyFrom_31 (fun H locs hP hD hS => ?_)
          have hP : va_P (dC, dI) vwCl [(h_o, .inr (4, [.ref h_o_bytes, .int o_length, .int o_fault, .int o_place, .int o_rows])), (h_o_bytes, .inl (ca 0, 200, .inl (upd o_bytes_r v2.toNatClampNeg (p1_bytes_r v2.toNatClampNeg)))), (h_p1, .inr (4, [.ref h_p1_bytes, .int p1_length, .int p1_fault, .int p1_place, .int p1_rows])), (h_p1_bytes, .inl (ca 0, 200, .inl p1_bytes_r))] H := hP
          have hD : va_D A [(h_o, .inr (4, [.ref h_o_bytes, .int o_length, .int o_fault, .int o_place, .int o_rows])), (h_o_bytes, .inl (ca 0, 200, .inl (upd o_bytes_r v2.toNatClampNeg (p1_bytes_r v2.toNatClampNeg)))), (h_p1, .inr (4, [.ref h_p1_bytes, .int p1_length, .int p1_fault, .int p1_place, .int p1_rows])), (h_p1_bytes, .inl (ca 0, 200, .inl p1_bytes_r))] := hD
          refine lv_iinc (v := (v2 + 1)) (lv' := [(2, .int (v2 + 1)), (0, .ref h_o), (1, .ref h_p1)]) hx hb dX5_copyFrom_32 hl (k := 2) rfl rfl (by decide) rfl (fun ls hl => ?_)
          refine lv_goto (tgt := 2) hx hb dX5_copyFrom_35 (by decide) ?_
          have hf := Option.some.inj hf
          subst hf
          rw [eG1] at hG
          obtain ⟨rr, hf, hG⟩ := hG
          exact h1 (ih2 (v2 + 1) (upd o_bytes_r v2.toNatClampNeg (p1_bytes_r v2.toNatClampNeg)) rr hf hG _ _ hP hD hS _ (lv_sub hl [1, 2, 0] rfl))
  unfold fX5_copyFrom at hf
  refine lv_iconst (v := 0) hx hb dX5_copyFrom_0 (by decide) ?_
  refine lv_istore_n (lv' := [(2, .int (0 : Int32)), (0, .ref h_o), (1, .ref h_p1)]) hx hb dX5_copyFrom_1 rfl hl (by decide) rfl (fun ls hl => ?_)
  exact h1 (J_2 o_length o_fault o_place 1000 (0 : Int32) o_bytes_r _ hf hG _ _ hP hD hS _ (lv_sub hl [1, 2, 0] rfl))
theorem dX3_copyFrom_0 : decode cX3_copyFrom 0 = .ok (.aload_n 0, 1) := by decide +kernel
theorem dX3_copyFrom_1 : decode cX3_copyFrom 1 = .ok (.getfield 10, 3) := by decide +kernel
theorem dX3_copyFrom_4 : decode cX3_copyFrom 4 = .ok (.aload_n 1, 1) := by decide +kernel
theorem dX3_copyFrom_5 : decode cX3_copyFrom 5 = .ok (.getfield 10, 3) := by decide +kernel
theorem dX3_copyFrom_8 : decode cX3_copyFrom 8 = .ok (.invokevirtual 23, 3) := by decide +kernel
theorem dX3_copyFrom_11 : decode cX3_copyFrom 11 = .ok (.aload_n 0, 1) := by decide +kernel
theorem dX3_copyFrom_12 : decode cX3_copyFrom 12 = .ok (.getfield 19, 3) := by decide +kernel
theorem dX3_copyFrom_15 : decode cX3_copyFrom 15 = .ok (.aload_n 1, 1) := by decide +kernel
theorem dX3_copyFrom_16 : decode cX3_copyFrom 16 = .ok (.getfield 19, 3) := by decide +kernel
theorem dX3_copyFrom_19 : decode cX3_copyFrom 19 = .ok (.invokevirtual 27, 3) := by decide +kernel
theorem dX3_copyFrom_22 : decode cX3_copyFrom 22 = .ok (.return_, 1) := by decide +kernel
def fX3_copyFrom (p1_tile_wide : Int32) (p1_tile_high : Int32) (p1_tile_hex : Int32) (p1_tile_ones : Int64) (p1_tile_twos : Int64) (o_script_bytes_r : Nat → Int32) (p1_script_length : Int32) (p1_script_fault : Int32) (p1_script_place : Int32) (p1_script_bytes_r : Nat → Int32) : Option (Int32 × Int32 × Int32 × Int64 × Int64 × Int32 × Int32 × Int32 × (Nat → Int32)) :=
  Option.bind (fX6_copyFrom p1_tile_wide p1_tile_high p1_tile_hex p1_tile_ones p1_tile_twos) fun q8 => Option.bind (fX5_copyFrom o_script_bytes_r p1_script_length p1_script_fault p1_script_place p1_script_bytes_r) fun q19 => some (q8.1, q8.2.1, q8.2.2.1, q8.2.2.2.1, q8.2.2.2.2, q19.1, q19.2.1, q19.2.2.1, q19.2.2.2)
set_option maxHeartbeats 4000000 in
set_option maxRecDepth 100000 in
theorem c_X3_copyFrom (l : Launch) (dC : Nat → ClassId) (dI : Nat → Nat → Nat) (ca : Nat → ClassId) (sa : Nat → Nat) (h_o : Nat) (h_o_tile : Nat) (h_o_script : Nat) (h_p1 : Nat) (h_p1_tile : Nat) (h_p1_script : Nat) (h_o_script_bytes : Nat) (h_p1_script_bytes : Nat) (sz : Nat) (o_filled : Int32) (p1_filled : Int32) (p1_tile_wide : Int32) (p1_tile_high : Int32) (p1_tile_hex : Int32) (p1_tile_ones : Int64) (p1_tile_twos : Int64) (o_tile_wide : Int32) (o_tile_high : Int32) (o_tile_hex : Int32) (o_tile_ones : Int64) (o_tile_twos : Int64) (o_script_length : Int32) (o_script_fault : Int32) (o_script_place : Int32) (o_script_rows : Int32) (o_script_bytes_r : Nat → Int32) (p1_script_length : Int32) (p1_script_fault : Int32) (p1_script_place : Int32) (p1_script_rows : Int32) (p1_script_bytes_r : Nat → Int32) (res : Int32 × Int32 × Int32 × Int64 × Int64 × Int32 × Int32 × Int32 × (Nat → Int32)) (hf : fX3_copyFrom p1_tile_wide p1_tile_high p1_tile_hex p1_tile_ones p1_tile_twos o_script_bytes_r p1_script_length p1_script_fault p1_script_place p1_script_bytes_r = some res) : Met l yX3_copyFrom (Cond.code yX3_copyFrom cX3_copyFrom 2 none :: ds_gw) { frames := 1, cells := 0, slots := 0, locals := 22 } (va_Pc [.ref h_o, .ref h_p1] (ds_Pre dC dI ca sa [(h_o, .inr (2, [.ref h_o_tile, .ref h_o_script, .int o_filled])), (h_p1, .inr (2, [.ref h_p1_tile, .ref h_p1_script, .int p1_filled])), (h_p1_tile, .inr (5, [.int p1_tile_wide, .int p1_tile_high, .int p1_tile_hex, .long p1_tile_ones, .long p1_tile_twos])), (h_o_tile, .inr (5, [.int o_tile_wide, .int o_tile_high, .int o_tile_hex, .long o_tile_ones, .long o_tile_twos])), (h_o_script, .inr (4, [.ref h_o_script_bytes, .int o_script_length, .int o_script_fault, .int o_script_place, .int o_script_rows])), (h_o_script_bytes, .inl (ca 0, 200, .inl o_script_bytes_r)), (h_p1_script, .inr (4, [.ref h_p1_script_bytes, .int p1_script_length, .int p1_script_fault, .int p1_script_place, .int p1_script_rows])), (h_p1_script_bytes, .inl (ca 0, 200, .inl p1_script_bytes_r))] sz)) (va_Qv (fun (_ : Unit) => True) (ds_B dC dI (va_A [(h_o, .inr (2, [.ref h_o_tile, .ref h_o_script, .int o_filled])), (h_p1, .inr (2, [.ref h_p1_tile, .ref h_p1_script, .int p1_filled])), (h_p1_tile, .inr (5, [.int p1_tile_wide, .int p1_tile_high, .int p1_tile_hex, .long p1_tile_ones, .long p1_tile_twos])), (h_o_tile, .inr (5, [.int o_tile_wide, .int o_tile_high, .int o_tile_hex, .long o_tile_ones, .long o_tile_twos])), (h_o_script, .inr (4, [.ref h_o_script_bytes, .int o_script_length, .int o_script_fault, .int o_script_place, .int o_script_rows])), (h_o_script_bytes, .inl (ca 0, 200, .inl o_script_bytes_r)), (h_p1_script, .inr (4, [.ref h_p1_script_bytes, .int p1_script_length, .int p1_script_fault, .int p1_script_place, .int p1_script_rows])), (h_p1_script_bytes, .inl (ca 0, 200, .inl p1_script_bytes_r))] sz) [(h_o, .inr (2, [.ref h_o_tile, .ref h_o_script, .int o_filled])), (h_p1, .inr (2, [.ref h_p1_tile, .ref h_p1_script, .int p1_filled])), (h_p1_tile, .inr (5, [.int p1_tile_wide, .int p1_tile_high, .int p1_tile_hex, .long p1_tile_ones, .long p1_tile_twos])), (h_o_tile, .inr (5, [.int res.1, .int res.2.1, .int res.2.2.1, .long res.2.2.2.1, .long res.2.2.2.2.1])), (h_o_script, .inr (4, [.ref h_o_script_bytes, .int res.2.2.2.2.2.1, .int res.2.2.2.2.2.2.1, .int res.2.2.2.2.2.2.2.1, .int o_script_rows])), (h_o_script_bytes, .inl (ca 0, 200, .inl res.2.2.2.2.2.2.2.2)), (h_p1_script, .inr (4, [.ref h_p1_script_bytes, .int p1_script_length, .int p1_script_fault, .int p1_script_place, .int p1_script_rows])), (h_p1_script_bytes, .inl (ca 0, 200, .inl p1_script_bytes_r))]) (va_A [(h_o, .inr (2, [.ref h_o_tile, .ref h_o_script, .int o_filled])), (h_p1, .inr (2, [.ref h_p1_tile, .ref h_p1_script, .int p1_filled])), (h_p1_tile, .inr (5, [.int p1_tile_wide, .int p1_tile_high, .int p1_tile_hex, .long p1_tile_ones, .long p1_tile_twos])), (h_o_tile, .inr (5, [.int o_tile_wide, .int o_tile_high, .int o_tile_hex, .long o_tile_ones, .long o_tile_twos])), (h_o_script, .inr (4, [.ref h_o_script_bytes, .int o_script_length, .int o_script_fault, .int o_script_place, .int o_script_rows])), (h_o_script_bytes, .inl (ca 0, 200, .inl o_script_bytes_r)), (h_p1_script, .inr (4, [.ref h_p1_script_bytes, .int p1_script_length, .int p1_script_fault, .int p1_script_place, .int p1_script_rows])), (h_p1_script_bytes, .inl (ca 0, 200, .inl p1_script_bytes_r))] sz)) 0 0 (va_A [(h_o, .inr (2, [.ref h_o_tile, .ref h_o_script, .int o_filled])), (h_p1, .inr (2, [.ref h_p1_tile, .ref h_p1_script, .int p1_filled])), (h_p1_tile, .inr (5, [.int p1_tile_wide, .int p1_tile_high, .int p1_tile_hex, .long p1_tile_ones, .long p1_tile_twos])), (h_o_tile, .inr (5, [.int o_tile_wide, .int o_tile_high, .int o_tile_hex, .long o_tile_ones, .long o_tile_twos])), (h_o_script, .inr (4, [.ref h_o_script_bytes, .int o_script_length, .int o_script_fault, .int o_script_place, .int o_script_rows])), (h_o_script_bytes, .inl (ca 0, 200, .inl o_script_bytes_r)), (h_p1_script, .inr (4, [.ref h_p1_script_bytes, .int p1_script_length, .int p1_script_fault, .int p1_script_place, .int p1_script_rows])), (h_p1_script_bytes, .inl (ca 0, 200, .inl p1_script_bytes_r))] sz) := by
  refine Met.ofW (cc := cX3_copyFrom) (maxL := 2) (ret := none) (by decide) rfl ?_
  intro p e s m args below meth c s₁ B hml hv
  obtain ⟨rfl, hsz, hP, hK, hD0, hE⟩ := hv
  have hx := B.exec
  have hb := B.bytes
  have hr := B.returns
  have hts := atoms_spec (ws := Cond.code yX3_copyFrom cX3_copyFrom 2 none :: ds_gw) B.pre
  have hg : ∀ {w : Cond}, w ∈ ds_gw → w.before _ s = true := fun h => hts _ (List.mem_cons_of_mem _ h)
  have hown : s.vm.findClass RX3 = some m.cls := findClass_of_methodNamed B.named
  have hlocks := B.notSynchronized
  subst hsz
  have hD := hD0.self (sz := s.heap.size)
  generalize hAe : va_A [(h_o, .inr (2, [.ref h_o_tile, .ref h_o_script, .int o_filled])), (h_p1, .inr (2, [.ref h_p1_tile, .ref h_p1_script, .int p1_filled])), (h_p1_tile, .inr (5, [.int p1_tile_wide, .int p1_tile_high, .int p1_tile_hex, .long p1_tile_ones, .long p1_tile_twos])), (h_o_tile, .inr (5, [.int o_tile_wide, .int o_tile_high, .int o_tile_hex, .long o_tile_ones, .long o_tile_twos])), (h_o_script, .inr (4, [.ref h_o_script_bytes, .int o_script_length, .int o_script_fault, .int o_script_place, .int o_script_rows])), (h_o_script_bytes, .inl (ca 0, 200, .inl o_script_bytes_r)), (h_p1_script, .inr (4, [.ref h_p1_script_bytes, .int p1_script_length, .int p1_script_fault, .int p1_script_place, .int p1_script_rows])), (h_p1_script_bytes, .inl (ca 0, 200, .inl p1_script_bytes_r))] s.heap.size = A at hD hE ⊢
  have hA : ∀ q : Nat, s.heap.size ≤ q → A q := fun q h => by rw [← hAe]; exact Or.inr h
  have hS : va_S A s.heap s.heap [] := va_S.rf
  have hl := lv_entry ([.ref h_o, .ref h_p1]) (n := 2) (Nat.le_of_ble_eq_true rfl)
  rw [lg_entry_eq]
  generalize (lg_sl ([.ref h_o, .ref h_p1]) ++ List.replicate (2 - (lg_sl ([.ref h_o, .ref h_p1])).length) Slot.unset).toArray = ls at hl ⊢
  have hl : lv_has ls 2 [(0, .ref h_o), (1, .ref h_p1)] := hl
  obtain ⟨G0, eG0⟩ : ∃ G : (Int32 × Int32 × Int32 × Int64 × Int64 × Int32 × Int32 × Int32 × (Nat → Int32)) → Prop, G = (fun r => r = res) := ⟨_, rfl⟩
  obtain ⟨rr, hrr⟩ : ∃ z, z = res := ⟨_, rfl⟩
  rw [← hrr] at hf
  have hG : G0 rr := by subst eG0; exact hrr
  unfold fX3_copyFrom at hf
  refine lv_aload_n hx hb dX3_copyFrom_0 rfl (lv_at hl 0 rfl) ?_
  refine va_get (D := (dC, dI)) (ci := 2) (v := .ref h_o_tile) (C := RX3) (T := TX3) (N := 3) hx hb hts (fun w h => List.mem_cons_of_mem _ (kc_X3 w h)) hown hK hP 0 rfl rfl 0 (by decide) (hg kw_304) (fun _ h9 => h9) rfl dX3_copyFrom_1 ?_
  refine lv_aload_n hx hb dX3_copyFrom_4 rfl (lv_at hl 1 rfl) ?_
  refine va_get (D := (dC, dI)) (ci := 2) (v := .ref h_p1_tile) (C := RX3) (T := TX3) (N := 3) hx hb hts (fun w h => List.mem_cons_of_mem _ (kc_X3 w h)) hown hK hP 1 rfl rfl 0 (by decide) (hg kw_304) (fun _ h9 => h9) rfl dX3_copyFrom_5 ?_
  obtain ⟨q8, hq8, hf⟩ := ds_ob hf
  refine ds_callv (wr := [(h_o, .inr (2, [.ref h_o_tile, .ref h_o_script, .int o_filled])), (h_p1, .inr (2, [.ref h_p1_tile, .ref h_p1_script, .int p1_filled])), (h_o_script, .inr (4, [.ref h_o_script_bytes, .int o_script_length, .int o_script_fault, .int o_script_place, .int o_script_rows])), (h_o_script_bytes, .inl (ca 0, 200, .inl o_script_bytes_r)), (h_p1_script, .inr (4, [.ref h_p1_script_bytes, .int p1_script_length, .int p1_script_fault, .int p1_script_place, .int p1_script_rows])), (h_p1_script_bytes, .inl (ca 0, 200, .inl p1_script_bytes_r))]) (va_runV (As := [.ref h_p1_tile]) (rest := []) ⟨hx, hb, hml, hown, hts⟩ (c_X6_copyFrom l dC dI ca sa h_p1_tile h_o_tile s.heap.size p1_tile_wide p1_tile_high p1_tile_hex p1_tile_ones p1_tile_twos o_tile_wide o_tile_high o_tile_hex o_tile_ones o_tile_twos  q8 hq8) (cwV 1 hts (ds_gV kw_308 kw_144 kw_145 kw_59 kw_146) rfl rfl rfl (by decide +kernel) ⟨Nat.le_of_ble_eq_true rfl, Nat.le_of_ble_eq_true rfl⟩) ⟨ds_blind, va_recv hK hP (ci := 5) (q0 := 3) rfl rfl, ds_at hP hD hK hE hS hA [2, 3] rfl rfl _⟩ rfl rfl hl.1 rfl (lv_room (Nat.le_of_ble_eq_true rfl)) dX3_copyFrom_8 ⟨Nat.zero_le _, Nat.zero_le _⟩) hP hD hS hA [2, 3] [0, 1, 4, 5, 6, 7] rfl rfl rfl (by decide) (fun H locs hP hD hS => ?_)
  have hP : va_P (dC, dI) vwCl [(h_o, .inr (2, [.ref h_o_tile, .ref h_o_script, .int o_filled])), (h_p1, .inr (2, [.ref h_p1_tile, .ref h_p1_script, .int p1_filled])), (h_o_script, .inr (4, [.ref h_o_script_bytes, .int o_script_length, .int o_script_fault, .int o_script_place, .int o_script_rows])), (h_o_script_bytes, .inl (ca 0, 200, .inl o_script_bytes_r)), (h_p1_script, .inr (4, [.ref h_p1_script_bytes, .int p1_script_length, .int p1_script_fault, .int p1_script_place, .int p1_script_rows])), (h_p1_script_bytes, .inl (ca 0, 200, .inl p1_script_bytes_r)), (h_p1_tile, .inr (5, [.int p1_tile_wide, .int p1_tile_high, .int p1_tile_hex, .long p1_tile_ones, .long p1_tile_twos])), (h_o_tile, .inr (5, [.int q8.1, .int q8.2.1, .int q8.2.2.1, .long q8.2.2.2.1, .long q8.2.2.2.2]))] H := hP
  have hD : va_D A [(h_o, .inr (2, [.ref h_o_tile, .ref h_o_script, .int o_filled])), (h_p1, .inr (2, [.ref h_p1_tile, .ref h_p1_script, .int p1_filled])), (h_o_script, .inr (4, [.ref h_o_script_bytes, .int o_script_length, .int o_script_fault, .int o_script_place, .int o_script_rows])), (h_o_script_bytes, .inl (ca 0, 200, .inl o_script_bytes_r)), (h_p1_script, .inr (4, [.ref h_p1_script_bytes, .int p1_script_length, .int p1_script_fault, .int p1_script_place, .int p1_script_rows])), (h_p1_script_bytes, .inl (ca 0, 200, .inl p1_script_bytes_r)), (h_p1_tile, .inr (5, [.int p1_tile_wide, .int p1_tile_high, .int p1_tile_hex, .long p1_tile_ones, .long p1_tile_twos])), (h_o_tile, .inr (5, [.int q8.1, .int q8.2.1, .int q8.2.2.1, .long q8.2.2.2.1, .long q8.2.2.2.2]))] := hD
  refine lv_aload_n hx hb dX3_copyFrom_11 rfl (lv_at hl 0 rfl) ?_
  refine va_get (D := (dC, dI)) (ci := 2) (v := .ref h_o_script) (C := RX3) (T := TX3) (N := 3) hx hb hts (fun w h => List.mem_cons_of_mem _ (kc_X3 w h)) hown hK hP 0 rfl rfl 1 (by decide) (hg kw_309) (fun _ h9 => h9) rfl dX3_copyFrom_12 ?_
  refine lv_aload_n hx hb dX3_copyFrom_15 rfl (lv_at hl 1 rfl) ?_
  refine va_get (D := (dC, dI)) (ci := 2) (v := .ref h_p1_script) (C := RX3) (T := TX3) (N := 3) hx hb hts (fun w h => List.mem_cons_of_mem _ (kc_X3 w h)) hown hK hP 1 rfl rfl 1 (by decide) (hg kw_309) (fun _ h9 => h9) rfl dX3_copyFrom_16 ?_
  obtain ⟨q19, hq19, hf⟩ := ds_ob hf
  refine ds_callv (wr := [(h_o, .inr (2, [.ref h_o_tile, .ref h_o_script, .int o_filled])), (h_p1, .inr (2, [.ref h_p1_tile, .ref h_p1_script, .int p1_filled])), (h_p1_tile, .inr (5, [.int p1_tile_wide, .int p1_tile_high, .int p1_tile_hex, .long p1_tile_ones, .long p1_tile_twos])), (h_o_tile, .inr (5, [.int q8.1, .int q8.2.1, .int q8.2.2.1, .long q8.2.2.2.1, .long q8.2.2.2.2]))]) (va_runV (As := [.ref h_p1_script]) (rest := []) ⟨hx, hb, hml, hown, hts⟩ (c_X5_copyFrom l dC dI ca sa h_o_script h_o_script_bytes h_p1_script h_p1_script_bytes H.size o_script_length o_script_fault o_script_place o_script_rows o_script_bytes_r p1_script_length p1_script_fault p1_script_place p1_script_rows p1_script_bytes_r  q19 hq19) (cwV 1 hts (ds_gV kw_310 kw_311 kw_312 kw_313 kw_314) rfl rfl rfl (by decide +kernel) ⟨Nat.le_of_ble_eq_true rfl, Nat.le_of_ble_eq_true rfl⟩) ⟨ds_blind, va_recv hK hP (ci := 4) (q0 := 2) rfl rfl, ds_at hP hD hK hE hS hA [2, 3, 4, 5] rfl rfl _⟩ rfl rfl hl.1 rfl (lv_room (Nat.le_of_ble_eq_true rfl)) dX3_copyFrom_19 ⟨Nat.zero_le _, Nat.zero_le _⟩) hP hD hS hA [2, 3, 4, 5] [0, 1, 6, 7] rfl rfl rfl (by decide) (fun H locs hP hD hS => ?_)
  have hP : va_P (dC, dI) vwCl [(h_o, .inr (2, [.ref h_o_tile, .ref h_o_script, .int o_filled])), (h_p1, .inr (2, [.ref h_p1_tile, .ref h_p1_script, .int p1_filled])), (h_p1_tile, .inr (5, [.int p1_tile_wide, .int p1_tile_high, .int p1_tile_hex, .long p1_tile_ones, .long p1_tile_twos])), (h_o_tile, .inr (5, [.int q8.1, .int q8.2.1, .int q8.2.2.1, .long q8.2.2.2.1, .long q8.2.2.2.2])), (h_o_script, .inr (4, [.ref h_o_script_bytes, .int q19.1, .int q19.2.1, .int q19.2.2.1, .int o_script_rows])), (h_o_script_bytes, .inl (ca 0, 200, .inl q19.2.2.2)), (h_p1_script, .inr (4, [.ref h_p1_script_bytes, .int p1_script_length, .int p1_script_fault, .int p1_script_place, .int p1_script_rows])), (h_p1_script_bytes, .inl (ca 0, 200, .inl p1_script_bytes_r))] H := hP
  have hD : va_D A [(h_o, .inr (2, [.ref h_o_tile, .ref h_o_script, .int o_filled])), (h_p1, .inr (2, [.ref h_p1_tile, .ref h_p1_script, .int p1_filled])), (h_p1_tile, .inr (5, [.int p1_tile_wide, .int p1_tile_high, .int p1_tile_hex, .long p1_tile_ones, .long p1_tile_twos])), (h_o_tile, .inr (5, [.int q8.1, .int q8.2.1, .int q8.2.2.1, .long q8.2.2.2.1, .long q8.2.2.2.2])), (h_o_script, .inr (4, [.ref h_o_script_bytes, .int q19.1, .int q19.2.1, .int q19.2.2.1, .int o_script_rows])), (h_o_script_bytes, .inl (ca 0, 200, .inl q19.2.2.2)), (h_p1_script, .inr (4, [.ref h_p1_script_bytes, .int p1_script_length, .int p1_script_fault, .int p1_script_place, .int p1_script_rows])), (h_p1_script_bytes, .inl (ca 0, 200, .inl p1_script_bytes_r))] := hD
  have hf := Option.some.inj hf
  subst hf
  rw [eG0] at hG
  have hG : _ = res := hG
  subst hG
  exact W.vret hx hb hr (fun t ht hW => ⟨⟨(), rfl, trivial, by rw [ht]; exact hP, hD⟩, hS.F ht⟩) hS.2.2 dX3_copyFrom_22
theorem dX4_clear_0 : decode cX4_clear 0 = .ok (.aload_n 0, 1) := by decide +kernel
theorem dX4_clear_1 : decode cX4_clear 1 = .ok (.iconst 0, 1) := by decide +kernel
theorem dX4_clear_2 : decode cX4_clear 2 = .ok (.putfield 16, 3) := by decide +kernel
theorem dX4_clear_5 : decode cX4_clear 5 = .ok (.return_, 1) := by decide +kernel
def fX4_clear : Option (Int32) :=
  some (0 : Int32)
set_option maxHeartbeats 4000000 in
set_option maxRecDepth 100000 in
theorem c_X4_clear (l : Launch) (dC : Nat → ClassId) (dI : Nat → Nat → Nat) (ca : Nat → ClassId) (sa : Nat → Nat) (h_o : Nat) (h_o_tiles : Nat) (sz : Nat) (o_next : Int32) (o_size : Int32) (res : Int32) (hf : fX4_clear = some res) : Met l yX4_clear (Cond.code yX4_clear cX4_clear 1 none :: ds_gw) { frames := 0, cells := 0, slots := 0, locals := 0 } (va_Pc [.ref h_o] (ds_Pre dC dI ca sa [(h_o, .inr (3, [.ref h_o_tiles, .int o_next, .int o_size]))] sz)) (va_Qv (fun (_ : Unit) => True) (ds_B dC dI (va_A [(h_o, .inr (3, [.ref h_o_tiles, .int o_next, .int o_size]))] sz) [(h_o, .inr (3, [.ref h_o_tiles, .int o_next, .int res]))]) (va_A [(h_o, .inr (3, [.ref h_o_tiles, .int o_next, .int o_size]))] sz)) 0 0 (va_A [(h_o, .inr (3, [.ref h_o_tiles, .int o_next, .int o_size]))] sz) := by
  refine Met.ofW (cc := cX4_clear) (maxL := 1) (ret := none) (by decide) rfl ?_
  intro p e s m args below meth c s₁ B hml hv
  obtain ⟨rfl, hsz, hP, hK, hD0, hE⟩ := hv
  have hx := B.exec
  have hb := B.bytes
  have hr := B.returns
  have hts := atoms_spec (ws := Cond.code yX4_clear cX4_clear 1 none :: ds_gw) B.pre
  have hg : ∀ {w : Cond}, w ∈ ds_gw → w.before _ s = true := fun h => hts _ (List.mem_cons_of_mem _ h)
  have hown : s.vm.findClass RX4 = some m.cls := findClass_of_methodNamed B.named
  have hlocks := B.notSynchronized
  subst hsz
  have hD := hD0.self (sz := s.heap.size)
  generalize hAe : va_A [(h_o, .inr (3, [.ref h_o_tiles, .int o_next, .int o_size]))] s.heap.size = A at hD hE ⊢
  have hA : ∀ q : Nat, s.heap.size ≤ q → A q := fun q h => by rw [← hAe]; exact Or.inr h
  have hS : va_S A s.heap s.heap [] := va_S.rf
  have hl := lv_entry ([.ref h_o]) (n := 1) (Nat.le_of_ble_eq_true rfl)
  rw [lg_entry_eq]
  generalize (lg_sl ([.ref h_o]) ++ List.replicate (1 - (lg_sl ([.ref h_o])).length) Slot.unset).toArray = ls at hl ⊢
  have hl : lv_has ls 1 [(0, .ref h_o)] := hl
  obtain ⟨G0, eG0⟩ : ∃ G : Int32 → Prop, G = (fun r => r = res) := ⟨_, rfl⟩
  obtain ⟨rr, hrr⟩ : ∃ z, z = res := ⟨_, rfl⟩
  rw [← hrr] at hf
  have hG : G0 rr := by subst eG0; exact hrr
  unfold fX4_clear at hf
  refine lv_aload_n hx hb dX4_clear_0 rfl (lv_at hl 0 rfl) ?_
  refine lv_iconst (v := 0) hx hb dX4_clear_1 (by decide) ?_
  refine va_put (D := (dC, dI)) (ci := 3) (v := .int (0 : Int32)) (ty := tyX4 2) (C := RX4) (T := TX4) (N := 3) hx hb hts (fun w h => List.mem_cons_of_mem _ (kc_X4 w h)) tyX4 tyX4_ok nmX4 hown hK hP hD hS 0 rfl rfl 2 (by decide) (hg kw_315) (fun _ h9 => h9) rfl (by decide +kernel) rfl rfl (Nat.le_of_ble_eq_true rfl) dX4_clear_2 (fun H locs hP hD hS => ?_)
  have hP : va_P (dC, dI) vwCl [(h_o, .inr (3, [.ref h_o_tiles, .int o_next, .int (0 : Int32)]))] H := hP
  have hD : va_D A [(h_o, .inr (3, [.ref h_o_tiles, .int o_next, .int (0 : Int32)]))] := hD
  have hf := Option.some.inj hf
  subst hf
  rw [eG0] at hG
  have hG : _ = res := hG
  subst hG
  exact W.vret hx hb hr (fun t ht hW => ⟨⟨(), rfl, trivial, by rw [ht]; exact hP, hD⟩, hS.F ht⟩) hS.2.2 dX4_clear_5
theorem dX4_keep_0 : decode cX4_keep 0 = .ok (.aload_n 0, 1) := by decide +kernel
theorem dX4_keep_1 : decode cX4_keep 1 = .ok (.getfield 20, 3) := by decide +kernel
theorem dX4_keep_4 : decode cX4_keep 4 = .ok (.ifCond .lt 68, 3) := by decide +kernel
theorem dX4_keep_7 : decode cX4_keep 7 = .ok (.aload_n 0, 1) := by decide +kernel
theorem dX4_keep_8 : decode cX4_keep 8 = .ok (.getfield 20, 3) := by decide +kernel
theorem dX4_keep_11 : decode cX4_keep 11 = .ok (.aload_n 0, 1) := by decide +kernel
theorem dX4_keep_12 : decode cX4_keep 12 = .ok (.getfield 11, 3) := by decide +kernel
theorem dX4_keep_15 : decode cX4_keep 15 = .ok (.arraylength, 1) := by decide +kernel
theorem dX4_keep_16 : decode cX4_keep 16 = .ok (.if_icmp .ge 56, 3) := by decide +kernel
theorem dX4_keep_19 : decode cX4_keep 19 = .ok (.aload_n 0, 1) := by decide +kernel
theorem dX4_keep_20 : decode cX4_keep 20 = .ok (.getfield 11, 3) := by decide +kernel
theorem dX4_keep_23 : decode cX4_keep 23 = .ok (.aload_n 0, 1) := by decide +kernel
theorem dX4_keep_24 : decode cX4_keep 24 = .ok (.getfield 20, 3) := by decide +kernel
theorem dX4_keep_27 : decode cX4_keep 27 = .ok (.aaload, 1) := by decide +kernel
theorem dX4_keep_28 : decode cX4_keep 28 = .ok (.ifnull 44, 3) := by decide +kernel
theorem dX4_keep_31 : decode cX4_keep 31 = .ok (.aload_n 0, 1) := by decide +kernel
theorem dX4_keep_32 : decode cX4_keep 32 = .ok (.getfield 11, 3) := by decide +kernel
theorem dX4_keep_35 : decode cX4_keep 35 = .ok (.aload_n 0, 1) := by decide +kernel
theorem dX4_keep_36 : decode cX4_keep 36 = .ok (.getfield 20, 3) := by decide +kernel
theorem dX4_keep_39 : decode cX4_keep 39 = .ok (.aaload, 1) := by decide +kernel
theorem dX4_keep_40 : decode cX4_keep 40 = .ok (.aload_n 1, 1) := by decide +kernel
theorem dX4_keep_41 : decode cX4_keep 41 = .ok (.invokevirtual 23, 3) := by decide +kernel
theorem dX4_keep_44 : decode cX4_keep 44 = .ok (.aload_n 0, 1) := by decide +kernel
theorem dX4_keep_45 : decode cX4_keep 45 = .ok (.aload_n 0, 1) := by decide +kernel
theorem dX4_keep_46 : decode cX4_keep 46 = .ok (.getfield 20, 3) := by decide +kernel
theorem dX4_keep_49 : decode cX4_keep 49 = .ok (.iconst 1, 1) := by decide +kernel
theorem dX4_keep_50 : decode cX4_keep 50 = .ok (.iadd, 1) := by decide +kernel
theorem dX4_keep_51 : decode cX4_keep 51 = .ok (.bipush 8, 2) := by decide +kernel
theorem dX4_keep_53 : decode cX4_keep 53 = .ok (.irem, 1) := by decide +kernel
theorem dX4_keep_54 : decode cX4_keep 54 = .ok (.putfield 20, 3) := by decide +kernel
theorem dX4_keep_57 : decode cX4_keep 57 = .ok (.aload_n 0, 1) := by decide +kernel
theorem dX4_keep_58 : decode cX4_keep 58 = .ok (.aload_n 0, 1) := by decide +kernel
theorem dX4_keep_59 : decode cX4_keep 59 = .ok (.getfield 16, 3) := by decide +kernel
theorem dX4_keep_62 : decode cX4_keep 62 = .ok (.iconst 1, 1) := by decide +kernel
theorem dX4_keep_63 : decode cX4_keep 63 = .ok (.iadd, 1) := by decide +kernel
theorem dX4_keep_64 : decode cX4_keep 64 = .ok (.bipush 8, 2) := by decide +kernel
theorem dX4_keep_66 : decode cX4_keep 66 = .ok (.invokestatic 27, 3) := by decide +kernel
theorem dX4_keep_69 : decode cX4_keep 69 = .ok (.putfield 16, 3) := by decide +kernel
theorem dX4_keep_72 : decode cX4_keep 72 = .ok (.return_, 1) := by decide +kernel
def fX4_keep (o_next : Int32) (o_size : Int32) (o_tiles_v : Nat → ds_TV) (p1_wide : Int32) (p1_high : Int32) (p1_hex : Int32) (p1_ones : Int64) (p1_twos : Int64) : Option (Int32 × Int32 × (Nat → ds_TV)) :=
  if o_next < 0 then some (o_next, o_size, o_tiles_v) else if (8 : Int32) ≤ o_next then some (o_next, o_size, o_tiles_v) else if ds_in o_next 8 = true then if o_next = 0 then Option.bind (fX6_copyFrom p1_wide p1_high p1_hex p1_ones p1_twos) fun q41 => Option.bind (some ((ds_rem (o_next + (1 : Int32)) (8 : Int32)))) fun x54 => Option.bind (some ((ds_min (o_size + (1 : Int32)) (8 : Int32)))) fun x69 => some (x54, x69, (va_up o_tiles_v 0 (q41.1, q41.2.1, q41.2.2.1, q41.2.2.2.1, q41.2.2.2.2))) else if o_next = 1 then Option.bind (fX6_copyFrom p1_wide p1_high p1_hex p1_ones p1_twos) fun q41 => Option.bind (some ((ds_rem (o_next + (1 : Int32)) (8 : Int32)))) fun x54 => Option.bind (some ((ds_min (o_size + (1 : Int32)) (8 : Int32)))) fun x69 => some (x54, x69, (va_up o_tiles_v 1 (q41.1, q41.2.1, q41.2.2.1, q41.2.2.2.1, q41.2.2.2.2))) else if o_next = 2 then Option.bind (fX6_copyFrom p1_wide p1_high p1_hex p1_ones p1_twos) fun q41 => Option.bind (some ((ds_rem (o_next + (1 : Int32)) (8 : Int32)))) fun x54 => Option.bind (some ((ds_min (o_size + (1 : Int32)) (8 : Int32)))) fun x69 => some (x54, x69, (va_up o_tiles_v 2 (q41.1, q41.2.1, q41.2.2.1, q41.2.2.2.1, q41.2.2.2.2))) else if o_next = 3 then Option.bind (fX6_copyFrom p1_wide p1_high p1_hex p1_ones p1_twos) fun q41 => Option.bind (some ((ds_rem (o_next + (1 : Int32)) (8 : Int32)))) fun x54 => Option.bind (some ((ds_min (o_size + (1 : Int32)) (8 : Int32)))) fun x69 => some (x54, x69, (va_up o_tiles_v 3 (q41.1, q41.2.1, q41.2.2.1, q41.2.2.2.1, q41.2.2.2.2))) else if o_next = 4 then Option.bind (fX6_copyFrom p1_wide p1_high p1_hex p1_ones p1_twos) fun q41 => Option.bind (some ((ds_rem (o_next + (1 : Int32)) (8 : Int32)))) fun x54 => Option.bind (some ((ds_min (o_size + (1 : Int32)) (8 : Int32)))) fun x69 => some (x54, x69, (va_up o_tiles_v 4 (q41.1, q41.2.1, q41.2.2.1, q41.2.2.2.1, q41.2.2.2.2))) else if o_next = 5 then Option.bind (fX6_copyFrom p1_wide p1_high p1_hex p1_ones p1_twos) fun q41 => Option.bind (some ((ds_rem (o_next + (1 : Int32)) (8 : Int32)))) fun x54 => Option.bind (some ((ds_min (o_size + (1 : Int32)) (8 : Int32)))) fun x69 => some (x54, x69, (va_up o_tiles_v 5 (q41.1, q41.2.1, q41.2.2.1, q41.2.2.2.1, q41.2.2.2.2))) else if o_next = 6 then Option.bind (fX6_copyFrom p1_wide p1_high p1_hex p1_ones p1_twos) fun q41 => Option.bind (some ((ds_rem (o_next + (1 : Int32)) (8 : Int32)))) fun x54 => Option.bind (some ((ds_min (o_size + (1 : Int32)) (8 : Int32)))) fun x69 => some (x54, x69, (va_up o_tiles_v 6 (q41.1, q41.2.1, q41.2.2.1, q41.2.2.2.1, q41.2.2.2.2))) else Option.bind (fX6_copyFrom p1_wide p1_high p1_hex p1_ones p1_twos) fun q41 => Option.bind (some ((ds_rem (o_next + (1 : Int32)) (8 : Int32)))) fun x54 => Option.bind (some ((ds_min (o_size + (1 : Int32)) (8 : Int32)))) fun x69 => some (x54, x69, (va_up o_tiles_v 7 (q41.1, q41.2.1, q41.2.2.1, q41.2.2.2.1, q41.2.2.2.2))) else none
set_option maxHeartbeats 4000000 in
set_option maxRecDepth 100000 in
theorem c_X4_keep (l : Launch) (dC : Nat → ClassId) (dI : Nat → Nat → Nat) (ca : Nat → ClassId) (sa : Nat → Nat) (h_o : Nat) (h_o_tiles : Nat) (h_o_tiles_e : Nat → Nat) (h_p1 : Nat) (sz : Nat) (o_next : Int32) (o_size : Int32) (o_tiles_v : Nat → ds_TV) (p1_wide : Int32) (p1_high : Int32) (p1_hex : Int32) (p1_ones : Int64) (p1_twos : Int64) (res : Int32 × Int32 × (Nat → ds_TV)) (hf : fX4_keep o_next o_size o_tiles_v p1_wide p1_high p1_hex p1_ones p1_twos = some res) : Met l yX4_keep (Cond.code yX4_keep cX4_keep 2 none :: ds_gw) { frames := 1, cells := 0, slots := 0, locals := 21 } (va_Pc [.ref h_o, .ref h_p1] (ds_Pre dC dI ca sa [(h_o, .inr (3, [.ref h_o_tiles, .int o_next, .int o_size])), (h_o_tiles, .inl (ca 5, 8, .inr (.inr (.inr (.inr (fun j => some (h_o_tiles_e j))))))), ((h_o_tiles_e 0), .inr (5, [.int ((o_tiles_v 0).1), .int ((o_tiles_v 0).2.1), .int ((o_tiles_v 0).2.2.1), .long ((o_tiles_v 0).2.2.2.1), .long ((o_tiles_v 0).2.2.2.2)])), ((h_o_tiles_e 1), .inr (5, [.int ((o_tiles_v 1).1), .int ((o_tiles_v 1).2.1), .int ((o_tiles_v 1).2.2.1), .long ((o_tiles_v 1).2.2.2.1), .long ((o_tiles_v 1).2.2.2.2)])), ((h_o_tiles_e 2), .inr (5, [.int ((o_tiles_v 2).1), .int ((o_tiles_v 2).2.1), .int ((o_tiles_v 2).2.2.1), .long ((o_tiles_v 2).2.2.2.1), .long ((o_tiles_v 2).2.2.2.2)])), ((h_o_tiles_e 3), .inr (5, [.int ((o_tiles_v 3).1), .int ((o_tiles_v 3).2.1), .int ((o_tiles_v 3).2.2.1), .long ((o_tiles_v 3).2.2.2.1), .long ((o_tiles_v 3).2.2.2.2)])), ((h_o_tiles_e 4), .inr (5, [.int ((o_tiles_v 4).1), .int ((o_tiles_v 4).2.1), .int ((o_tiles_v 4).2.2.1), .long ((o_tiles_v 4).2.2.2.1), .long ((o_tiles_v 4).2.2.2.2)])), ((h_o_tiles_e 5), .inr (5, [.int ((o_tiles_v 5).1), .int ((o_tiles_v 5).2.1), .int ((o_tiles_v 5).2.2.1), .long ((o_tiles_v 5).2.2.2.1), .long ((o_tiles_v 5).2.2.2.2)])), ((h_o_tiles_e 6), .inr (5, [.int ((o_tiles_v 6).1), .int ((o_tiles_v 6).2.1), .int ((o_tiles_v 6).2.2.1), .long ((o_tiles_v 6).2.2.2.1), .long ((o_tiles_v 6).2.2.2.2)])), ((h_o_tiles_e 7), .inr (5, [.int ((o_tiles_v 7).1), .int ((o_tiles_v 7).2.1), .int ((o_tiles_v 7).2.2.1), .long ((o_tiles_v 7).2.2.2.1), .long ((o_tiles_v 7).2.2.2.2)])), (h_p1, .inr (5, [.int p1_wide, .int p1_high, .int p1_hex, .long p1_ones, .long p1_twos]))] sz)) (va_Qv (fun (_ : Unit) => True) (ds_B dC dI (va_A [(h_o, .inr (3, [.ref h_o_tiles, .int o_next, .int o_size])), (h_o_tiles, .inl (ca 5, 8, .inr (.inr (.inr (.inr (fun j => some (h_o_tiles_e j))))))), ((h_o_tiles_e 0), .inr (5, [.int ((o_tiles_v 0).1), .int ((o_tiles_v 0).2.1), .int ((o_tiles_v 0).2.2.1), .long ((o_tiles_v 0).2.2.2.1), .long ((o_tiles_v 0).2.2.2.2)])), ((h_o_tiles_e 1), .inr (5, [.int ((o_tiles_v 1).1), .int ((o_tiles_v 1).2.1), .int ((o_tiles_v 1).2.2.1), .long ((o_tiles_v 1).2.2.2.1), .long ((o_tiles_v 1).2.2.2.2)])), ((h_o_tiles_e 2), .inr (5, [.int ((o_tiles_v 2).1), .int ((o_tiles_v 2).2.1), .int ((o_tiles_v 2).2.2.1), .long ((o_tiles_v 2).2.2.2.1), .long ((o_tiles_v 2).2.2.2.2)])), ((h_o_tiles_e 3), .inr (5, [.int ((o_tiles_v 3).1), .int ((o_tiles_v 3).2.1), .int ((o_tiles_v 3).2.2.1), .long ((o_tiles_v 3).2.2.2.1), .long ((o_tiles_v 3).2.2.2.2)])), ((h_o_tiles_e 4), .inr (5, [.int ((o_tiles_v 4).1), .int ((o_tiles_v 4).2.1), .int ((o_tiles_v 4).2.2.1), .long ((o_tiles_v 4).2.2.2.1), .long ((o_tiles_v 4).2.2.2.2)])), ((h_o_tiles_e 5), .inr (5, [.int ((o_tiles_v 5).1), .int ((o_tiles_v 5).2.1), .int ((o_tiles_v 5).2.2.1), .long ((o_tiles_v 5).2.2.2.1), .long ((o_tiles_v 5).2.2.2.2)])), ((h_o_tiles_e 6), .inr (5, [.int ((o_tiles_v 6).1), .int ((o_tiles_v 6).2.1), .int ((o_tiles_v 6).2.2.1), .long ((o_tiles_v 6).2.2.2.1), .long ((o_tiles_v 6).2.2.2.2)])), ((h_o_tiles_e 7), .inr (5, [.int ((o_tiles_v 7).1), .int ((o_tiles_v 7).2.1), .int ((o_tiles_v 7).2.2.1), .long ((o_tiles_v 7).2.2.2.1), .long ((o_tiles_v 7).2.2.2.2)])), (h_p1, .inr (5, [.int p1_wide, .int p1_high, .int p1_hex, .long p1_ones, .long p1_twos]))] sz) [(h_o, .inr (3, [.ref h_o_tiles, .int res.1, .int res.2.1])), (h_o_tiles, .inl (ca 5, 8, .inr (.inr (.inr (.inr (fun j => some (h_o_tiles_e j))))))), ((h_o_tiles_e 0), .inr (5, [.int ((res.2.2 0).1), .int ((res.2.2 0).2.1), .int ((res.2.2 0).2.2.1), .long ((res.2.2 0).2.2.2.1), .long ((res.2.2 0).2.2.2.2)])), ((h_o_tiles_e 1), .inr (5, [.int ((res.2.2 1).1), .int ((res.2.2 1).2.1), .int ((res.2.2 1).2.2.1), .long ((res.2.2 1).2.2.2.1), .long ((res.2.2 1).2.2.2.2)])), ((h_o_tiles_e 2), .inr (5, [.int ((res.2.2 2).1), .int ((res.2.2 2).2.1), .int ((res.2.2 2).2.2.1), .long ((res.2.2 2).2.2.2.1), .long ((res.2.2 2).2.2.2.2)])), ((h_o_tiles_e 3), .inr (5, [.int ((res.2.2 3).1), .int ((res.2.2 3).2.1), .int ((res.2.2 3).2.2.1), .long ((res.2.2 3).2.2.2.1), .long ((res.2.2 3).2.2.2.2)])), ((h_o_tiles_e 4), .inr (5, [.int ((res.2.2 4).1), .int ((res.2.2 4).2.1), .int ((res.2.2 4).2.2.1), .long ((res.2.2 4).2.2.2.1), .long ((res.2.2 4).2.2.2.2)])), ((h_o_tiles_e 5), .inr (5, [.int ((res.2.2 5).1), .int ((res.2.2 5).2.1), .int ((res.2.2 5).2.2.1), .long ((res.2.2 5).2.2.2.1), .long ((res.2.2 5).2.2.2.2)])), ((h_o_tiles_e 6), .inr (5, [.int ((res.2.2 6).1), .int ((res.2.2 6).2.1), .int ((res.2.2 6).2.2.1), .long ((res.2.2 6).2.2.2.1), .long ((res.2.2 6).2.2.2.2)])), ((h_o_tiles_e 7), .inr (5, [.int ((res.2.2 7).1), .int ((res.2.2 7).2.1), .int ((res.2.2 7).2.2.1), .long ((res.2.2 7).2.2.2.1), .long ((res.2.2 7).2.2.2.2)])), (h_p1, .inr (5, [.int p1_wide, .int p1_high, .int p1_hex, .long p1_ones, .long p1_twos]))]) (va_A [(h_o, .inr (3, [.ref h_o_tiles, .int o_next, .int o_size])), (h_o_tiles, .inl (ca 5, 8, .inr (.inr (.inr (.inr (fun j => some (h_o_tiles_e j))))))), ((h_o_tiles_e 0), .inr (5, [.int ((o_tiles_v 0).1), .int ((o_tiles_v 0).2.1), .int ((o_tiles_v 0).2.2.1), .long ((o_tiles_v 0).2.2.2.1), .long ((o_tiles_v 0).2.2.2.2)])), ((h_o_tiles_e 1), .inr (5, [.int ((o_tiles_v 1).1), .int ((o_tiles_v 1).2.1), .int ((o_tiles_v 1).2.2.1), .long ((o_tiles_v 1).2.2.2.1), .long ((o_tiles_v 1).2.2.2.2)])), ((h_o_tiles_e 2), .inr (5, [.int ((o_tiles_v 2).1), .int ((o_tiles_v 2).2.1), .int ((o_tiles_v 2).2.2.1), .long ((o_tiles_v 2).2.2.2.1), .long ((o_tiles_v 2).2.2.2.2)])), ((h_o_tiles_e 3), .inr (5, [.int ((o_tiles_v 3).1), .int ((o_tiles_v 3).2.1), .int ((o_tiles_v 3).2.2.1), .long ((o_tiles_v 3).2.2.2.1), .long ((o_tiles_v 3).2.2.2.2)])), ((h_o_tiles_e 4), .inr (5, [.int ((o_tiles_v 4).1), .int ((o_tiles_v 4).2.1), .int ((o_tiles_v 4).2.2.1), .long ((o_tiles_v 4).2.2.2.1), .long ((o_tiles_v 4).2.2.2.2)])), ((h_o_tiles_e 5), .inr (5, [.int ((o_tiles_v 5).1), .int ((o_tiles_v 5).2.1), .int ((o_tiles_v 5).2.2.1), .long ((o_tiles_v 5).2.2.2.1), .long ((o_tiles_v 5).2.2.2.2)])), ((h_o_tiles_e 6), .inr (5, [.int ((o_tiles_v 6).1), .int ((o_tiles_v 6).2.1), .int ((o_tiles_v 6).2.2.1), .long ((o_tiles_v 6).2.2.2.1), .long ((o_tiles_v 6).2.2.2.2)])), ((h_o_tiles_e 7), .inr (5, [.int ((o_tiles_v 7).1), .int ((o_tiles_v 7).2.1), .int ((o_tiles_v 7).2.2.1), .long ((o_tiles_v 7).2.2.2.1), .long ((o_tiles_v 7).2.2.2.2)])), (h_p1, .inr (5, [.int p1_wide, .int p1_high, .int p1_hex, .long p1_ones, .long p1_twos]))] sz)) 0 0 (va_A [(h_o, .inr (3, [.ref h_o_tiles, .int o_next, .int o_size])), (h_o_tiles, .inl (ca 5, 8, .inr (.inr (.inr (.inr (fun j => some (h_o_tiles_e j))))))), ((h_o_tiles_e 0), .inr (5, [.int ((o_tiles_v 0).1), .int ((o_tiles_v 0).2.1), .int ((o_tiles_v 0).2.2.1), .long ((o_tiles_v 0).2.2.2.1), .long ((o_tiles_v 0).2.2.2.2)])), ((h_o_tiles_e 1), .inr (5, [.int ((o_tiles_v 1).1), .int ((o_tiles_v 1).2.1), .int ((o_tiles_v 1).2.2.1), .long ((o_tiles_v 1).2.2.2.1), .long ((o_tiles_v 1).2.2.2.2)])), ((h_o_tiles_e 2), .inr (5, [.int ((o_tiles_v 2).1), .int ((o_tiles_v 2).2.1), .int ((o_tiles_v 2).2.2.1), .long ((o_tiles_v 2).2.2.2.1), .long ((o_tiles_v 2).2.2.2.2)])), ((h_o_tiles_e 3), .inr (5, [.int ((o_tiles_v 3).1), .int ((o_tiles_v 3).2.1), .int ((o_tiles_v 3).2.2.1), .long ((o_tiles_v 3).2.2.2.1), .long ((o_tiles_v 3).2.2.2.2)])), ((h_o_tiles_e 4), .inr (5, [.int ((o_tiles_v 4).1), .int ((o_tiles_v 4).2.1), .int ((o_tiles_v 4).2.2.1), .long ((o_tiles_v 4).2.2.2.1), .long ((o_tiles_v 4).2.2.2.2)])), ((h_o_tiles_e 5), .inr (5, [.int ((o_tiles_v 5).1), .int ((o_tiles_v 5).2.1), .int ((o_tiles_v 5).2.2.1), .long ((o_tiles_v 5).2.2.2.1), .long ((o_tiles_v 5).2.2.2.2)])), ((h_o_tiles_e 6), .inr (5, [.int ((o_tiles_v 6).1), .int ((o_tiles_v 6).2.1), .int ((o_tiles_v 6).2.2.1), .long ((o_tiles_v 6).2.2.2.1), .long ((o_tiles_v 6).2.2.2.2)])), ((h_o_tiles_e 7), .inr (5, [.int ((o_tiles_v 7).1), .int ((o_tiles_v 7).2.1), .int ((o_tiles_v 7).2.2.1), .long ((o_tiles_v 7).2.2.2.1), .long ((o_tiles_v 7).2.2.2.2)])), (h_p1, .inr (5, [.int p1_wide, .int p1_high, .int p1_hex, .long p1_ones, .long p1_twos]))] sz) := by
  refine Met.ofW (cc := cX4_keep) (maxL := 2) (ret := none) (by decide) rfl ?_
  intro p e s m args below meth c s₁ B hml hv
  obtain ⟨rfl, hsz, hP, hK, hD0, hE⟩ := hv
  have hx := B.exec
  have hb := B.bytes
  have hr := B.returns
  have hts := atoms_spec (ws := Cond.code yX4_keep cX4_keep 2 none :: ds_gw) B.pre
  have hg : ∀ {w : Cond}, w ∈ ds_gw → w.before _ s = true := fun h => hts _ (List.mem_cons_of_mem _ h)
  have hown : s.vm.findClass RX4 = some m.cls := findClass_of_methodNamed B.named
  have hlocks := B.notSynchronized
  subst hsz
  have hD := hD0.self (sz := s.heap.size)
  generalize hAe : va_A [(h_o, .inr (3, [.ref h_o_tiles, .int o_next, .int o_size])), (h_o_tiles, .inl (ca 5, 8, .inr (.inr (.inr (.inr (fun j => some (h_o_tiles_e j))))))), ((h_o_tiles_e 0), .inr (5, [.int ((o_tiles_v 0).1), .int ((o_tiles_v 0).2.1), .int ((o_tiles_v 0).2.2.1), .long ((o_tiles_v 0).2.2.2.1), .long ((o_tiles_v 0).2.2.2.2)])), ((h_o_tiles_e 1), .inr (5, [.int ((o_tiles_v 1).1), .int ((o_tiles_v 1).2.1), .int ((o_tiles_v 1).2.2.1), .long ((o_tiles_v 1).2.2.2.1), .long ((o_tiles_v 1).2.2.2.2)])), ((h_o_tiles_e 2), .inr (5, [.int ((o_tiles_v 2).1), .int ((o_tiles_v 2).2.1), .int ((o_tiles_v 2).2.2.1), .long ((o_tiles_v 2).2.2.2.1), .long ((o_tiles_v 2).2.2.2.2)])), ((h_o_tiles_e 3), .inr (5, [.int ((o_tiles_v 3).1), .int ((o_tiles_v 3).2.1), .int ((o_tiles_v 3).2.2.1), .long ((o_tiles_v 3).2.2.2.1), .long ((o_tiles_v 3).2.2.2.2)])), ((h_o_tiles_e 4), .inr (5, [.int ((o_tiles_v 4).1), .int ((o_tiles_v 4).2.1), .int ((o_tiles_v 4).2.2.1), .long ((o_tiles_v 4).2.2.2.1), .long ((o_tiles_v 4).2.2.2.2)])), ((h_o_tiles_e 5), .inr (5, [.int ((o_tiles_v 5).1), .int ((o_tiles_v 5).2.1), .int ((o_tiles_v 5).2.2.1), .long ((o_tiles_v 5).2.2.2.1), .long ((o_tiles_v 5).2.2.2.2)])), ((h_o_tiles_e 6), .inr (5, [.int ((o_tiles_v 6).1), .int ((o_tiles_v 6).2.1), .int ((o_tiles_v 6).2.2.1), .long ((o_tiles_v 6).2.2.2.1), .long ((o_tiles_v 6).2.2.2.2)])), ((h_o_tiles_e 7), .inr (5, [.int ((o_tiles_v 7).1), .int ((o_tiles_v 7).2.1), .int ((o_tiles_v 7).2.2.1), .long ((o_tiles_v 7).2.2.2.1), .long ((o_tiles_v 7).2.2.2.2)])), (h_p1, .inr (5, [.int p1_wide, .int p1_high, .int p1_hex, .long p1_ones, .long p1_twos]))] s.heap.size = A at hD hE ⊢
  have hA : ∀ q : Nat, s.heap.size ≤ q → A q := fun q h => by rw [← hAe]; exact Or.inr h
  have hS : va_S A s.heap s.heap [] := va_S.rf
  have hl := lv_entry ([.ref h_o, .ref h_p1]) (n := 2) (Nat.le_of_ble_eq_true rfl)
  rw [lg_entry_eq]
  generalize (lg_sl ([.ref h_o, .ref h_p1]) ++ List.replicate (2 - (lg_sl ([.ref h_o, .ref h_p1])).length) Slot.unset).toArray = ls at hl ⊢
  have hl : lv_has ls 2 [(0, .ref h_o), (1, .ref h_p1)] := hl
  obtain ⟨G0, eG0⟩ : ∃ G : (Int32 × Int32 × (Nat → ds_TV)) → Prop, G = (fun r => r = res) := ⟨_, rfl⟩
  obtain ⟨rr, hrr⟩ : ∃ z, z = res := ⟨_, rfl⟩
  rw [← hrr] at hf
  have hG : G0 rr := by subst eG0; exact hrr
  unfold fX4_keep at hf
  refine lv_aload_n hx hb dX4_keep_0 rfl (lv_at hl 0 rfl) ?_
  refine va_get (D := (dC, dI)) (ci := 3) (v := .int o_next) (C := RX4) (T := TX4) (N := 3) hx hb hts (fun w h => List.mem_cons_of_mem _ (kc_X4 w h)) hown hK hP 0 rfl rfl 1 (by decide) (hg kw_319) (fun _ h9 => h9) rfl dX4_keep_1 ?_
  refine lv_if_lt (tgt := 72) hx hb dX4_keep_4 (by decide) (fun c_4 => ?_) (fun c_4 => ?_)
  · replace hf := ds_t c_4 hf
    have hf := Option.some.inj hf
    subst hf
    rw [eG0] at hG
    have hG : _ = res := hG
    subst hG
    exact W.vret hx hb hr (fun t ht hW => ⟨⟨(), rfl, trivial, by rw [ht]; exact hP, hD⟩, hS.F ht⟩) hS.2.2 dX4_keep_72
  · replace hf := ds_f c_4 hf
    refine lv_aload_n hx hb dX4_keep_7 rfl (lv_at hl 0 rfl) ?_
    refine va_get (D := (dC, dI)) (ci := 3) (v := .int o_next) (C := RX4) (T := TX4) (N := 3) hx hb hts (fun w h => List.mem_cons_of_mem _ (kc_X4 w h)) hown hK hP 0 rfl rfl 1 (by decide) (hg kw_319) (fun _ h9 => h9) rfl dX4_keep_8 ?_
    refine lv_aload_n hx hb dX4_keep_11 rfl (lv_at hl 0 rfl) ?_
    refine va_get (D := (dC, dI)) (ci := 3) (v := .ref h_o_tiles) (C := RX4) (T := TX4) (N := 3) hx hb hts (fun w h => List.mem_cons_of_mem _ (kc_X4 w h)) hown hK hP 0 rfl rfl 0 (by decide) (hg kw_320) (fun _ h9 => h9) rfl dX4_keep_12 ?_
    refine va_alen (v := 8) hx hb hK hP 1 5 rfl rfl rfl dX4_keep_15 ?_
    refine lv_icmp_ge (tgt := 72) hx hb dX4_keep_16 (by decide) (fun c_16 => ?_) (fun c_16 => ?_)
    · replace hf := ds_t c_16 hf
      have hf := Option.some.inj hf
      subst hf
      rw [eG0] at hG
      have hG : _ = res := hG
      subst hG
      exact W.vret hx hb hr (fun t ht hW => ⟨⟨(), rfl, trivial, by rw [ht]; exact hP, hD⟩, hS.F ht⟩) hS.2.2 dX4_keep_72
    · replace hf := ds_f c_16 hf
      refine lv_aload_n hx hb dX4_keep_19 rfl (lv_at hl 0 rfl) ?_
      refine va_get (D := (dC, dI)) (ci := 3) (v := .ref h_o_tiles) (C := RX4) (T := TX4) (N := 3) hx hb hts (fun w h => List.mem_cons_of_mem _ (kc_X4 w h)) hown hK hP 0 rfl rfl 0 (by decide) (hg kw_320) (fun _ h9 => h9) rfl dX4_keep_20 ?_
      refine lv_aload_n hx hb dX4_keep_23 rfl (lv_at hl 0 rfl) ?_
      refine va_get (D := (dC, dI)) (ci := 3) (v := .int o_next) (C := RX4) (T := TX4) (N := 3) hx hb hts (fun w h => List.mem_cons_of_mem _ (kc_X4 w h)) hown hK hP 0 rfl rfl 1 (by decide) (hg kw_319) (fun _ h9 => h9) rfl dX4_keep_24 ?_
      obtain ⟨i_27, hf⟩ := ds_ci hf
      have b_27 := i_27
      refine va_aldq hx hb hK hP 1 5 rfl rfl i_27 dX4_keep_27 ?_
      by_cases c_27_0 : o_next = 0
      · replace hf := ds_t c_27_0 hf
        refine ds_ai (f := fun j => some (h_o_tiles_e j)) (k := 0) (by rw [c_27_0]; decide) ?_
        refine lv_ifnull hx hb dX4_keep_28 ?_
        refine lv_aload_n hx hb dX4_keep_31 rfl (lv_at hl 0 rfl) ?_
        refine va_get (D := (dC, dI)) (ci := 3) (v := .ref h_o_tiles) (C := RX4) (T := TX4) (N := 3) hx hb hts (fun w h => List.mem_cons_of_mem _ (kc_X4 w h)) hown hK hP 0 rfl rfl 0 (by decide) (hg kw_320) (fun _ h9 => h9) rfl dX4_keep_32 ?_
        refine lv_aload_n hx hb dX4_keep_35 rfl (lv_at hl 0 rfl) ?_
        refine va_get (D := (dC, dI)) (ci := 3) (v := .int o_next) (C := RX4) (T := TX4) (N := 3) hx hb hts (fun w h => List.mem_cons_of_mem _ (kc_X4 w h)) hown hK hP 0 rfl rfl 1 (by decide) (hg kw_319) (fun _ h9 => h9) rfl dX4_keep_36 ?_
        refine va_aldq hx hb hK hP 1 5 rfl rfl b_27 dX4_keep_39 ?_
        refine ds_ai (f := fun j => some (h_o_tiles_e j)) (k := 0) (by rw [c_27_0]; decide) ?_
        refine lv_aload_n hx hb dX4_keep_40 rfl (lv_at hl 1 rfl) ?_
        obtain ⟨q41, hq41, hf⟩ := ds_ob hf
        refine ds_callv (wr := [(h_o, .inr (3, [.ref h_o_tiles, .int o_next, .int o_size])), (h_o_tiles, .inl (ca 5, 8, .inr (.inr (.inr (.inr (fun j => some (h_o_tiles_e j))))))), ((h_o_tiles_e 1), .inr (5, [.int ((o_tiles_v 1).1), .int ((o_tiles_v 1).2.1), .int ((o_tiles_v 1).2.2.1), .long ((o_tiles_v 1).2.2.2.1), .long ((o_tiles_v 1).2.2.2.2)])), ((h_o_tiles_e 2), .inr (5, [.int ((o_tiles_v 2).1), .int ((o_tiles_v 2).2.1), .int ((o_tiles_v 2).2.2.1), .long ((o_tiles_v 2).2.2.2.1), .long ((o_tiles_v 2).2.2.2.2)])), ((h_o_tiles_e 3), .inr (5, [.int ((o_tiles_v 3).1), .int ((o_tiles_v 3).2.1), .int ((o_tiles_v 3).2.2.1), .long ((o_tiles_v 3).2.2.2.1), .long ((o_tiles_v 3).2.2.2.2)])), ((h_o_tiles_e 4), .inr (5, [.int ((o_tiles_v 4).1), .int ((o_tiles_v 4).2.1), .int ((o_tiles_v 4).2.2.1), .long ((o_tiles_v 4).2.2.2.1), .long ((o_tiles_v 4).2.2.2.2)])), ((h_o_tiles_e 5), .inr (5, [.int ((o_tiles_v 5).1), .int ((o_tiles_v 5).2.1), .int ((o_tiles_v 5).2.2.1), .long ((o_tiles_v 5).2.2.2.1), .long ((o_tiles_v 5).2.2.2.2)])), ((h_o_tiles_e 6), .inr (5, [.int ((o_tiles_v 6).1), .int ((o_tiles_v 6).2.1), .int ((o_tiles_v 6).2.2.1), .long ((o_tiles_v 6).2.2.2.1), .long ((o_tiles_v 6).2.2.2.2)])), ((h_o_tiles_e 7), .inr (5, [.int ((o_tiles_v 7).1), .int ((o_tiles_v 7).2.1), .int ((o_tiles_v 7).2.2.1), .long ((o_tiles_v 7).2.2.2.1), .long ((o_tiles_v 7).2.2.2.2)]))]) (va_runV (As := [.ref h_p1]) (rest := []) ⟨hx, hb, hml, hown, hts⟩ (c_X6_copyFrom l dC dI ca sa h_p1 (h_o_tiles_e 0) s.heap.size p1_wide p1_high p1_hex p1_ones p1_twos ((o_tiles_v 0).1) ((o_tiles_v 0).2.1) ((o_tiles_v 0).2.2.1) ((o_tiles_v 0).2.2.2.1) ((o_tiles_v 0).2.2.2.2)  q41 hq41) (cwV 1 hts (ds_gV kw_321 kw_144 kw_145 kw_59 kw_146) rfl rfl rfl (by decide +kernel) ⟨Nat.le_of_ble_eq_true rfl, Nat.le_of_ble_eq_true rfl⟩) ⟨ds_blind, va_recv hK hP (ci := 5) (q0 := 2) rfl rfl, ds_at hP hD hK hE hS hA [10, 2] rfl rfl _⟩ rfl rfl hl.1 rfl (lv_room (Nat.le_of_ble_eq_true rfl)) dX4_keep_41 ⟨Nat.zero_le _, Nat.zero_le _⟩) hP hD hS hA [10, 2] [0, 1, 3, 4, 5, 6, 7, 8, 9] rfl rfl rfl (by decide) (fun H locs hP hD hS => ?_)
        have hP : va_P (dC, dI) vwCl [(h_o, .inr (3, [.ref h_o_tiles, .int o_next, .int o_size])), (h_o_tiles, .inl (ca 5, 8, .inr (.inr (.inr (.inr (fun j => some (h_o_tiles_e j))))))), ((h_o_tiles_e 1), .inr (5, [.int ((o_tiles_v 1).1), .int ((o_tiles_v 1).2.1), .int ((o_tiles_v 1).2.2.1), .long ((o_tiles_v 1).2.2.2.1), .long ((o_tiles_v 1).2.2.2.2)])), ((h_o_tiles_e 2), .inr (5, [.int ((o_tiles_v 2).1), .int ((o_tiles_v 2).2.1), .int ((o_tiles_v 2).2.2.1), .long ((o_tiles_v 2).2.2.2.1), .long ((o_tiles_v 2).2.2.2.2)])), ((h_o_tiles_e 3), .inr (5, [.int ((o_tiles_v 3).1), .int ((o_tiles_v 3).2.1), .int ((o_tiles_v 3).2.2.1), .long ((o_tiles_v 3).2.2.2.1), .long ((o_tiles_v 3).2.2.2.2)])), ((h_o_tiles_e 4), .inr (5, [.int ((o_tiles_v 4).1), .int ((o_tiles_v 4).2.1), .int ((o_tiles_v 4).2.2.1), .long ((o_tiles_v 4).2.2.2.1), .long ((o_tiles_v 4).2.2.2.2)])), ((h_o_tiles_e 5), .inr (5, [.int ((o_tiles_v 5).1), .int ((o_tiles_v 5).2.1), .int ((o_tiles_v 5).2.2.1), .long ((o_tiles_v 5).2.2.2.1), .long ((o_tiles_v 5).2.2.2.2)])), ((h_o_tiles_e 6), .inr (5, [.int ((o_tiles_v 6).1), .int ((o_tiles_v 6).2.1), .int ((o_tiles_v 6).2.2.1), .long ((o_tiles_v 6).2.2.2.1), .long ((o_tiles_v 6).2.2.2.2)])), ((h_o_tiles_e 7), .inr (5, [.int ((o_tiles_v 7).1), .int ((o_tiles_v 7).2.1), .int ((o_tiles_v 7).2.2.1), .long ((o_tiles_v 7).2.2.2.1), .long ((o_tiles_v 7).2.2.2.2)])), (h_p1, .inr (5, [.int p1_wide, .int p1_high, .int p1_hex, .long p1_ones, .long p1_twos])), ((h_o_tiles_e 0), .inr (5, [.int q41.1, .int q41.2.1, .int q41.2.2.1, .long q41.2.2.2.1, .long q41.2.2.2.2]))] H := hP
        have hD : va_D A [(h_o, .inr (3, [.ref h_o_tiles, .int o_next, .int o_size])), (h_o_tiles, .inl (ca 5, 8, .inr (.inr (.inr (.inr (fun j => some (h_o_tiles_e j))))))), ((h_o_tiles_e 1), .inr (5, [.int ((o_tiles_v 1).1), .int ((o_tiles_v 1).2.1), .int ((o_tiles_v 1).2.2.1), .long ((o_tiles_v 1).2.2.2.1), .long ((o_tiles_v 1).2.2.2.2)])), ((h_o_tiles_e 2), .inr (5, [.int ((o_tiles_v 2).1), .int ((o_tiles_v 2).2.1), .int ((o_tiles_v 2).2.2.1), .long ((o_tiles_v 2).2.2.2.1), .long ((o_tiles_v 2).2.2.2.2)])), ((h_o_tiles_e 3), .inr (5, [.int ((o_tiles_v 3).1), .int ((o_tiles_v 3).2.1), .int ((o_tiles_v 3).2.2.1), .long ((o_tiles_v 3).2.2.2.1), .long ((o_tiles_v 3).2.2.2.2)])), ((h_o_tiles_e 4), .inr (5, [.int ((o_tiles_v 4).1), .int ((o_tiles_v 4).2.1), .int ((o_tiles_v 4).2.2.1), .long ((o_tiles_v 4).2.2.2.1), .long ((o_tiles_v 4).2.2.2.2)])), ((h_o_tiles_e 5), .inr (5, [.int ((o_tiles_v 5).1), .int ((o_tiles_v 5).2.1), .int ((o_tiles_v 5).2.2.1), .long ((o_tiles_v 5).2.2.2.1), .long ((o_tiles_v 5).2.2.2.2)])), ((h_o_tiles_e 6), .inr (5, [.int ((o_tiles_v 6).1), .int ((o_tiles_v 6).2.1), .int ((o_tiles_v 6).2.2.1), .long ((o_tiles_v 6).2.2.2.1), .long ((o_tiles_v 6).2.2.2.2)])), ((h_o_tiles_e 7), .inr (5, [.int ((o_tiles_v 7).1), .int ((o_tiles_v 7).2.1), .int ((o_tiles_v 7).2.2.1), .long ((o_tiles_v 7).2.2.2.1), .long ((o_tiles_v 7).2.2.2.2)])), (h_p1, .inr (5, [.int p1_wide, .int p1_high, .int p1_hex, .long p1_ones, .long p1_twos])), ((h_o_tiles_e 0), .inr (5, [.int q41.1, .int q41.2.1, .int q41.2.2.1, .long q41.2.2.2.1, .long q41.2.2.2.2]))] := hD
        refine lv_aload_n hx hb dX4_keep_44 rfl (lv_at hl 0 rfl) ?_
        refine lv_aload_n hx hb dX4_keep_45 rfl (lv_at hl 0 rfl) ?_
        refine va_get (D := (dC, dI)) (ci := 3) (v := .int o_next) (C := RX4) (T := TX4) (N := 3) hx hb hts (fun w h => List.mem_cons_of_mem _ (kc_X4 w h)) hown hK hP 0 rfl rfl 1 (by decide) (hg kw_319) (fun _ h9 => h9) rfl dX4_keep_46 ?_
        refine lv_iconst (v := 1) hx hb dX4_keep_49 (by decide) ?_
        refine lv_iadd hx hb dX4_keep_50 ?_
        refine lv_bipush (v := 8) hx hb dX4_keep_51 (by decide) ?_
        refine lv_irem hx hb dX4_keep_53 (by decide) ?_
        obtain ⟨x54, hx_54, hf⟩ := ds_ob hf
        refine ds_nmi hx_54 ?_
        refine va_put (D := (dC, dI)) (ci := 3) (v := .int x54) (ty := tyX4 1) (C := RX4) (T := TX4) (N := 3) hx hb hts (fun w h => List.mem_cons_of_mem _ (kc_X4 w h)) tyX4 tyX4_ok nmX4 hown hK hP hD hS 0 rfl rfl 1 (by decide) (hg kw_319) (fun _ h9 => h9) rfl (by decide +kernel) rfl rfl (Nat.le_of_ble_eq_true rfl) dX4_keep_54 (fun H locs hP hD hS => ?_)
        have hP : va_P (dC, dI) vwCl [(h_o, .inr (3, [.ref h_o_tiles, .int x54, .int o_size])), (h_o_tiles, .inl (ca 5, 8, .inr (.inr (.inr (.inr (fun j => some (h_o_tiles_e j))))))), ((h_o_tiles_e 1), .inr (5, [.int ((o_tiles_v 1).1), .int ((o_tiles_v 1).2.1), .int ((o_tiles_v 1).2.2.1), .long ((o_tiles_v 1).2.2.2.1), .long ((o_tiles_v 1).2.2.2.2)])), ((h_o_tiles_e 2), .inr (5, [.int ((o_tiles_v 2).1), .int ((o_tiles_v 2).2.1), .int ((o_tiles_v 2).2.2.1), .long ((o_tiles_v 2).2.2.2.1), .long ((o_tiles_v 2).2.2.2.2)])), ((h_o_tiles_e 3), .inr (5, [.int ((o_tiles_v 3).1), .int ((o_tiles_v 3).2.1), .int ((o_tiles_v 3).2.2.1), .long ((o_tiles_v 3).2.2.2.1), .long ((o_tiles_v 3).2.2.2.2)])), ((h_o_tiles_e 4), .inr (5, [.int ((o_tiles_v 4).1), .int ((o_tiles_v 4).2.1), .int ((o_tiles_v 4).2.2.1), .long ((o_tiles_v 4).2.2.2.1), .long ((o_tiles_v 4).2.2.2.2)])), ((h_o_tiles_e 5), .inr (5, [.int ((o_tiles_v 5).1), .int ((o_tiles_v 5).2.1), .int ((o_tiles_v 5).2.2.1), .long ((o_tiles_v 5).2.2.2.1), .long ((o_tiles_v 5).2.2.2.2)])), ((h_o_tiles_e 6), .inr (5, [.int ((o_tiles_v 6).1), .int ((o_tiles_v 6).2.1), .int ((o_tiles_v 6).2.2.1), .long ((o_tiles_v 6).2.2.2.1), .long ((o_tiles_v 6).2.2.2.2)])), ((h_o_tiles_e 7), .inr (5, [.int ((o_tiles_v 7).1), .int ((o_tiles_v 7).2.1), .int ((o_tiles_v 7).2.2.1), .long ((o_tiles_v 7).2.2.2.1), .long ((o_tiles_v 7).2.2.2.2)])), (h_p1, .inr (5, [.int p1_wide, .int p1_high, .int p1_hex, .long p1_ones, .long p1_twos])), ((h_o_tiles_e 0), .inr (5, [.int q41.1, .int q41.2.1, .int q41.2.2.1, .long q41.2.2.2.1, .long q41.2.2.2.2]))] H := hP
        have hD : va_D A [(h_o, .inr (3, [.ref h_o_tiles, .int x54, .int o_size])), (h_o_tiles, .inl (ca 5, 8, .inr (.inr (.inr (.inr (fun j => some (h_o_tiles_e j))))))), ((h_o_tiles_e 1), .inr (5, [.int ((o_tiles_v 1).1), .int ((o_tiles_v 1).2.1), .int ((o_tiles_v 1).2.2.1), .long ((o_tiles_v 1).2.2.2.1), .long ((o_tiles_v 1).2.2.2.2)])), ((h_o_tiles_e 2), .inr (5, [.int ((o_tiles_v 2).1), .int ((o_tiles_v 2).2.1), .int ((o_tiles_v 2).2.2.1), .long ((o_tiles_v 2).2.2.2.1), .long ((o_tiles_v 2).2.2.2.2)])), ((h_o_tiles_e 3), .inr (5, [.int ((o_tiles_v 3).1), .int ((o_tiles_v 3).2.1), .int ((o_tiles_v 3).2.2.1), .long ((o_tiles_v 3).2.2.2.1), .long ((o_tiles_v 3).2.2.2.2)])), ((h_o_tiles_e 4), .inr (5, [.int ((o_tiles_v 4).1), .int ((o_tiles_v 4).2.1), .int ((o_tiles_v 4).2.2.1), .long ((o_tiles_v 4).2.2.2.1), .long ((o_tiles_v 4).2.2.2.2)])), ((h_o_tiles_e 5), .inr (5, [.int ((o_tiles_v 5).1), .int ((o_tiles_v 5).2.1), .int ((o_tiles_v 5).2.2.1), .long ((o_tiles_v 5).2.2.2.1), .long ((o_tiles_v 5).2.2.2.2)])), ((h_o_tiles_e 6), .inr (5, [.int ((o_tiles_v 6).1), .int ((o_tiles_v 6).2.1), .int ((o_tiles_v 6).2.2.1), .long ((o_tiles_v 6).2.2.2.1), .long ((o_tiles_v 6).2.2.2.2)])), ((h_o_tiles_e 7), .inr (5, [.int ((o_tiles_v 7).1), .int ((o_tiles_v 7).2.1), .int ((o_tiles_v 7).2.2.1), .long ((o_tiles_v 7).2.2.2.1), .long ((o_tiles_v 7).2.2.2.2)])), (h_p1, .inr (5, [.int p1_wide, .int p1_high, .int p1_hex, .long p1_ones, .long p1_twos])), ((h_o_tiles_e 0), .inr (5, [.int q41.1, .int q41.2.1, .int q41.2.2.1, .long q41.2.2.2.1, .long q41.2.2.2.2]))] := hD
        refine lv_aload_n hx hb dX4_keep_57 rfl (lv_at hl 0 rfl) ?_
        refine lv_aload_n hx hb dX4_keep_58 rfl (lv_at hl 0 rfl) ?_
        refine va_get (D := (dC, dI)) (ci := 3) (v := .int o_size) (C := RX4) (T := TX4) (N := 3) hx hb hts (fun w h => List.mem_cons_of_mem _ (kc_X4 w h)) hown hK hP 0 rfl rfl 2 (by decide) (hg kw_315) (fun _ h9 => h9) rfl dX4_keep_59 ?_
        refine lv_iconst (v := 1) hx hb dX4_keep_62 (by decide) ?_
        refine lv_iadd hx hb dX4_keep_63 ?_
        refine lv_bipush (v := 8) hx hb dX4_keep_64 (by decide) ?_
        refine va_mmin hx hb (hml.trans hl.1.symm) hown (hg kw_322) (hg kw_323) (hg kw_324) (hg kw_325) (Nat.le_of_ble_eq_true rfl) (Nat.le_of_ble_eq_true rfl) (Nat.zero_le _) (Nat.zero_le _) dX4_keep_66 ?_
        obtain ⟨x69, hx_69, hf⟩ := ds_ob hf
        refine ds_nmi hx_69 ?_
        refine va_put (D := (dC, dI)) (ci := 3) (v := .int x69) (ty := tyX4 2) (C := RX4) (T := TX4) (N := 3) hx hb hts (fun w h => List.mem_cons_of_mem _ (kc_X4 w h)) tyX4 tyX4_ok nmX4 hown hK hP hD hS 0 rfl rfl 2 (by decide) (hg kw_315) (fun _ h9 => h9) rfl (by decide +kernel) rfl rfl (Nat.le_of_ble_eq_true rfl) dX4_keep_69 (fun H locs hP hD hS => ?_)
        have hP : va_P (dC, dI) vwCl [(h_o, .inr (3, [.ref h_o_tiles, .int x54, .int x69])), (h_o_tiles, .inl (ca 5, 8, .inr (.inr (.inr (.inr (fun j => some (h_o_tiles_e j))))))), ((h_o_tiles_e 1), .inr (5, [.int ((o_tiles_v 1).1), .int ((o_tiles_v 1).2.1), .int ((o_tiles_v 1).2.2.1), .long ((o_tiles_v 1).2.2.2.1), .long ((o_tiles_v 1).2.2.2.2)])), ((h_o_tiles_e 2), .inr (5, [.int ((o_tiles_v 2).1), .int ((o_tiles_v 2).2.1), .int ((o_tiles_v 2).2.2.1), .long ((o_tiles_v 2).2.2.2.1), .long ((o_tiles_v 2).2.2.2.2)])), ((h_o_tiles_e 3), .inr (5, [.int ((o_tiles_v 3).1), .int ((o_tiles_v 3).2.1), .int ((o_tiles_v 3).2.2.1), .long ((o_tiles_v 3).2.2.2.1), .long ((o_tiles_v 3).2.2.2.2)])), ((h_o_tiles_e 4), .inr (5, [.int ((o_tiles_v 4).1), .int ((o_tiles_v 4).2.1), .int ((o_tiles_v 4).2.2.1), .long ((o_tiles_v 4).2.2.2.1), .long ((o_tiles_v 4).2.2.2.2)])), ((h_o_tiles_e 5), .inr (5, [.int ((o_tiles_v 5).1), .int ((o_tiles_v 5).2.1), .int ((o_tiles_v 5).2.2.1), .long ((o_tiles_v 5).2.2.2.1), .long ((o_tiles_v 5).2.2.2.2)])), ((h_o_tiles_e 6), .inr (5, [.int ((o_tiles_v 6).1), .int ((o_tiles_v 6).2.1), .int ((o_tiles_v 6).2.2.1), .long ((o_tiles_v 6).2.2.2.1), .long ((o_tiles_v 6).2.2.2.2)])), ((h_o_tiles_e 7), .inr (5, [.int ((o_tiles_v 7).1), .int ((o_tiles_v 7).2.1), .int ((o_tiles_v 7).2.2.1), .long ((o_tiles_v 7).2.2.2.1), .long ((o_tiles_v 7).2.2.2.2)])), (h_p1, .inr (5, [.int p1_wide, .int p1_high, .int p1_hex, .long p1_ones, .long p1_twos])), ((h_o_tiles_e 0), .inr (5, [.int q41.1, .int q41.2.1, .int q41.2.2.1, .long q41.2.2.2.1, .long q41.2.2.2.2]))] H := hP
        have hD : va_D A [(h_o, .inr (3, [.ref h_o_tiles, .int x54, .int x69])), (h_o_tiles, .inl (ca 5, 8, .inr (.inr (.inr (.inr (fun j => some (h_o_tiles_e j))))))), ((h_o_tiles_e 1), .inr (5, [.int ((o_tiles_v 1).1), .int ((o_tiles_v 1).2.1), .int ((o_tiles_v 1).2.2.1), .long ((o_tiles_v 1).2.2.2.1), .long ((o_tiles_v 1).2.2.2.2)])), ((h_o_tiles_e 2), .inr (5, [.int ((o_tiles_v 2).1), .int ((o_tiles_v 2).2.1), .int ((o_tiles_v 2).2.2.1), .long ((o_tiles_v 2).2.2.2.1), .long ((o_tiles_v 2).2.2.2.2)])), ((h_o_tiles_e 3), .inr (5, [.int ((o_tiles_v 3).1), .int ((o_tiles_v 3).2.1), .int ((o_tiles_v 3).2.2.1), .long ((o_tiles_v 3).2.2.2.1), .long ((o_tiles_v 3).2.2.2.2)])), ((h_o_tiles_e 4), .inr (5, [.int ((o_tiles_v 4).1), .int ((o_tiles_v 4).2.1), .int ((o_tiles_v 4).2.2.1), .long ((o_tiles_v 4).2.2.2.1), .long ((o_tiles_v 4).2.2.2.2)])), ((h_o_tiles_e 5), .inr (5, [.int ((o_tiles_v 5).1), .int ((o_tiles_v 5).2.1), .int ((o_tiles_v 5).2.2.1), .long ((o_tiles_v 5).2.2.2.1), .long ((o_tiles_v 5).2.2.2.2)])), ((h_o_tiles_e 6), .inr (5, [.int ((o_tiles_v 6).1), .int ((o_tiles_v 6).2.1), .int ((o_tiles_v 6).2.2.1), .long ((o_tiles_v 6).2.2.2.1), .long ((o_tiles_v 6).2.2.2.2)])), ((h_o_tiles_e 7), .inr (5, [.int ((o_tiles_v 7).1), .int ((o_tiles_v 7).2.1), .int ((o_tiles_v 7).2.2.1), .long ((o_tiles_v 7).2.2.2.1), .long ((o_tiles_v 7).2.2.2.2)])), (h_p1, .inr (5, [.int p1_wide, .int p1_high, .int p1_hex, .long p1_ones, .long p1_twos])), ((h_o_tiles_e 0), .inr (5, [.int q41.1, .int q41.2.1, .int q41.2.2.1, .long q41.2.2.2.1, .long q41.2.2.2.2]))] := hD
        have hf := Option.some.inj hf
        subst hf
        rw [eG0] at hG
        have hG : _ = res := hG
        subst hG
        exact W.vret hx hb hr (fun t ht hW => ⟨⟨(), rfl, trivial, by rw [ht]; exact (hP.sub [0, 1, 10, 2, 3, 4, 5, 6, 7, 8, 9] rfl), (hD.sub [0, 1, 10, 2, 3, 4, 5, 6, 7, 8, 9] rfl rfl)⟩, hS.F ht⟩) hS.2.2 dX4_keep_72
      replace hf := ds_f c_27_0 hf
      by_cases c_27_1 : o_next = 1
      · replace hf := ds_t c_27_1 hf
        refine ds_ai (f := fun j => some (h_o_tiles_e j)) (k := 1) (by rw [c_27_1]; decide) ?_
        refine lv_ifnull hx hb dX4_keep_28 ?_
        refine lv_aload_n hx hb dX4_keep_31 rfl (lv_at hl 0 rfl) ?_
        refine va_get (D := (dC, dI)) (ci := 3) (v := .ref h_o_tiles) (C := RX4) (T := TX4) (N := 3) hx hb hts (fun w h => List.mem_cons_of_mem _ (kc_X4 w h)) hown hK hP 0 rfl rfl 0 (by decide) (hg kw_320) (fun _ h9 => h9) rfl dX4_keep_32 ?_
        refine lv_aload_n hx hb dX4_keep_35 rfl (lv_at hl 0 rfl) ?_
        refine va_get (D := (dC, dI)) (ci := 3) (v := .int o_next) (C := RX4) (T := TX4) (N := 3) hx hb hts (fun w h => List.mem_cons_of_mem _ (kc_X4 w h)) hown hK hP 0 rfl rfl 1 (by decide) (hg kw_319) (fun _ h9 => h9) rfl dX4_keep_36 ?_
        refine va_aldq hx hb hK hP 1 5 rfl rfl b_27 dX4_keep_39 ?_
        refine ds_ai (f := fun j => some (h_o_tiles_e j)) (k := 1) (by rw [c_27_1]; decide) ?_
        refine lv_aload_n hx hb dX4_keep_40 rfl (lv_at hl 1 rfl) ?_
        obtain ⟨q41, hq41, hf⟩ := ds_ob hf
        refine ds_callv (wr := [(h_o, .inr (3, [.ref h_o_tiles, .int o_next, .int o_size])), (h_o_tiles, .inl (ca 5, 8, .inr (.inr (.inr (.inr (fun j => some (h_o_tiles_e j))))))), ((h_o_tiles_e 0), .inr (5, [.int ((o_tiles_v 0).1), .int ((o_tiles_v 0).2.1), .int ((o_tiles_v 0).2.2.1), .long ((o_tiles_v 0).2.2.2.1), .long ((o_tiles_v 0).2.2.2.2)])), ((h_o_tiles_e 2), .inr (5, [.int ((o_tiles_v 2).1), .int ((o_tiles_v 2).2.1), .int ((o_tiles_v 2).2.2.1), .long ((o_tiles_v 2).2.2.2.1), .long ((o_tiles_v 2).2.2.2.2)])), ((h_o_tiles_e 3), .inr (5, [.int ((o_tiles_v 3).1), .int ((o_tiles_v 3).2.1), .int ((o_tiles_v 3).2.2.1), .long ((o_tiles_v 3).2.2.2.1), .long ((o_tiles_v 3).2.2.2.2)])), ((h_o_tiles_e 4), .inr (5, [.int ((o_tiles_v 4).1), .int ((o_tiles_v 4).2.1), .int ((o_tiles_v 4).2.2.1), .long ((o_tiles_v 4).2.2.2.1), .long ((o_tiles_v 4).2.2.2.2)])), ((h_o_tiles_e 5), .inr (5, [.int ((o_tiles_v 5).1), .int ((o_tiles_v 5).2.1), .int ((o_tiles_v 5).2.2.1), .long ((o_tiles_v 5).2.2.2.1), .long ((o_tiles_v 5).2.2.2.2)])), ((h_o_tiles_e 6), .inr (5, [.int ((o_tiles_v 6).1), .int ((o_tiles_v 6).2.1), .int ((o_tiles_v 6).2.2.1), .long ((o_tiles_v 6).2.2.2.1), .long ((o_tiles_v 6).2.2.2.2)])), ((h_o_tiles_e 7), .inr (5, [.int ((o_tiles_v 7).1), .int ((o_tiles_v 7).2.1), .int ((o_tiles_v 7).2.2.1), .long ((o_tiles_v 7).2.2.2.1), .long ((o_tiles_v 7).2.2.2.2)]))]) (va_runV (As := [.ref h_p1]) (rest := []) ⟨hx, hb, hml, hown, hts⟩ (c_X6_copyFrom l dC dI ca sa h_p1 (h_o_tiles_e 1) s.heap.size p1_wide p1_high p1_hex p1_ones p1_twos ((o_tiles_v 1).1) ((o_tiles_v 1).2.1) ((o_tiles_v 1).2.2.1) ((o_tiles_v 1).2.2.2.1) ((o_tiles_v 1).2.2.2.2)  q41 hq41) (cwV 1 hts (ds_gV kw_321 kw_144 kw_145 kw_59 kw_146) rfl rfl rfl (by decide +kernel) ⟨Nat.le_of_ble_eq_true rfl, Nat.le_of_ble_eq_true rfl⟩) ⟨ds_blind, va_recv hK hP (ci := 5) (q0 := 3) rfl rfl, ds_at hP hD hK hE hS hA [10, 3] rfl rfl _⟩ rfl rfl hl.1 rfl (lv_room (Nat.le_of_ble_eq_true rfl)) dX4_keep_41 ⟨Nat.zero_le _, Nat.zero_le _⟩) hP hD hS hA [10, 3] [0, 1, 2, 4, 5, 6, 7, 8, 9] rfl rfl rfl (by decide) (fun H locs hP hD hS => ?_)
        have hP : va_P (dC, dI) vwCl [(h_o, .inr (3, [.ref h_o_tiles, .int o_next, .int o_size])), (h_o_tiles, .inl (ca 5, 8, .inr (.inr (.inr (.inr (fun j => some (h_o_tiles_e j))))))), ((h_o_tiles_e 0), .inr (5, [.int ((o_tiles_v 0).1), .int ((o_tiles_v 0).2.1), .int ((o_tiles_v 0).2.2.1), .long ((o_tiles_v 0).2.2.2.1), .long ((o_tiles_v 0).2.2.2.2)])), ((h_o_tiles_e 2), .inr (5, [.int ((o_tiles_v 2).1), .int ((o_tiles_v 2).2.1), .int ((o_tiles_v 2).2.2.1), .long ((o_tiles_v 2).2.2.2.1), .long ((o_tiles_v 2).2.2.2.2)])), ((h_o_tiles_e 3), .inr (5, [.int ((o_tiles_v 3).1), .int ((o_tiles_v 3).2.1), .int ((o_tiles_v 3).2.2.1), .long ((o_tiles_v 3).2.2.2.1), .long ((o_tiles_v 3).2.2.2.2)])), ((h_o_tiles_e 4), .inr (5, [.int ((o_tiles_v 4).1), .int ((o_tiles_v 4).2.1), .int ((o_tiles_v 4).2.2.1), .long ((o_tiles_v 4).2.2.2.1), .long ((o_tiles_v 4).2.2.2.2)])), ((h_o_tiles_e 5), .inr (5, [.int ((o_tiles_v 5).1), .int ((o_tiles_v 5).2.1), .int ((o_tiles_v 5).2.2.1), .long ((o_tiles_v 5).2.2.2.1), .long ((o_tiles_v 5).2.2.2.2)])), ((h_o_tiles_e 6), .inr (5, [.int ((o_tiles_v 6).1), .int ((o_tiles_v 6).2.1), .int ((o_tiles_v 6).2.2.1), .long ((o_tiles_v 6).2.2.2.1), .long ((o_tiles_v 6).2.2.2.2)])), ((h_o_tiles_e 7), .inr (5, [.int ((o_tiles_v 7).1), .int ((o_tiles_v 7).2.1), .int ((o_tiles_v 7).2.2.1), .long ((o_tiles_v 7).2.2.2.1), .long ((o_tiles_v 7).2.2.2.2)])), (h_p1, .inr (5, [.int p1_wide, .int p1_high, .int p1_hex, .long p1_ones, .long p1_twos])), ((h_o_tiles_e 1), .inr (5, [.int q41.1, .int q41.2.1, .int q41.2.2.1, .long q41.2.2.2.1, .long q41.2.2.2.2]))] H := hP
        have hD : va_D A [(h_o, .inr (3, [.ref h_o_tiles, .int o_next, .int o_size])), (h_o_tiles, .inl (ca 5, 8, .inr (.inr (.inr (.inr (fun j => some (h_o_tiles_e j))))))), ((h_o_tiles_e 0), .inr (5, [.int ((o_tiles_v 0).1), .int ((o_tiles_v 0).2.1), .int ((o_tiles_v 0).2.2.1), .long ((o_tiles_v 0).2.2.2.1), .long ((o_tiles_v 0).2.2.2.2)])), ((h_o_tiles_e 2), .inr (5, [.int ((o_tiles_v 2).1), .int ((o_tiles_v 2).2.1), .int ((o_tiles_v 2).2.2.1), .long ((o_tiles_v 2).2.2.2.1), .long ((o_tiles_v 2).2.2.2.2)])), ((h_o_tiles_e 3), .inr (5, [.int ((o_tiles_v 3).1), .int ((o_tiles_v 3).2.1), .int ((o_tiles_v 3).2.2.1), .long ((o_tiles_v 3).2.2.2.1), .long ((o_tiles_v 3).2.2.2.2)])), ((h_o_tiles_e 4), .inr (5, [.int ((o_tiles_v 4).1), .int ((o_tiles_v 4).2.1), .int ((o_tiles_v 4).2.2.1), .long ((o_tiles_v 4).2.2.2.1), .long ((o_tiles_v 4).2.2.2.2)])), ((h_o_tiles_e 5), .inr (5, [.int ((o_tiles_v 5).1), .int ((o_tiles_v 5).2.1), .int ((o_tiles_v 5).2.2.1), .long ((o_tiles_v 5).2.2.2.1), .long ((o_tiles_v 5).2.2.2.2)])), ((h_o_tiles_e 6), .inr (5, [.int ((o_tiles_v 6).1), .int ((o_tiles_v 6).2.1), .int ((o_tiles_v 6).2.2.1), .long ((o_tiles_v 6).2.2.2.1), .long ((o_tiles_v 6).2.2.2.2)])), ((h_o_tiles_e 7), .inr (5, [.int ((o_tiles_v 7).1), .int ((o_tiles_v 7).2.1), .int ((o_tiles_v 7).2.2.1), .long ((o_tiles_v 7).2.2.2.1), .long ((o_tiles_v 7).2.2.2.2)])), (h_p1, .inr (5, [.int p1_wide, .int p1_high, .int p1_hex, .long p1_ones, .long p1_twos])), ((h_o_tiles_e 1), .inr (5, [.int q41.1, .int q41.2.1, .int q41.2.2.1, .long q41.2.2.2.1, .long q41.2.2.2.2]))] := hD
        refine lv_aload_n hx hb dX4_keep_44 rfl (lv_at hl 0 rfl) ?_
        refine lv_aload_n hx hb dX4_keep_45 rfl (lv_at hl 0 rfl) ?_
        refine va_get (D := (dC, dI)) (ci := 3) (v := .int o_next) (C := RX4) (T := TX4) (N := 3) hx hb hts (fun w h => List.mem_cons_of_mem _ (kc_X4 w h)) hown hK hP 0 rfl rfl 1 (by decide) (hg kw_319) (fun _ h9 => h9) rfl dX4_keep_46 ?_
        refine lv_iconst (v := 1) hx hb dX4_keep_49 (by decide) ?_
        refine lv_iadd hx hb dX4_keep_50 ?_
        refine lv_bipush (v := 8) hx hb dX4_keep_51 (by decide) ?_
        refine lv_irem hx hb dX4_keep_53 (by decide) ?_
        obtain ⟨x54, hx_54, hf⟩ := ds_ob hf
        refine ds_nmi hx_54 ?_
        refine va_put (D := (dC, dI)) (ci := 3) (v := .int x54) (ty := tyX4 1) (C := RX4) (T := TX4) (N := 3) hx hb hts (fun w h => List.mem_cons_of_mem _ (kc_X4 w h)) tyX4 tyX4_ok nmX4 hown hK hP hD hS 0 rfl rfl 1 (by decide) (hg kw_319) (fun _ h9 => h9) rfl (by decide +kernel) rfl rfl (Nat.le_of_ble_eq_true rfl) dX4_keep_54 (fun H locs hP hD hS => ?_)
        have hP : va_P (dC, dI) vwCl [(h_o, .inr (3, [.ref h_o_tiles, .int x54, .int o_size])), (h_o_tiles, .inl (ca 5, 8, .inr (.inr (.inr (.inr (fun j => some (h_o_tiles_e j))))))), ((h_o_tiles_e 0), .inr (5, [.int ((o_tiles_v 0).1), .int ((o_tiles_v 0).2.1), .int ((o_tiles_v 0).2.2.1), .long ((o_tiles_v 0).2.2.2.1), .long ((o_tiles_v 0).2.2.2.2)])), ((h_o_tiles_e 2), .inr (5, [.int ((o_tiles_v 2).1), .int ((o_tiles_v 2).2.1), .int ((o_tiles_v 2).2.2.1), .long ((o_tiles_v 2).2.2.2.1), .long ((o_tiles_v 2).2.2.2.2)])), ((h_o_tiles_e 3), .inr (5, [.int ((o_tiles_v 3).1), .int ((o_tiles_v 3).2.1), .int ((o_tiles_v 3).2.2.1), .long ((o_tiles_v 3).2.2.2.1), .long ((o_tiles_v 3).2.2.2.2)])), ((h_o_tiles_e 4), .inr (5, [.int ((o_tiles_v 4).1), .int ((o_tiles_v 4).2.1), .int ((o_tiles_v 4).2.2.1), .long ((o_tiles_v 4).2.2.2.1), .long ((o_tiles_v 4).2.2.2.2)])), ((h_o_tiles_e 5), .inr (5, [.int ((o_tiles_v 5).1), .int ((o_tiles_v 5).2.1), .int ((o_tiles_v 5).2.2.1), .long ((o_tiles_v 5).2.2.2.1), .long ((o_tiles_v 5).2.2.2.2)])), ((h_o_tiles_e 6), .inr (5, [.int ((o_tiles_v 6).1), .int ((o_tiles_v 6).2.1), .int ((o_tiles_v 6).2.2.1), .long ((o_tiles_v 6).2.2.2.1), .long ((o_tiles_v 6).2.2.2.2)])), ((h_o_tiles_e 7), .inr (5, [.int ((o_tiles_v 7).1), .int ((o_tiles_v 7).2.1), .int ((o_tiles_v 7).2.2.1), .long ((o_tiles_v 7).2.2.2.1), .long ((o_tiles_v 7).2.2.2.2)])), (h_p1, .inr (5, [.int p1_wide, .int p1_high, .int p1_hex, .long p1_ones, .long p1_twos])), ((h_o_tiles_e 1), .inr (5, [.int q41.1, .int q41.2.1, .int q41.2.2.1, .long q41.2.2.2.1, .long q41.2.2.2.2]))] H := hP
        have hD : va_D A [(h_o, .inr (3, [.ref h_o_tiles, .int x54, .int o_size])), (h_o_tiles, .inl (ca 5, 8, .inr (.inr (.inr (.inr (fun j => some (h_o_tiles_e j))))))), ((h_o_tiles_e 0), .inr (5, [.int ((o_tiles_v 0).1), .int ((o_tiles_v 0).2.1), .int ((o_tiles_v 0).2.2.1), .long ((o_tiles_v 0).2.2.2.1), .long ((o_tiles_v 0).2.2.2.2)])), ((h_o_tiles_e 2), .inr (5, [.int ((o_tiles_v 2).1), .int ((o_tiles_v 2).2.1), .int ((o_tiles_v 2).2.2.1), .long ((o_tiles_v 2).2.2.2.1), .long ((o_tiles_v 2).2.2.2.2)])), ((h_o_tiles_e 3), .inr (5, [.int ((o_tiles_v 3).1), .int ((o_tiles_v 3).2.1), .int ((o_tiles_v 3).2.2.1), .long ((o_tiles_v 3).2.2.2.1), .long ((o_tiles_v 3).2.2.2.2)])), ((h_o_tiles_e 4), .inr (5, [.int ((o_tiles_v 4).1), .int ((o_tiles_v 4).2.1), .int ((o_tiles_v 4).2.2.1), .long ((o_tiles_v 4).2.2.2.1), .long ((o_tiles_v 4).2.2.2.2)])), ((h_o_tiles_e 5), .inr (5, [.int ((o_tiles_v 5).1), .int ((o_tiles_v 5).2.1), .int ((o_tiles_v 5).2.2.1), .long ((o_tiles_v 5).2.2.2.1), .long ((o_tiles_v 5).2.2.2.2)])), ((h_o_tiles_e 6), .inr (5, [.int ((o_tiles_v 6).1), .int ((o_tiles_v 6).2.1), .int ((o_tiles_v 6).2.2.1), .long ((o_tiles_v 6).2.2.2.1), .long ((o_tiles_v 6).2.2.2.2)])), ((h_o_tiles_e 7), .inr (5, [.int ((o_tiles_v 7).1), .int ((o_tiles_v 7).2.1), .int ((o_tiles_v 7).2.2.1), .long ((o_tiles_v 7).2.2.2.1), .long ((o_tiles_v 7).2.2.2.2)])), (h_p1, .inr (5, [.int p1_wide, .int p1_high, .int p1_hex, .long p1_ones, .long p1_twos])), ((h_o_tiles_e 1), .inr (5, [.int q41.1, .int q41.2.1, .int q41.2.2.1, .long q41.2.2.2.1, .long q41.2.2.2.2]))] := hD
        refine lv_aload_n hx hb dX4_keep_57 rfl (lv_at hl 0 rfl) ?_
        refine lv_aload_n hx hb dX4_keep_58 rfl (lv_at hl 0 rfl) ?_
        refine va_get (D := (dC, dI)) (ci := 3) (v := .int o_size) (C := RX4) (T := TX4) (N := 3) hx hb hts (fun w h => List.mem_cons_of_mem _ (kc_X4 w h)) hown hK hP 0 rfl rfl 2 (by decide) (hg kw_315) (fun _ h9 => h9) rfl dX4_keep_59 ?_
        refine lv_iconst (v := 1) hx hb dX4_keep_62 (by decide) ?_
        refine lv_iadd hx hb dX4_keep_63 ?_
        refine lv_bipush (v := 8) hx hb dX4_keep_64 (by decide) ?_
        refine va_mmin hx hb (hml.trans hl.1.symm) hown (hg kw_322) (hg kw_323) (hg kw_324) (hg kw_325) (Nat.le_of_ble_eq_true rfl) (Nat.le_of_ble_eq_true rfl) (Nat.zero_le _) (Nat.zero_le _) dX4_keep_66 ?_
        obtain ⟨x69, hx_69, hf⟩ := ds_ob hf
        refine ds_nmi hx_69 ?_
        refine va_put (D := (dC, dI)) (ci := 3) (v := .int x69) (ty := tyX4 2) (C := RX4) (T := TX4) (N := 3) hx hb hts (fun w h => List.mem_cons_of_mem _ (kc_X4 w h)) tyX4 tyX4_ok nmX4 hown hK hP hD hS 0 rfl rfl 2 (by decide) (hg kw_315) (fun _ h9 => h9) rfl (by decide +kernel) rfl rfl (Nat.le_of_ble_eq_true rfl) dX4_keep_69 (fun H locs hP hD hS => ?_)
        have hP : va_P (dC, dI) vwCl [(h_o, .inr (3, [.ref h_o_tiles, .int x54, .int x69])), (h_o_tiles, .inl (ca 5, 8, .inr (.inr (.inr (.inr (fun j => some (h_o_tiles_e j))))))), ((h_o_tiles_e 0), .inr (5, [.int ((o_tiles_v 0).1), .int ((o_tiles_v 0).2.1), .int ((o_tiles_v 0).2.2.1), .long ((o_tiles_v 0).2.2.2.1), .long ((o_tiles_v 0).2.2.2.2)])), ((h_o_tiles_e 2), .inr (5, [.int ((o_tiles_v 2).1), .int ((o_tiles_v 2).2.1), .int ((o_tiles_v 2).2.2.1), .long ((o_tiles_v 2).2.2.2.1), .long ((o_tiles_v 2).2.2.2.2)])), ((h_o_tiles_e 3), .inr (5, [.int ((o_tiles_v 3).1), .int ((o_tiles_v 3).2.1), .int ((o_tiles_v 3).2.2.1), .long ((o_tiles_v 3).2.2.2.1), .long ((o_tiles_v 3).2.2.2.2)])), ((h_o_tiles_e 4), .inr (5, [.int ((o_tiles_v 4).1), .int ((o_tiles_v 4).2.1), .int ((o_tiles_v 4).2.2.1), .long ((o_tiles_v 4).2.2.2.1), .long ((o_tiles_v 4).2.2.2.2)])), ((h_o_tiles_e 5), .inr (5, [.int ((o_tiles_v 5).1), .int ((o_tiles_v 5).2.1), .int ((o_tiles_v 5).2.2.1), .long ((o_tiles_v 5).2.2.2.1), .long ((o_tiles_v 5).2.2.2.2)])), ((h_o_tiles_e 6), .inr (5, [.int ((o_tiles_v 6).1), .int ((o_tiles_v 6).2.1), .int ((o_tiles_v 6).2.2.1), .long ((o_tiles_v 6).2.2.2.1), .long ((o_tiles_v 6).2.2.2.2)])), ((h_o_tiles_e 7), .inr (5, [.int ((o_tiles_v 7).1), .int ((o_tiles_v 7).2.1), .int ((o_tiles_v 7).2.2.1), .long ((o_tiles_v 7).2.2.2.1), .long ((o_tiles_v 7).2.2.2.2)])), (h_p1, .inr (5, [.int p1_wide, .int p1_high, .int p1_hex, .long p1_ones, .long p1_twos])), ((h_o_tiles_e 1), .inr (5, [.int q41.1, .int q41.2.1, .int q41.2.2.1, .long q41.2.2.2.1, .long q41.2.2.2.2]))] H := hP
        have hD : va_D A [(h_o, .inr (3, [.ref h_o_tiles, .int x54, .int x69])), (h_o_tiles, .inl (ca 5, 8, .inr (.inr (.inr (.inr (fun j => some (h_o_tiles_e j))))))), ((h_o_tiles_e 0), .inr (5, [.int ((o_tiles_v 0).1), .int ((o_tiles_v 0).2.1), .int ((o_tiles_v 0).2.2.1), .long ((o_tiles_v 0).2.2.2.1), .long ((o_tiles_v 0).2.2.2.2)])), ((h_o_tiles_e 2), .inr (5, [.int ((o_tiles_v 2).1), .int ((o_tiles_v 2).2.1), .int ((o_tiles_v 2).2.2.1), .long ((o_tiles_v 2).2.2.2.1), .long ((o_tiles_v 2).2.2.2.2)])), ((h_o_tiles_e 3), .inr (5, [.int ((o_tiles_v 3).1), .int ((o_tiles_v 3).2.1), .int ((o_tiles_v 3).2.2.1), .long ((o_tiles_v 3).2.2.2.1), .long ((o_tiles_v 3).2.2.2.2)])), ((h_o_tiles_e 4), .inr (5, [.int ((o_tiles_v 4).1), .int ((o_tiles_v 4).2.1), .int ((o_tiles_v 4).2.2.1), .long ((o_tiles_v 4).2.2.2.1), .long ((o_tiles_v 4).2.2.2.2)])), ((h_o_tiles_e 5), .inr (5, [.int ((o_tiles_v 5).1), .int ((o_tiles_v 5).2.1), .int ((o_tiles_v 5).2.2.1), .long ((o_tiles_v 5).2.2.2.1), .long ((o_tiles_v 5).2.2.2.2)])), ((h_o_tiles_e 6), .inr (5, [.int ((o_tiles_v 6).1), .int ((o_tiles_v 6).2.1), .int ((o_tiles_v 6).2.2.1), .long ((o_tiles_v 6).2.2.2.1), .long ((o_tiles_v 6).2.2.2.2)])), ((h_o_tiles_e 7), .inr (5, [.int ((o_tiles_v 7).1), .int ((o_tiles_v 7).2.1), .int ((o_tiles_v 7).2.2.1), .long ((o_tiles_v 7).2.2.2.1), .long ((o_tiles_v 7).2.2.2.2)])), (h_p1, .inr (5, [.int p1_wide, .int p1_high, .int p1_hex, .long p1_ones, .long p1_twos])), ((h_o_tiles_e 1), .inr (5, [.int q41.1, .int q41.2.1, .int q41.2.2.1, .long q41.2.2.2.1, .long q41.2.2.2.2]))] := hD
        have hf := Option.some.inj hf
        subst hf
        rw [eG0] at hG
        have hG : _ = res := hG
        subst hG
        exact W.vret hx hb hr (fun t ht hW => ⟨⟨(), rfl, trivial, by rw [ht]; exact (hP.sub [0, 1, 2, 10, 3, 4, 5, 6, 7, 8, 9] rfl), (hD.sub [0, 1, 2, 10, 3, 4, 5, 6, 7, 8, 9] rfl rfl)⟩, hS.F ht⟩) hS.2.2 dX4_keep_72
      replace hf := ds_f c_27_1 hf
      by_cases c_27_2 : o_next = 2
      · replace hf := ds_t c_27_2 hf
        refine ds_ai (f := fun j => some (h_o_tiles_e j)) (k := 2) (by rw [c_27_2]; decide) ?_
        refine lv_ifnull hx hb dX4_keep_28 ?_
        refine lv_aload_n hx hb dX4_keep_31 rfl (lv_at hl 0 rfl) ?_
        refine va_get (D := (dC, dI)) (ci := 3) (v := .ref h_o_tiles) (C := RX4) (T := TX4) (N := 3) hx hb hts (fun w h => List.mem_cons_of_mem _ (kc_X4 w h)) hown hK hP 0 rfl rfl 0 (by decide) (hg kw_320) (fun _ h9 => h9) rfl dX4_keep_32 ?_
        refine lv_aload_n hx hb dX4_keep_35 rfl (lv_at hl 0 rfl) ?_
        refine va_get (D := (dC, dI)) (ci := 3) (v := .int o_next) (C := RX4) (T := TX4) (N := 3) hx hb hts (fun w h => List.mem_cons_of_mem _ (kc_X4 w h)) hown hK hP 0 rfl rfl 1 (by decide) (hg kw_319) (fun _ h9 => h9) rfl dX4_keep_36 ?_
        refine va_aldq hx hb hK hP 1 5 rfl rfl b_27 dX4_keep_39 ?_
        refine ds_ai (f := fun j => some (h_o_tiles_e j)) (k := 2) (by rw [c_27_2]; decide) ?_
        refine lv_aload_n hx hb dX4_keep_40 rfl (lv_at hl 1 rfl) ?_
        obtain ⟨q41, hq41, hf⟩ := ds_ob hf
        refine ds_callv (wr := [(h_o, .inr (3, [.ref h_o_tiles, .int o_next, .int o_size])), (h_o_tiles, .inl (ca 5, 8, .inr (.inr (.inr (.inr (fun j => some (h_o_tiles_e j))))))), ((h_o_tiles_e 0), .inr (5, [.int ((o_tiles_v 0).1), .int ((o_tiles_v 0).2.1), .int ((o_tiles_v 0).2.2.1), .long ((o_tiles_v 0).2.2.2.1), .long ((o_tiles_v 0).2.2.2.2)])), ((h_o_tiles_e 1), .inr (5, [.int ((o_tiles_v 1).1), .int ((o_tiles_v 1).2.1), .int ((o_tiles_v 1).2.2.1), .long ((o_tiles_v 1).2.2.2.1), .long ((o_tiles_v 1).2.2.2.2)])), ((h_o_tiles_e 3), .inr (5, [.int ((o_tiles_v 3).1), .int ((o_tiles_v 3).2.1), .int ((o_tiles_v 3).2.2.1), .long ((o_tiles_v 3).2.2.2.1), .long ((o_tiles_v 3).2.2.2.2)])), ((h_o_tiles_e 4), .inr (5, [.int ((o_tiles_v 4).1), .int ((o_tiles_v 4).2.1), .int ((o_tiles_v 4).2.2.1), .long ((o_tiles_v 4).2.2.2.1), .long ((o_tiles_v 4).2.2.2.2)])), ((h_o_tiles_e 5), .inr (5, [.int ((o_tiles_v 5).1), .int ((o_tiles_v 5).2.1), .int ((o_tiles_v 5).2.2.1), .long ((o_tiles_v 5).2.2.2.1), .long ((o_tiles_v 5).2.2.2.2)])), ((h_o_tiles_e 6), .inr (5, [.int ((o_tiles_v 6).1), .int ((o_tiles_v 6).2.1), .int ((o_tiles_v 6).2.2.1), .long ((o_tiles_v 6).2.2.2.1), .long ((o_tiles_v 6).2.2.2.2)])), ((h_o_tiles_e 7), .inr (5, [.int ((o_tiles_v 7).1), .int ((o_tiles_v 7).2.1), .int ((o_tiles_v 7).2.2.1), .long ((o_tiles_v 7).2.2.2.1), .long ((o_tiles_v 7).2.2.2.2)]))]) (va_runV (As := [.ref h_p1]) (rest := []) ⟨hx, hb, hml, hown, hts⟩ (c_X6_copyFrom l dC dI ca sa h_p1 (h_o_tiles_e 2) s.heap.size p1_wide p1_high p1_hex p1_ones p1_twos ((o_tiles_v 2).1) ((o_tiles_v 2).2.1) ((o_tiles_v 2).2.2.1) ((o_tiles_v 2).2.2.2.1) ((o_tiles_v 2).2.2.2.2)  q41 hq41) (cwV 1 hts (ds_gV kw_321 kw_144 kw_145 kw_59 kw_146) rfl rfl rfl (by decide +kernel) ⟨Nat.le_of_ble_eq_true rfl, Nat.le_of_ble_eq_true rfl⟩) ⟨ds_blind, va_recv hK hP (ci := 5) (q0 := 4) rfl rfl, ds_at hP hD hK hE hS hA [10, 4] rfl rfl _⟩ rfl rfl hl.1 rfl (lv_room (Nat.le_of_ble_eq_true rfl)) dX4_keep_41 ⟨Nat.zero_le _, Nat.zero_le _⟩) hP hD hS hA [10, 4] [0, 1, 2, 3, 5, 6, 7, 8, 9] rfl rfl rfl (by decide) (fun H locs hP hD hS => ?_)
        have hP : va_P (dC, dI) vwCl [(h_o, .inr (3, [.ref h_o_tiles, .int o_next, .int o_size])), (h_o_tiles, .inl (ca 5, 8, .inr (.inr (.inr (.inr (fun j => some (h_o_tiles_e j))))))), ((h_o_tiles_e 0), .inr (5, [.int ((o_tiles_v 0).1), .int ((o_tiles_v 0).2.1), .int ((o_tiles_v 0).2.2.1), .long ((o_tiles_v 0).2.2.2.1), .long ((o_tiles_v 0).2.2.2.2)])), ((h_o_tiles_e 1), .inr (5, [.int ((o_tiles_v 1).1), .int ((o_tiles_v 1).2.1), .int ((o_tiles_v 1).2.2.1), .long ((o_tiles_v 1).2.2.2.1), .long ((o_tiles_v 1).2.2.2.2)])), ((h_o_tiles_e 3), .inr (5, [.int ((o_tiles_v 3).1), .int ((o_tiles_v 3).2.1), .int ((o_tiles_v 3).2.2.1), .long ((o_tiles_v 3).2.2.2.1), .long ((o_tiles_v 3).2.2.2.2)])), ((h_o_tiles_e 4), .inr (5, [.int ((o_tiles_v 4).1), .int ((o_tiles_v 4).2.1), .int ((o_tiles_v 4).2.2.1), .long ((o_tiles_v 4).2.2.2.1), .long ((o_tiles_v 4).2.2.2.2)])), ((h_o_tiles_e 5), .inr (5, [.int ((o_tiles_v 5).1), .int ((o_tiles_v 5).2.1), .int ((o_tiles_v 5).2.2.1), .long ((o_tiles_v 5).2.2.2.1), .long ((o_tiles_v 5).2.2.2.2)])), ((h_o_tiles_e 6), .inr (5, [.int ((o_tiles_v 6).1), .int ((o_tiles_v 6).2.1), .int ((o_tiles_v 6).2.2.1), .long ((o_tiles_v 6).2.2.2.1), .long ((o_tiles_v 6).2.2.2.2)])), ((h_o_tiles_e 7), .inr (5, [.int ((o_tiles_v 7).1), .int ((o_tiles_v 7).2.1), .int ((o_tiles_v 7).2.2.1), .long ((o_tiles_v 7).2.2.2.1), .long ((o_tiles_v 7).2.2.2.2)])), (h_p1, .inr (5, [.int p1_wide, .int p1_high, .int p1_hex, .long p1_ones, .long p1_twos])), ((h_o_tiles_e 2), .inr (5, [.int q41.1, .int q41.2.1, .int q41.2.2.1, .long q41.2.2.2.1, .long q41.2.2.2.2]))] H := hP
        have hD : va_D A [(h_o, .inr (3, [.ref h_o_tiles, .int o_next, .int o_size])), (h_o_tiles, .inl (ca 5, 8, .inr (.inr (.inr (.inr (fun j => some (h_o_tiles_e j))))))), ((h_o_tiles_e 0), .inr (5, [.int ((o_tiles_v 0).1), .int ((o_tiles_v 0).2.1), .int ((o_tiles_v 0).2.2.1), .long ((o_tiles_v 0).2.2.2.1), .long ((o_tiles_v 0).2.2.2.2)])), ((h_o_tiles_e 1), .inr (5, [.int ((o_tiles_v 1).1), .int ((o_tiles_v 1).2.1), .int ((o_tiles_v 1).2.2.1), .long ((o_tiles_v 1).2.2.2.1), .long ((o_tiles_v 1).2.2.2.2)])), ((h_o_tiles_e 3), .inr (5, [.int ((o_tiles_v 3).1), .int ((o_tiles_v 3).2.1), .int ((o_tiles_v 3).2.2.1), .long ((o_tiles_v 3).2.2.2.1), .long ((o_tiles_v 3).2.2.2.2)])), ((h_o_tiles_e 4), .inr (5, [.int ((o_tiles_v 4).1), .int ((o_tiles_v 4).2.1), .int ((o_tiles_v 4).2.2.1), .long ((o_tiles_v 4).2.2.2.1), .long ((o_tiles_v 4).2.2.2.2)])), ((h_o_tiles_e 5), .inr (5, [.int ((o_tiles_v 5).1), .int ((o_tiles_v 5).2.1), .int ((o_tiles_v 5).2.2.1), .long ((o_tiles_v 5).2.2.2.1), .long ((o_tiles_v 5).2.2.2.2)])), ((h_o_tiles_e 6), .inr (5, [.int ((o_tiles_v 6).1), .int ((o_tiles_v 6).2.1), .int ((o_tiles_v 6).2.2.1), .long ((o_tiles_v 6).2.2.2.1), .long ((o_tiles_v 6).2.2.2.2)])), ((h_o_tiles_e 7), .inr (5, [.int ((o_tiles_v 7).1), .int ((o_tiles_v 7).2.1), .int ((o_tiles_v 7).2.2.1), .long ((o_tiles_v 7).2.2.2.1), .long ((o_tiles_v 7).2.2.2.2)])), (h_p1, .inr (5, [.int p1_wide, .int p1_high, .int p1_hex, .long p1_ones, .long p1_twos])), ((h_o_tiles_e 2), .inr (5, [.int q41.1, .int q41.2.1, .int q41.2.2.1, .long q41.2.2.2.1, .long q41.2.2.2.2]))] := hD
        refine lv_aload_n hx hb dX4_keep_44 rfl (lv_at hl 0 rfl) ?_
        refine lv_aload_n hx hb dX4_keep_45 rfl (lv_at hl 0 rfl) ?_
        refine va_get (D := (dC, dI)) (ci := 3) (v := .int o_next) (C := RX4) (T := TX4) (N := 3) hx hb hts (fun w h => List.mem_cons_of_mem _ (kc_X4 w h)) hown hK hP 0 rfl rfl 1 (by decide) (hg kw_319) (fun _ h9 => h9) rfl dX4_keep_46 ?_
        refine lv_iconst (v := 1) hx hb dX4_keep_49 (by decide) ?_
        refine lv_iadd hx hb dX4_keep_50 ?_
        refine lv_bipush (v := 8) hx hb dX4_keep_51 (by decide) ?_
        refine lv_irem hx hb dX4_keep_53 (by decide) ?_
        obtain ⟨x54, hx_54, hf⟩ := ds_ob hf
        refine ds_nmi hx_54 ?_
        refine va_put (D := (dC, dI)) (ci := 3) (v := .int x54) (ty := tyX4 1) (C := RX4) (T := TX4) (N := 3) hx hb hts (fun w h => List.mem_cons_of_mem _ (kc_X4 w h)) tyX4 tyX4_ok nmX4 hown hK hP hD hS 0 rfl rfl 1 (by decide) (hg kw_319) (fun _ h9 => h9) rfl (by decide +kernel) rfl rfl (Nat.le_of_ble_eq_true rfl) dX4_keep_54 (fun H locs hP hD hS => ?_)
        have hP : va_P (dC, dI) vwCl [(h_o, .inr (3, [.ref h_o_tiles, .int x54, .int o_size])), (h_o_tiles, .inl (ca 5, 8, .inr (.inr (.inr (.inr (fun j => some (h_o_tiles_e j))))))), ((h_o_tiles_e 0), .inr (5, [.int ((o_tiles_v 0).1), .int ((o_tiles_v 0).2.1), .int ((o_tiles_v 0).2.2.1), .long ((o_tiles_v 0).2.2.2.1), .long ((o_tiles_v 0).2.2.2.2)])), ((h_o_tiles_e 1), .inr (5, [.int ((o_tiles_v 1).1), .int ((o_tiles_v 1).2.1), .int ((o_tiles_v 1).2.2.1), .long ((o_tiles_v 1).2.2.2.1), .long ((o_tiles_v 1).2.2.2.2)])), ((h_o_tiles_e 3), .inr (5, [.int ((o_tiles_v 3).1), .int ((o_tiles_v 3).2.1), .int ((o_tiles_v 3).2.2.1), .long ((o_tiles_v 3).2.2.2.1), .long ((o_tiles_v 3).2.2.2.2)])), ((h_o_tiles_e 4), .inr (5, [.int ((o_tiles_v 4).1), .int ((o_tiles_v 4).2.1), .int ((o_tiles_v 4).2.2.1), .long ((o_tiles_v 4).2.2.2.1), .long ((o_tiles_v 4).2.2.2.2)])), ((h_o_tiles_e 5), .inr (5, [.int ((o_tiles_v 5).1), .int ((o_tiles_v 5).2.1), .int ((o_tiles_v 5).2.2.1), .long ((o_tiles_v 5).2.2.2.1), .long ((o_tiles_v 5).2.2.2.2)])), ((h_o_tiles_e 6), .inr (5, [.int ((o_tiles_v 6).1), .int ((o_tiles_v 6).2.1), .int ((o_tiles_v 6).2.2.1), .long ((o_tiles_v 6).2.2.2.1), .long ((o_tiles_v 6).2.2.2.2)])), ((h_o_tiles_e 7), .inr (5, [.int ((o_tiles_v 7).1), .int ((o_tiles_v 7).2.1), .int ((o_tiles_v 7).2.2.1), .long ((o_tiles_v 7).2.2.2.1), .long ((o_tiles_v 7).2.2.2.2)])), (h_p1, .inr (5, [.int p1_wide, .int p1_high, .int p1_hex, .long p1_ones, .long p1_twos])), ((h_o_tiles_e 2), .inr (5, [.int q41.1, .int q41.2.1, .int q41.2.2.1, .long q41.2.2.2.1, .long q41.2.2.2.2]))] H := hP
        have hD : va_D A [(h_o, .inr (3, [.ref h_o_tiles, .int x54, .int o_size])), (h_o_tiles, .inl (ca 5, 8, .inr (.inr (.inr (.inr (fun j => some (h_o_tiles_e j))))))), ((h_o_tiles_e 0), .inr (5, [.int ((o_tiles_v 0).1), .int ((o_tiles_v 0).2.1), .int ((o_tiles_v 0).2.2.1), .long ((o_tiles_v 0).2.2.2.1), .long ((o_tiles_v 0).2.2.2.2)])), ((h_o_tiles_e 1), .inr (5, [.int ((o_tiles_v 1).1), .int ((o_tiles_v 1).2.1), .int ((o_tiles_v 1).2.2.1), .long ((o_tiles_v 1).2.2.2.1), .long ((o_tiles_v 1).2.2.2.2)])), ((h_o_tiles_e 3), .inr (5, [.int ((o_tiles_v 3).1), .int ((o_tiles_v 3).2.1), .int ((o_tiles_v 3).2.2.1), .long ((o_tiles_v 3).2.2.2.1), .long ((o_tiles_v 3).2.2.2.2)])), ((h_o_tiles_e 4), .inr (5, [.int ((o_tiles_v 4).1), .int ((o_tiles_v 4).2.1), .int ((o_tiles_v 4).2.2.1), .long ((o_tiles_v 4).2.2.2.1), .long ((o_tiles_v 4).2.2.2.2)])), ((h_o_tiles_e 5), .inr (5, [.int ((o_tiles_v 5).1), .int ((o_tiles_v 5).2.1), .int ((o_tiles_v 5).2.2.1), .long ((o_tiles_v 5).2.2.2.1), .long ((o_tiles_v 5).2.2.2.2)])), ((h_o_tiles_e 6), .inr (5, [.int ((o_tiles_v 6).1), .int ((o_tiles_v 6).2.1), .int ((o_tiles_v 6).2.2.1), .long ((o_tiles_v 6).2.2.2.1), .long ((o_tiles_v 6).2.2.2.2)])), ((h_o_tiles_e 7), .inr (5, [.int ((o_tiles_v 7).1), .int ((o_tiles_v 7).2.1), .int ((o_tiles_v 7).2.2.1), .long ((o_tiles_v 7).2.2.2.1), .long ((o_tiles_v 7).2.2.2.2)])), (h_p1, .inr (5, [.int p1_wide, .int p1_high, .int p1_hex, .long p1_ones, .long p1_twos])), ((h_o_tiles_e 2), .inr (5, [.int q41.1, .int q41.2.1, .int q41.2.2.1, .long q41.2.2.2.1, .long q41.2.2.2.2]))] := hD
        refine lv_aload_n hx hb dX4_keep_57 rfl (lv_at hl 0 rfl) ?_
        refine lv_aload_n hx hb dX4_keep_58 rfl (lv_at hl 0 rfl) ?_
        refine va_get (D := (dC, dI)) (ci := 3) (v := .int o_size) (C := RX4) (T := TX4) (N := 3) hx hb hts (fun w h => List.mem_cons_of_mem _ (kc_X4 w h)) hown hK hP 0 rfl rfl 2 (by decide) (hg kw_315) (fun _ h9 => h9) rfl dX4_keep_59 ?_
        refine lv_iconst (v := 1) hx hb dX4_keep_62 (by decide) ?_
        refine lv_iadd hx hb dX4_keep_63 ?_
        refine lv_bipush (v := 8) hx hb dX4_keep_64 (by decide) ?_
        refine va_mmin hx hb (hml.trans hl.1.symm) hown (hg kw_322) (hg kw_323) (hg kw_324) (hg kw_325) (Nat.le_of_ble_eq_true rfl) (Nat.le_of_ble_eq_true rfl) (Nat.zero_le _) (Nat.zero_le _) dX4_keep_66 ?_
        obtain ⟨x69, hx_69, hf⟩ := ds_ob hf
        refine ds_nmi hx_69 ?_
        refine va_put (D := (dC, dI)) (ci := 3) (v := .int x69) (ty := tyX4 2) (C := RX4) (T := TX4) (N := 3) hx hb hts (fun w h => List.mem_cons_of_mem _ (kc_X4 w h)) tyX4 tyX4_ok nmX4 hown hK hP hD hS 0 rfl rfl 2 (by decide) (hg kw_315) (fun _ h9 => h9) rfl (by decide +kernel) rfl rfl (Nat.le_of_ble_eq_true rfl) dX4_keep_69 (fun H locs hP hD hS => ?_)
        have hP : va_P (dC, dI) vwCl [(h_o, .inr (3, [.ref h_o_tiles, .int x54, .int x69])), (h_o_tiles, .inl (ca 5, 8, .inr (.inr (.inr (.inr (fun j => some (h_o_tiles_e j))))))), ((h_o_tiles_e 0), .inr (5, [.int ((o_tiles_v 0).1), .int ((o_tiles_v 0).2.1), .int ((o_tiles_v 0).2.2.1), .long ((o_tiles_v 0).2.2.2.1), .long ((o_tiles_v 0).2.2.2.2)])), ((h_o_tiles_e 1), .inr (5, [.int ((o_tiles_v 1).1), .int ((o_tiles_v 1).2.1), .int ((o_tiles_v 1).2.2.1), .long ((o_tiles_v 1).2.2.2.1), .long ((o_tiles_v 1).2.2.2.2)])), ((h_o_tiles_e 3), .inr (5, [.int ((o_tiles_v 3).1), .int ((o_tiles_v 3).2.1), .int ((o_tiles_v 3).2.2.1), .long ((o_tiles_v 3).2.2.2.1), .long ((o_tiles_v 3).2.2.2.2)])), ((h_o_tiles_e 4), .inr (5, [.int ((o_tiles_v 4).1), .int ((o_tiles_v 4).2.1), .int ((o_tiles_v 4).2.2.1), .long ((o_tiles_v 4).2.2.2.1), .long ((o_tiles_v 4).2.2.2.2)])), ((h_o_tiles_e 5), .inr (5, [.int ((o_tiles_v 5).1), .int ((o_tiles_v 5).2.1), .int ((o_tiles_v 5).2.2.1), .long ((o_tiles_v 5).2.2.2.1), .long ((o_tiles_v 5).2.2.2.2)])), ((h_o_tiles_e 6), .inr (5, [.int ((o_tiles_v 6).1), .int ((o_tiles_v 6).2.1), .int ((o_tiles_v 6).2.2.1), .long ((o_tiles_v 6).2.2.2.1), .long ((o_tiles_v 6).2.2.2.2)])), ((h_o_tiles_e 7), .inr (5, [.int ((o_tiles_v 7).1), .int ((o_tiles_v 7).2.1), .int ((o_tiles_v 7).2.2.1), .long ((o_tiles_v 7).2.2.2.1), .long ((o_tiles_v 7).2.2.2.2)])), (h_p1, .inr (5, [.int p1_wide, .int p1_high, .int p1_hex, .long p1_ones, .long p1_twos])), ((h_o_tiles_e 2), .inr (5, [.int q41.1, .int q41.2.1, .int q41.2.2.1, .long q41.2.2.2.1, .long q41.2.2.2.2]))] H := hP
        have hD : va_D A [(h_o, .inr (3, [.ref h_o_tiles, .int x54, .int x69])), (h_o_tiles, .inl (ca 5, 8, .inr (.inr (.inr (.inr (fun j => some (h_o_tiles_e j))))))), ((h_o_tiles_e 0), .inr (5, [.int ((o_tiles_v 0).1), .int ((o_tiles_v 0).2.1), .int ((o_tiles_v 0).2.2.1), .long ((o_tiles_v 0).2.2.2.1), .long ((o_tiles_v 0).2.2.2.2)])), ((h_o_tiles_e 1), .inr (5, [.int ((o_tiles_v 1).1), .int ((o_tiles_v 1).2.1), .int ((o_tiles_v 1).2.2.1), .long ((o_tiles_v 1).2.2.2.1), .long ((o_tiles_v 1).2.2.2.2)])), ((h_o_tiles_e 3), .inr (5, [.int ((o_tiles_v 3).1), .int ((o_tiles_v 3).2.1), .int ((o_tiles_v 3).2.2.1), .long ((o_tiles_v 3).2.2.2.1), .long ((o_tiles_v 3).2.2.2.2)])), ((h_o_tiles_e 4), .inr (5, [.int ((o_tiles_v 4).1), .int ((o_tiles_v 4).2.1), .int ((o_tiles_v 4).2.2.1), .long ((o_tiles_v 4).2.2.2.1), .long ((o_tiles_v 4).2.2.2.2)])), ((h_o_tiles_e 5), .inr (5, [.int ((o_tiles_v 5).1), .int ((o_tiles_v 5).2.1), .int ((o_tiles_v 5).2.2.1), .long ((o_tiles_v 5).2.2.2.1), .long ((o_tiles_v 5).2.2.2.2)])), ((h_o_tiles_e 6), .inr (5, [.int ((o_tiles_v 6).1), .int ((o_tiles_v 6).2.1), .int ((o_tiles_v 6).2.2.1), .long ((o_tiles_v 6).2.2.2.1), .long ((o_tiles_v 6).2.2.2.2)])), ((h_o_tiles_e 7), .inr (5, [.int ((o_tiles_v 7).1), .int ((o_tiles_v 7).2.1), .int ((o_tiles_v 7).2.2.1), .long ((o_tiles_v 7).2.2.2.1), .long ((o_tiles_v 7).2.2.2.2)])), (h_p1, .inr (5, [.int p1_wide, .int p1_high, .int p1_hex, .long p1_ones, .long p1_twos])), ((h_o_tiles_e 2), .inr (5, [.int q41.1, .int q41.2.1, .int q41.2.2.1, .long q41.2.2.2.1, .long q41.2.2.2.2]))] := hD
        have hf := Option.some.inj hf
        subst hf
        rw [eG0] at hG
        have hG : _ = res := hG
        subst hG
        exact W.vret hx hb hr (fun t ht hW => ⟨⟨(), rfl, trivial, by rw [ht]; exact (hP.sub [0, 1, 2, 3, 10, 4, 5, 6, 7, 8, 9] rfl), (hD.sub [0, 1, 2, 3, 10, 4, 5, 6, 7, 8, 9] rfl rfl)⟩, hS.F ht⟩) hS.2.2 dX4_keep_72
      replace hf := ds_f c_27_2 hf
      by_cases c_27_3 : o_next = 3
      · replace hf := ds_t c_27_3 hf
        refine ds_ai (f := fun j => some (h_o_tiles_e j)) (k := 3) (by rw [c_27_3]; decide) ?_
        refine lv_ifnull hx hb dX4_keep_28 ?_
        refine lv_aload_n hx hb dX4_keep_31 rfl (lv_at hl 0 rfl) ?_
        refine va_get (D := (dC, dI)) (ci := 3) (v := .ref h_o_tiles) (C := RX4) (T := TX4) (N := 3) hx hb hts (fun w h => List.mem_cons_of_mem _ (kc_X4 w h)) hown hK hP 0 rfl rfl 0 (by decide) (hg kw_320) (fun _ h9 => h9) rfl dX4_keep_32 ?_
        refine lv_aload_n hx hb dX4_keep_35 rfl (lv_at hl 0 rfl) ?_
        refine va_get (D := (dC, dI)) (ci := 3) (v := .int o_next) (C := RX4) (T := TX4) (N := 3) hx hb hts (fun w h => List.mem_cons_of_mem _ (kc_X4 w h)) hown hK hP 0 rfl rfl 1 (by decide) (hg kw_319) (fun _ h9 => h9) rfl dX4_keep_36 ?_
        refine va_aldq hx hb hK hP 1 5 rfl rfl b_27 dX4_keep_39 ?_
        refine ds_ai (f := fun j => some (h_o_tiles_e j)) (k := 3) (by rw [c_27_3]; decide) ?_
        refine lv_aload_n hx hb dX4_keep_40 rfl (lv_at hl 1 rfl) ?_
        obtain ⟨q41, hq41, hf⟩ := ds_ob hf
        refine ds_callv (wr := [(h_o, .inr (3, [.ref h_o_tiles, .int o_next, .int o_size])), (h_o_tiles, .inl (ca 5, 8, .inr (.inr (.inr (.inr (fun j => some (h_o_tiles_e j))))))), ((h_o_tiles_e 0), .inr (5, [.int ((o_tiles_v 0).1), .int ((o_tiles_v 0).2.1), .int ((o_tiles_v 0).2.2.1), .long ((o_tiles_v 0).2.2.2.1), .long ((o_tiles_v 0).2.2.2.2)])), ((h_o_tiles_e 1), .inr (5, [.int ((o_tiles_v 1).1), .int ((o_tiles_v 1).2.1), .int ((o_tiles_v 1).2.2.1), .long ((o_tiles_v 1).2.2.2.1), .long ((o_tiles_v 1).2.2.2.2)])), ((h_o_tiles_e 2), .inr (5, [.int ((o_tiles_v 2).1), .int ((o_tiles_v 2).2.1), .int ((o_tiles_v 2).2.2.1), .long ((o_tiles_v 2).2.2.2.1), .long ((o_tiles_v 2).2.2.2.2)])), ((h_o_tiles_e 4), .inr (5, [.int ((o_tiles_v 4).1), .int ((o_tiles_v 4).2.1), .int ((o_tiles_v 4).2.2.1), .long ((o_tiles_v 4).2.2.2.1), .long ((o_tiles_v 4).2.2.2.2)])), ((h_o_tiles_e 5), .inr (5, [.int ((o_tiles_v 5).1), .int ((o_tiles_v 5).2.1), .int ((o_tiles_v 5).2.2.1), .long ((o_tiles_v 5).2.2.2.1), .long ((o_tiles_v 5).2.2.2.2)])), ((h_o_tiles_e 6), .inr (5, [.int ((o_tiles_v 6).1), .int ((o_tiles_v 6).2.1), .int ((o_tiles_v 6).2.2.1), .long ((o_tiles_v 6).2.2.2.1), .long ((o_tiles_v 6).2.2.2.2)])), ((h_o_tiles_e 7), .inr (5, [.int ((o_tiles_v 7).1), .int ((o_tiles_v 7).2.1), .int ((o_tiles_v 7).2.2.1), .long ((o_tiles_v 7).2.2.2.1), .long ((o_tiles_v 7).2.2.2.2)]))]) (va_runV (As := [.ref h_p1]) (rest := []) ⟨hx, hb, hml, hown, hts⟩ (c_X6_copyFrom l dC dI ca sa h_p1 (h_o_tiles_e 3) s.heap.size p1_wide p1_high p1_hex p1_ones p1_twos ((o_tiles_v 3).1) ((o_tiles_v 3).2.1) ((o_tiles_v 3).2.2.1) ((o_tiles_v 3).2.2.2.1) ((o_tiles_v 3).2.2.2.2)  q41 hq41) (cwV 1 hts (ds_gV kw_321 kw_144 kw_145 kw_59 kw_146) rfl rfl rfl (by decide +kernel) ⟨Nat.le_of_ble_eq_true rfl, Nat.le_of_ble_eq_true rfl⟩) ⟨ds_blind, va_recv hK hP (ci := 5) (q0 := 5) rfl rfl, ds_at hP hD hK hE hS hA [10, 5] rfl rfl _⟩ rfl rfl hl.1 rfl (lv_room (Nat.le_of_ble_eq_true rfl)) dX4_keep_41 ⟨Nat.zero_le _, Nat.zero_le _⟩) hP hD hS hA [10, 5] [0, 1, 2, 3, 4, 6, 7, 8, 9] rfl rfl rfl (by decide) (fun H locs hP hD hS => ?_)
        have hP : va_P (dC, dI) vwCl [(h_o, .inr (3, [.ref h_o_tiles, .int o_next, .int o_size])), (h_o_tiles, .inl (ca 5, 8, .inr (.inr (.inr (.inr (fun j => some (h_o_tiles_e j))))))), ((h_o_tiles_e 0), .inr (5, [.int ((o_tiles_v 0).1), .int ((o_tiles_v 0).2.1), .int ((o_tiles_v 0).2.2.1), .long ((o_tiles_v 0).2.2.2.1), .long ((o_tiles_v 0).2.2.2.2)])), ((h_o_tiles_e 1), .inr (5, [.int ((o_tiles_v 1).1), .int ((o_tiles_v 1).2.1), .int ((o_tiles_v 1).2.2.1), .long ((o_tiles_v 1).2.2.2.1), .long ((o_tiles_v 1).2.2.2.2)])), ((h_o_tiles_e 2), .inr (5, [.int ((o_tiles_v 2).1), .int ((o_tiles_v 2).2.1), .int ((o_tiles_v 2).2.2.1), .long ((o_tiles_v 2).2.2.2.1), .long ((o_tiles_v 2).2.2.2.2)])), ((h_o_tiles_e 4), .inr (5, [.int ((o_tiles_v 4).1), .int ((o_tiles_v 4).2.1), .int ((o_tiles_v 4).2.2.1), .long ((o_tiles_v 4).2.2.2.1), .long ((o_tiles_v 4).2.2.2.2)])), ((h_o_tiles_e 5), .inr (5, [.int ((o_tiles_v 5).1), .int ((o_tiles_v 5).2.1), .int ((o_tiles_v 5).2.2.1), .long ((o_tiles_v 5).2.2.2.1), .long ((o_tiles_v 5).2.2.2.2)])), ((h_o_tiles_e 6), .inr (5, [.int ((o_tiles_v 6).1), .int ((o_tiles_v 6).2.1), .int ((o_tiles_v 6).2.2.1), .long ((o_tiles_v 6).2.2.2.1), .long ((o_tiles_v 6).2.2.2.2)])), ((h_o_tiles_e 7), .inr (5, [.int ((o_tiles_v 7).1), .int ((o_tiles_v 7).2.1), .int ((o_tiles_v 7).2.2.1), .long ((o_tiles_v 7).2.2.2.1), .long ((o_tiles_v 7).2.2.2.2)])), (h_p1, .inr (5, [.int p1_wide, .int p1_high, .int p1_hex, .long p1_ones, .long p1_twos])), ((h_o_tiles_e 3), .inr (5, [.int q41.1, .int q41.2.1, .int q41.2.2.1, .long q41.2.2.2.1, .long q41.2.2.2.2]))] H := hP
        have hD : va_D A [(h_o, .inr (3, [.ref h_o_tiles, .int o_next, .int o_size])), (h_o_tiles, .inl (ca 5, 8, .inr (.inr (.inr (.inr (fun j => some (h_o_tiles_e j))))))), ((h_o_tiles_e 0), .inr (5, [.int ((o_tiles_v 0).1), .int ((o_tiles_v 0).2.1), .int ((o_tiles_v 0).2.2.1), .long ((o_tiles_v 0).2.2.2.1), .long ((o_tiles_v 0).2.2.2.2)])), ((h_o_tiles_e 1), .inr (5, [.int ((o_tiles_v 1).1), .int ((o_tiles_v 1).2.1), .int ((o_tiles_v 1).2.2.1), .long ((o_tiles_v 1).2.2.2.1), .long ((o_tiles_v 1).2.2.2.2)])), ((h_o_tiles_e 2), .inr (5, [.int ((o_tiles_v 2).1), .int ((o_tiles_v 2).2.1), .int ((o_tiles_v 2).2.2.1), .long ((o_tiles_v 2).2.2.2.1), .long ((o_tiles_v 2).2.2.2.2)])), ((h_o_tiles_e 4), .inr (5, [.int ((o_tiles_v 4).1), .int ((o_tiles_v 4).2.1), .int ((o_tiles_v 4).2.2.1), .long ((o_tiles_v 4).2.2.2.1), .long ((o_tiles_v 4).2.2.2.2)])), ((h_o_tiles_e 5), .inr (5, [.int ((o_tiles_v 5).1), .int ((o_tiles_v 5).2.1), .int ((o_tiles_v 5).2.2.1), .long ((o_tiles_v 5).2.2.2.1), .long ((o_tiles_v 5).2.2.2.2)])), ((h_o_tiles_e 6), .inr (5, [.int ((o_tiles_v 6).1), .int ((o_tiles_v 6).2.1), .int ((o_tiles_v 6).2.2.1), .long ((o_tiles_v 6).2.2.2.1), .long ((o_tiles_v 6).2.2.2.2)])), ((h_o_tiles_e 7), .inr (5, [.int ((o_tiles_v 7).1), .int ((o_tiles_v 7).2.1), .int ((o_tiles_v 7).2.2.1), .long ((o_tiles_v 7).2.2.2.1), .long ((o_tiles_v 7).2.2.2.2)])), (h_p1, .inr (5, [.int p1_wide, .int p1_high, .int p1_hex, .long p1_ones, .long p1_twos])), ((h_o_tiles_e 3), .inr (5, [.int q41.1, .int q41.2.1, .int q41.2.2.1, .long q41.2.2.2.1, .long q41.2.2.2.2]))] := hD
        refine lv_aload_n hx hb dX4_keep_44 rfl (lv_at hl 0 rfl) ?_
        refine lv_aload_n hx hb dX4_keep_45 rfl (lv_at hl 0 rfl) ?_
        refine va_get (D := (dC, dI)) (ci := 3) (v := .int o_next) (C := RX4) (T := TX4) (N := 3) hx hb hts (fun w h => List.mem_cons_of_mem _ (kc_X4 w h)) hown hK hP 0 rfl rfl 1 (by decide) (hg kw_319) (fun _ h9 => h9) rfl dX4_keep_46 ?_
        refine lv_iconst (v := 1) hx hb dX4_keep_49 (by decide) ?_
        refine lv_iadd hx hb dX4_keep_50 ?_
        refine lv_bipush (v := 8) hx hb dX4_keep_51 (by decide) ?_
        refine lv_irem hx hb dX4_keep_53 (by decide) ?_
        obtain ⟨x54, hx_54, hf⟩ := ds_ob hf
        refine ds_nmi hx_54 ?_
        refine va_put (D := (dC, dI)) (ci := 3) (v := .int x54) (ty := tyX4 1) (C := RX4) (T := TX4) (N := 3) hx hb hts (fun w h => List.mem_cons_of_mem _ (kc_X4 w h)) tyX4 tyX4_ok nmX4 hown hK hP hD hS 0 rfl rfl 1 (by decide) (hg kw_319) (fun _ h9 => h9) rfl (by decide +kernel) rfl rfl (Nat.le_of_ble_eq_true rfl) dX4_keep_54 (fun H locs hP hD hS => ?_)
        have hP : va_P (dC, dI) vwCl [(h_o, .inr (3, [.ref h_o_tiles, .int x54, .int o_size])), (h_o_tiles, .inl (ca 5, 8, .inr (.inr (.inr (.inr (fun j => some (h_o_tiles_e j))))))), ((h_o_tiles_e 0), .inr (5, [.int ((o_tiles_v 0).1), .int ((o_tiles_v 0).2.1), .int ((o_tiles_v 0).2.2.1), .long ((o_tiles_v 0).2.2.2.1), .long ((o_tiles_v 0).2.2.2.2)])), ((h_o_tiles_e 1), .inr (5, [.int ((o_tiles_v 1).1), .int ((o_tiles_v 1).2.1), .int ((o_tiles_v 1).2.2.1), .long ((o_tiles_v 1).2.2.2.1), .long ((o_tiles_v 1).2.2.2.2)])), ((h_o_tiles_e 2), .inr (5, [.int ((o_tiles_v 2).1), .int ((o_tiles_v 2).2.1), .int ((o_tiles_v 2).2.2.1), .long ((o_tiles_v 2).2.2.2.1), .long ((o_tiles_v 2).2.2.2.2)])), ((h_o_tiles_e 4), .inr (5, [.int ((o_tiles_v 4).1), .int ((o_tiles_v 4).2.1), .int ((o_tiles_v 4).2.2.1), .long ((o_tiles_v 4).2.2.2.1), .long ((o_tiles_v 4).2.2.2.2)])), ((h_o_tiles_e 5), .inr (5, [.int ((o_tiles_v 5).1), .int ((o_tiles_v 5).2.1), .int ((o_tiles_v 5).2.2.1), .long ((o_tiles_v 5).2.2.2.1), .long ((o_tiles_v 5).2.2.2.2)])), ((h_o_tiles_e 6), .inr (5, [.int ((o_tiles_v 6).1), .int ((o_tiles_v 6).2.1), .int ((o_tiles_v 6).2.2.1), .long ((o_tiles_v 6).2.2.2.1), .long ((o_tiles_v 6).2.2.2.2)])), ((h_o_tiles_e 7), .inr (5, [.int ((o_tiles_v 7).1), .int ((o_tiles_v 7).2.1), .int ((o_tiles_v 7).2.2.1), .long ((o_tiles_v 7).2.2.2.1), .long ((o_tiles_v 7).2.2.2.2)])), (h_p1, .inr (5, [.int p1_wide, .int p1_high, .int p1_hex, .long p1_ones, .long p1_twos])), ((h_o_tiles_e 3), .inr (5, [.int q41.1, .int q41.2.1, .int q41.2.2.1, .long q41.2.2.2.1, .long q41.2.2.2.2]))] H := hP
        have hD : va_D A [(h_o, .inr (3, [.ref h_o_tiles, .int x54, .int o_size])), (h_o_tiles, .inl (ca 5, 8, .inr (.inr (.inr (.inr (fun j => some (h_o_tiles_e j))))))), ((h_o_tiles_e 0), .inr (5, [.int ((o_tiles_v 0).1), .int ((o_tiles_v 0).2.1), .int ((o_tiles_v 0).2.2.1), .long ((o_tiles_v 0).2.2.2.1), .long ((o_tiles_v 0).2.2.2.2)])), ((h_o_tiles_e 1), .inr (5, [.int ((o_tiles_v 1).1), .int ((o_tiles_v 1).2.1), .int ((o_tiles_v 1).2.2.1), .long ((o_tiles_v 1).2.2.2.1), .long ((o_tiles_v 1).2.2.2.2)])), ((h_o_tiles_e 2), .inr (5, [.int ((o_tiles_v 2).1), .int ((o_tiles_v 2).2.1), .int ((o_tiles_v 2).2.2.1), .long ((o_tiles_v 2).2.2.2.1), .long ((o_tiles_v 2).2.2.2.2)])), ((h_o_tiles_e 4), .inr (5, [.int ((o_tiles_v 4).1), .int ((o_tiles_v 4).2.1), .int ((o_tiles_v 4).2.2.1), .long ((o_tiles_v 4).2.2.2.1), .long ((o_tiles_v 4).2.2.2.2)])), ((h_o_tiles_e 5), .inr (5, [.int ((o_tiles_v 5).1), .int ((o_tiles_v 5).2.1), .int ((o_tiles_v 5).2.2.1), .long ((o_tiles_v 5).2.2.2.1), .long ((o_tiles_v 5).2.2.2.2)])), ((h_o_tiles_e 6), .inr (5, [.int ((o_tiles_v 6).1), .int ((o_tiles_v 6).2.1), .int ((o_tiles_v 6).2.2.1), .long ((o_tiles_v 6).2.2.2.1), .long ((o_tiles_v 6).2.2.2.2)])), ((h_o_tiles_e 7), .inr (5, [.int ((o_tiles_v 7).1), .int ((o_tiles_v 7).2.1), .int ((o_tiles_v 7).2.2.1), .long ((o_tiles_v 7).2.2.2.1), .long ((o_tiles_v 7).2.2.2.2)])), (h_p1, .inr (5, [.int p1_wide, .int p1_high, .int p1_hex, .long p1_ones, .long p1_twos])), ((h_o_tiles_e 3), .inr (5, [.int q41.1, .int q41.2.1, .int q41.2.2.1, .long q41.2.2.2.1, .long q41.2.2.2.2]))] := hD
        refine lv_aload_n hx hb dX4_keep_57 rfl (lv_at hl 0 rfl) ?_
        refine lv_aload_n hx hb dX4_keep_58 rfl (lv_at hl 0 rfl) ?_
        refine va_get (D := (dC, dI)) (ci := 3) (v := .int o_size) (C := RX4) (T := TX4) (N := 3) hx hb hts (fun w h => List.mem_cons_of_mem _ (kc_X4 w h)) hown hK hP 0 rfl rfl 2 (by decide) (hg kw_315) (fun _ h9 => h9) rfl dX4_keep_59 ?_
        refine lv_iconst (v := 1) hx hb dX4_keep_62 (by decide) ?_
        refine lv_iadd hx hb dX4_keep_63 ?_
        refine lv_bipush (v := 8) hx hb dX4_keep_64 (by decide) ?_
        refine va_mmin hx hb (hml.trans hl.1.symm) hown (hg kw_322) (hg kw_323) (hg kw_324) (hg kw_325) (Nat.le_of_ble_eq_true rfl) (Nat.le_of_ble_eq_true rfl) (Nat.zero_le _) (Nat.zero_le _) dX4_keep_66 ?_
        obtain ⟨x69, hx_69, hf⟩ := ds_ob hf
        refine ds_nmi hx_69 ?_
        refine va_put (D := (dC, dI)) (ci := 3) (v := .int x69) (ty := tyX4 2) (C := RX4) (T := TX4) (N := 3) hx hb hts (fun w h => List.mem_cons_of_mem _ (kc_X4 w h)) tyX4 tyX4_ok nmX4 hown hK hP hD hS 0 rfl rfl 2 (by decide) (hg kw_315) (fun _ h9 => h9) rfl (by decide +kernel) rfl rfl (Nat.le_of_ble_eq_true rfl) dX4_keep_69 (fun H locs hP hD hS => ?_)
        have hP : va_P (dC, dI) vwCl [(h_o, .inr (3, [.ref h_o_tiles, .int x54, .int x69])), (h_o_tiles, .inl (ca 5, 8, .inr (.inr (.inr (.inr (fun j => some (h_o_tiles_e j))))))), ((h_o_tiles_e 0), .inr (5, [.int ((o_tiles_v 0).1), .int ((o_tiles_v 0).2.1), .int ((o_tiles_v 0).2.2.1), .long ((o_tiles_v 0).2.2.2.1), .long ((o_tiles_v 0).2.2.2.2)])), ((h_o_tiles_e 1), .inr (5, [.int ((o_tiles_v 1).1), .int ((o_tiles_v 1).2.1), .int ((o_tiles_v 1).2.2.1), .long ((o_tiles_v 1).2.2.2.1), .long ((o_tiles_v 1).2.2.2.2)])), ((h_o_tiles_e 2), .inr (5, [.int ((o_tiles_v 2).1), .int ((o_tiles_v 2).2.1), .int ((o_tiles_v 2).2.2.1), .long ((o_tiles_v 2).2.2.2.1), .long ((o_tiles_v 2).2.2.2.2)])), ((h_o_tiles_e 4), .inr (5, [.int ((o_tiles_v 4).1), .int ((o_tiles_v 4).2.1), .int ((o_tiles_v 4).2.2.1), .long ((o_tiles_v 4).2.2.2.1), .long ((o_tiles_v 4).2.2.2.2)])), ((h_o_tiles_e 5), .inr (5, [.int ((o_tiles_v 5).1), .int ((o_tiles_v 5).2.1), .int ((o_tiles_v 5).2.2.1), .long ((o_tiles_v 5).2.2.2.1), .long ((o_tiles_v 5).2.2.2.2)])), ((h_o_tiles_e 6), .inr (5, [.int ((o_tiles_v 6).1), .int ((o_tiles_v 6).2.1), .int ((o_tiles_v 6).2.2.1), .long ((o_tiles_v 6).2.2.2.1), .long ((o_tiles_v 6).2.2.2.2)])), ((h_o_tiles_e 7), .inr (5, [.int ((o_tiles_v 7).1), .int ((o_tiles_v 7).2.1), .int ((o_tiles_v 7).2.2.1), .long ((o_tiles_v 7).2.2.2.1), .long ((o_tiles_v 7).2.2.2.2)])), (h_p1, .inr (5, [.int p1_wide, .int p1_high, .int p1_hex, .long p1_ones, .long p1_twos])), ((h_o_tiles_e 3), .inr (5, [.int q41.1, .int q41.2.1, .int q41.2.2.1, .long q41.2.2.2.1, .long q41.2.2.2.2]))] H := hP
        have hD : va_D A [(h_o, .inr (3, [.ref h_o_tiles, .int x54, .int x69])), (h_o_tiles, .inl (ca 5, 8, .inr (.inr (.inr (.inr (fun j => some (h_o_tiles_e j))))))), ((h_o_tiles_e 0), .inr (5, [.int ((o_tiles_v 0).1), .int ((o_tiles_v 0).2.1), .int ((o_tiles_v 0).2.2.1), .long ((o_tiles_v 0).2.2.2.1), .long ((o_tiles_v 0).2.2.2.2)])), ((h_o_tiles_e 1), .inr (5, [.int ((o_tiles_v 1).1), .int ((o_tiles_v 1).2.1), .int ((o_tiles_v 1).2.2.1), .long ((o_tiles_v 1).2.2.2.1), .long ((o_tiles_v 1).2.2.2.2)])), ((h_o_tiles_e 2), .inr (5, [.int ((o_tiles_v 2).1), .int ((o_tiles_v 2).2.1), .int ((o_tiles_v 2).2.2.1), .long ((o_tiles_v 2).2.2.2.1), .long ((o_tiles_v 2).2.2.2.2)])), ((h_o_tiles_e 4), .inr (5, [.int ((o_tiles_v 4).1), .int ((o_tiles_v 4).2.1), .int ((o_tiles_v 4).2.2.1), .long ((o_tiles_v 4).2.2.2.1), .long ((o_tiles_v 4).2.2.2.2)])), ((h_o_tiles_e 5), .inr (5, [.int ((o_tiles_v 5).1), .int ((o_tiles_v 5).2.1), .int ((o_tiles_v 5).2.2.1), .long ((o_tiles_v 5).2.2.2.1), .long ((o_tiles_v 5).2.2.2.2)])), ((h_o_tiles_e 6), .inr (5, [.int ((o_tiles_v 6).1), .int ((o_tiles_v 6).2.1), .int ((o_tiles_v 6).2.2.1), .long ((o_tiles_v 6).2.2.2.1), .long ((o_tiles_v 6).2.2.2.2)])), ((h_o_tiles_e 7), .inr (5, [.int ((o_tiles_v 7).1), .int ((o_tiles_v 7).2.1), .int ((o_tiles_v 7).2.2.1), .long ((o_tiles_v 7).2.2.2.1), .long ((o_tiles_v 7).2.2.2.2)])), (h_p1, .inr (5, [.int p1_wide, .int p1_high, .int p1_hex, .long p1_ones, .long p1_twos])), ((h_o_tiles_e 3), .inr (5, [.int q41.1, .int q41.2.1, .int q41.2.2.1, .long q41.2.2.2.1, .long q41.2.2.2.2]))] := hD
        have hf := Option.some.inj hf
        subst hf
        rw [eG0] at hG
        have hG : _ = res := hG
        subst hG
        exact W.vret hx hb hr (fun t ht hW => ⟨⟨(), rfl, trivial, by rw [ht]; exact (hP.sub [0, 1, 2, 3, 4, 10, 5, 6, 7, 8, 9] rfl), (hD.sub [0, 1, 2, 3, 4, 10, 5, 6, 7, 8, 9] rfl rfl)⟩, hS.F ht⟩) hS.2.2 dX4_keep_72
      replace hf := ds_f c_27_3 hf
      by_cases c_27_4 : o_next = 4
      · replace hf := ds_t c_27_4 hf
        refine ds_ai (f := fun j => some (h_o_tiles_e j)) (k := 4) (by rw [c_27_4]; decide) ?_
        refine lv_ifnull hx hb dX4_keep_28 ?_
        refine lv_aload_n hx hb dX4_keep_31 rfl (lv_at hl 0 rfl) ?_
        refine va_get (D := (dC, dI)) (ci := 3) (v := .ref h_o_tiles) (C := RX4) (T := TX4) (N := 3) hx hb hts (fun w h => List.mem_cons_of_mem _ (kc_X4 w h)) hown hK hP 0 rfl rfl 0 (by decide) (hg kw_320) (fun _ h9 => h9) rfl dX4_keep_32 ?_
        refine lv_aload_n hx hb dX4_keep_35 rfl (lv_at hl 0 rfl) ?_
        refine va_get (D := (dC, dI)) (ci := 3) (v := .int o_next) (C := RX4) (T := TX4) (N := 3) hx hb hts (fun w h => List.mem_cons_of_mem _ (kc_X4 w h)) hown hK hP 0 rfl rfl 1 (by decide) (hg kw_319) (fun _ h9 => h9) rfl dX4_keep_36 ?_
        refine va_aldq hx hb hK hP 1 5 rfl rfl b_27 dX4_keep_39 ?_
        refine ds_ai (f := fun j => some (h_o_tiles_e j)) (k := 4) (by rw [c_27_4]; decide) ?_
        refine lv_aload_n hx hb dX4_keep_40 rfl (lv_at hl 1 rfl) ?_
        obtain ⟨q41, hq41, hf⟩ := ds_ob hf
        refine ds_callv (wr := [(h_o, .inr (3, [.ref h_o_tiles, .int o_next, .int o_size])), (h_o_tiles, .inl (ca 5, 8, .inr (.inr (.inr (.inr (fun j => some (h_o_tiles_e j))))))), ((h_o_tiles_e 0), .inr (5, [.int ((o_tiles_v 0).1), .int ((o_tiles_v 0).2.1), .int ((o_tiles_v 0).2.2.1), .long ((o_tiles_v 0).2.2.2.1), .long ((o_tiles_v 0).2.2.2.2)])), ((h_o_tiles_e 1), .inr (5, [.int ((o_tiles_v 1).1), .int ((o_tiles_v 1).2.1), .int ((o_tiles_v 1).2.2.1), .long ((o_tiles_v 1).2.2.2.1), .long ((o_tiles_v 1).2.2.2.2)])), ((h_o_tiles_e 2), .inr (5, [.int ((o_tiles_v 2).1), .int ((o_tiles_v 2).2.1), .int ((o_tiles_v 2).2.2.1), .long ((o_tiles_v 2).2.2.2.1), .long ((o_tiles_v 2).2.2.2.2)])), ((h_o_tiles_e 3), .inr (5, [.int ((o_tiles_v 3).1), .int ((o_tiles_v 3).2.1), .int ((o_tiles_v 3).2.2.1), .long ((o_tiles_v 3).2.2.2.1), .long ((o_tiles_v 3).2.2.2.2)])), ((h_o_tiles_e 5), .inr (5, [.int ((o_tiles_v 5).1), .int ((o_tiles_v 5).2.1), .int ((o_tiles_v 5).2.2.1), .long ((o_tiles_v 5).2.2.2.1), .long ((o_tiles_v 5).2.2.2.2)])), ((h_o_tiles_e 6), .inr (5, [.int ((o_tiles_v 6).1), .int ((o_tiles_v 6).2.1), .int ((o_tiles_v 6).2.2.1), .long ((o_tiles_v 6).2.2.2.1), .long ((o_tiles_v 6).2.2.2.2)])), ((h_o_tiles_e 7), .inr (5, [.int ((o_tiles_v 7).1), .int ((o_tiles_v 7).2.1), .int ((o_tiles_v 7).2.2.1), .long ((o_tiles_v 7).2.2.2.1), .long ((o_tiles_v 7).2.2.2.2)]))]) (va_runV (As := [.ref h_p1]) (rest := []) ⟨hx, hb, hml, hown, hts⟩ (c_X6_copyFrom l dC dI ca sa h_p1 (h_o_tiles_e 4) s.heap.size p1_wide p1_high p1_hex p1_ones p1_twos ((o_tiles_v 4).1) ((o_tiles_v 4).2.1) ((o_tiles_v 4).2.2.1) ((o_tiles_v 4).2.2.2.1) ((o_tiles_v 4).2.2.2.2)  q41 hq41) (cwV 1 hts (ds_gV kw_321 kw_144 kw_145 kw_59 kw_146) rfl rfl rfl (by decide +kernel) ⟨Nat.le_of_ble_eq_true rfl, Nat.le_of_ble_eq_true rfl⟩) ⟨ds_blind, va_recv hK hP (ci := 5) (q0 := 6) rfl rfl, ds_at hP hD hK hE hS hA [10, 6] rfl rfl _⟩ rfl rfl hl.1 rfl (lv_room (Nat.le_of_ble_eq_true rfl)) dX4_keep_41 ⟨Nat.zero_le _, Nat.zero_le _⟩) hP hD hS hA [10, 6] [0, 1, 2, 3, 4, 5, 7, 8, 9] rfl rfl rfl (by decide) (fun H locs hP hD hS => ?_)
        have hP : va_P (dC, dI) vwCl [(h_o, .inr (3, [.ref h_o_tiles, .int o_next, .int o_size])), (h_o_tiles, .inl (ca 5, 8, .inr (.inr (.inr (.inr (fun j => some (h_o_tiles_e j))))))), ((h_o_tiles_e 0), .inr (5, [.int ((o_tiles_v 0).1), .int ((o_tiles_v 0).2.1), .int ((o_tiles_v 0).2.2.1), .long ((o_tiles_v 0).2.2.2.1), .long ((o_tiles_v 0).2.2.2.2)])), ((h_o_tiles_e 1), .inr (5, [.int ((o_tiles_v 1).1), .int ((o_tiles_v 1).2.1), .int ((o_tiles_v 1).2.2.1), .long ((o_tiles_v 1).2.2.2.1), .long ((o_tiles_v 1).2.2.2.2)])), ((h_o_tiles_e 2), .inr (5, [.int ((o_tiles_v 2).1), .int ((o_tiles_v 2).2.1), .int ((o_tiles_v 2).2.2.1), .long ((o_tiles_v 2).2.2.2.1), .long ((o_tiles_v 2).2.2.2.2)])), ((h_o_tiles_e 3), .inr (5, [.int ((o_tiles_v 3).1), .int ((o_tiles_v 3).2.1), .int ((o_tiles_v 3).2.2.1), .long ((o_tiles_v 3).2.2.2.1), .long ((o_tiles_v 3).2.2.2.2)])), ((h_o_tiles_e 5), .inr (5, [.int ((o_tiles_v 5).1), .int ((o_tiles_v 5).2.1), .int ((o_tiles_v 5).2.2.1), .long ((o_tiles_v 5).2.2.2.1), .long ((o_tiles_v 5).2.2.2.2)])), ((h_o_tiles_e 6), .inr (5, [.int ((o_tiles_v 6).1), .int ((o_tiles_v 6).2.1), .int ((o_tiles_v 6).2.2.1), .long ((o_tiles_v 6).2.2.2.1), .long ((o_tiles_v 6).2.2.2.2)])), ((h_o_tiles_e 7), .inr (5, [.int ((o_tiles_v 7).1), .int ((o_tiles_v 7).2.1), .int ((o_tiles_v 7).2.2.1), .long ((o_tiles_v 7).2.2.2.1), .long ((o_tiles_v 7).2.2.2.2)])), (h_p1, .inr (5, [.int p1_wide, .int p1_high, .int p1_hex, .long p1_ones, .long p1_twos])), ((h_o_tiles_e 4), .inr (5, [.int q41.1, .int q41.2.1, .int q41.2.2.1, .long q41.2.2.2.1, .long q41.2.2.2.2]))] H := hP
        have hD : va_D A [(h_o, .inr (3, [.ref h_o_tiles, .int o_next, .int o_size])), (h_o_tiles, .inl (ca 5, 8, .inr (.inr (.inr (.inr (fun j => some (h_o_tiles_e j))))))), ((h_o_tiles_e 0), .inr (5, [.int ((o_tiles_v 0).1), .int ((o_tiles_v 0).2.1), .int ((o_tiles_v 0).2.2.1), .long ((o_tiles_v 0).2.2.2.1), .long ((o_tiles_v 0).2.2.2.2)])), ((h_o_tiles_e 1), .inr (5, [.int ((o_tiles_v 1).1), .int ((o_tiles_v 1).2.1), .int ((o_tiles_v 1).2.2.1), .long ((o_tiles_v 1).2.2.2.1), .long ((o_tiles_v 1).2.2.2.2)])), ((h_o_tiles_e 2), .inr (5, [.int ((o_tiles_v 2).1), .int ((o_tiles_v 2).2.1), .int ((o_tiles_v 2).2.2.1), .long ((o_tiles_v 2).2.2.2.1), .long ((o_tiles_v 2).2.2.2.2)])), ((h_o_tiles_e 3), .inr (5, [.int ((o_tiles_v 3).1), .int ((o_tiles_v 3).2.1), .int ((o_tiles_v 3).2.2.1), .long ((o_tiles_v 3).2.2.2.1), .long ((o_tiles_v 3).2.2.2.2)])), ((h_o_tiles_e 5), .inr (5, [.int ((o_tiles_v 5).1), .int ((o_tiles_v 5).2.1), .int ((o_tiles_v 5).2.2.1), .long ((o_tiles_v 5).2.2.2.1), .long ((o_tiles_v 5).2.2.2.2)])), ((h_o_tiles_e 6), .inr (5, [.int ((o_tiles_v 6).1), .int ((o_tiles_v 6).2.1), .int ((o_tiles_v 6).2.2.1), .long ((o_tiles_v 6).2.2.2.1), .long ((o_tiles_v 6).2.2.2.2)])), ((h_o_tiles_e 7), .inr (5, [.int ((o_tiles_v 7).1), .int ((o_tiles_v 7).2.1), .int ((o_tiles_v 7).2.2.1), .long ((o_tiles_v 7).2.2.2.1), .long ((o_tiles_v 7).2.2.2.2)])), (h_p1, .inr (5, [.int p1_wide, .int p1_high, .int p1_hex, .long p1_ones, .long p1_twos])), ((h_o_tiles_e 4), .inr (5, [.int q41.1, .int q41.2.1, .int q41.2.2.1, .long q41.2.2.2.1, .long q41.2.2.2.2]))] := hD
        refine lv_aload_n hx hb dX4_keep_44 rfl (lv_at hl 0 rfl) ?_
        refine lv_aload_n hx hb dX4_keep_45 rfl (lv_at hl 0 rfl) ?_
        refine va_get (D := (dC, dI)) (ci := 3) (v := .int o_next) (C := RX4) (T := TX4) (N := 3) hx hb hts (fun w h => List.mem_cons_of_mem _ (kc_X4 w h)) hown hK hP 0 rfl rfl 1 (by decide) (hg kw_319) (fun _ h9 => h9) rfl dX4_keep_46 ?_
        refine lv_iconst (v := 1) hx hb dX4_keep_49 (by decide) ?_
        refine lv_iadd hx hb dX4_keep_50 ?_
        refine lv_bipush (v := 8) hx hb dX4_keep_51 (by decide) ?_
        refine lv_irem hx hb dX4_keep_53 (by decide) ?_
        obtain ⟨x54, hx_54, hf⟩ := ds_ob hf
        refine ds_nmi hx_54 ?_
        refine va_put (D := (dC, dI)) (ci := 3) (v := .int x54) (ty := tyX4 1) (C := RX4) (T := TX4) (N := 3) hx hb hts (fun w h => List.mem_cons_of_mem _ (kc_X4 w h)) tyX4 tyX4_ok nmX4 hown hK hP hD hS 0 rfl rfl 1 (by decide) (hg kw_319) (fun _ h9 => h9) rfl (by decide +kernel) rfl rfl (Nat.le_of_ble_eq_true rfl) dX4_keep_54 (fun H locs hP hD hS => ?_)
        have hP : va_P (dC, dI) vwCl [(h_o, .inr (3, [.ref h_o_tiles, .int x54, .int o_size])), (h_o_tiles, .inl (ca 5, 8, .inr (.inr (.inr (.inr (fun j => some (h_o_tiles_e j))))))), ((h_o_tiles_e 0), .inr (5, [.int ((o_tiles_v 0).1), .int ((o_tiles_v 0).2.1), .int ((o_tiles_v 0).2.2.1), .long ((o_tiles_v 0).2.2.2.1), .long ((o_tiles_v 0).2.2.2.2)])), ((h_o_tiles_e 1), .inr (5, [.int ((o_tiles_v 1).1), .int ((o_tiles_v 1).2.1), .int ((o_tiles_v 1).2.2.1), .long ((o_tiles_v 1).2.2.2.1), .long ((o_tiles_v 1).2.2.2.2)])), ((h_o_tiles_e 2), .inr (5, [.int ((o_tiles_v 2).1), .int ((o_tiles_v 2).2.1), .int ((o_tiles_v 2).2.2.1), .long ((o_tiles_v 2).2.2.2.1), .long ((o_tiles_v 2).2.2.2.2)])), ((h_o_tiles_e 3), .inr (5, [.int ((o_tiles_v 3).1), .int ((o_tiles_v 3).2.1), .int ((o_tiles_v 3).2.2.1), .long ((o_tiles_v 3).2.2.2.1), .long ((o_tiles_v 3).2.2.2.2)])), ((h_o_tiles_e 5), .inr (5, [.int ((o_tiles_v 5).1), .int ((o_tiles_v 5).2.1), .int ((o_tiles_v 5).2.2.1), .long ((o_tiles_v 5).2.2.2.1), .long ((o_tiles_v 5).2.2.2.2)])), ((h_o_tiles_e 6), .inr (5, [.int ((o_tiles_v 6).1), .int ((o_tiles_v 6).2.1), .int ((o_tiles_v 6).2.2.1), .long ((o_tiles_v 6).2.2.2.1), .long ((o_tiles_v 6).2.2.2.2)])), ((h_o_tiles_e 7), .inr (5, [.int ((o_tiles_v 7).1), .int ((o_tiles_v 7).2.1), .int ((o_tiles_v 7).2.2.1), .long ((o_tiles_v 7).2.2.2.1), .long ((o_tiles_v 7).2.2.2.2)])), (h_p1, .inr (5, [.int p1_wide, .int p1_high, .int p1_hex, .long p1_ones, .long p1_twos])), ((h_o_tiles_e 4), .inr (5, [.int q41.1, .int q41.2.1, .int q41.2.2.1, .long q41.2.2.2.1, .long q41.2.2.2.2]))] H := hP
        have hD : va_D A [(h_o, .inr (3, [.ref h_o_tiles, .int x54, .int o_size])), (h_o_tiles, .inl (ca 5, 8, .inr (.inr (.inr (.inr (fun j => some (h_o_tiles_e j))))))), ((h_o_tiles_e 0), .inr (5, [.int ((o_tiles_v 0).1), .int ((o_tiles_v 0).2.1), .int ((o_tiles_v 0).2.2.1), .long ((o_tiles_v 0).2.2.2.1), .long ((o_tiles_v 0).2.2.2.2)])), ((h_o_tiles_e 1), .inr (5, [.int ((o_tiles_v 1).1), .int ((o_tiles_v 1).2.1), .int ((o_tiles_v 1).2.2.1), .long ((o_tiles_v 1).2.2.2.1), .long ((o_tiles_v 1).2.2.2.2)])), ((h_o_tiles_e 2), .inr (5, [.int ((o_tiles_v 2).1), .int ((o_tiles_v 2).2.1), .int ((o_tiles_v 2).2.2.1), .long ((o_tiles_v 2).2.2.2.1), .long ((o_tiles_v 2).2.2.2.2)])), ((h_o_tiles_e 3), .inr (5, [.int ((o_tiles_v 3).1), .int ((o_tiles_v 3).2.1), .int ((o_tiles_v 3).2.2.1), .long ((o_tiles_v 3).2.2.2.1), .long ((o_tiles_v 3).2.2.2.2)])), ((h_o_tiles_e 5), .inr (5, [.int ((o_tiles_v 5).1), .int ((o_tiles_v 5).2.1), .int ((o_tiles_v 5).2.2.1), .long ((o_tiles_v 5).2.2.2.1), .long ((o_tiles_v 5).2.2.2.2)])), ((h_o_tiles_e 6), .inr (5, [.int ((o_tiles_v 6).1), .int ((o_tiles_v 6).2.1), .int ((o_tiles_v 6).2.2.1), .long ((o_tiles_v 6).2.2.2.1), .long ((o_tiles_v 6).2.2.2.2)])), ((h_o_tiles_e 7), .inr (5, [.int ((o_tiles_v 7).1), .int ((o_tiles_v 7).2.1), .int ((o_tiles_v 7).2.2.1), .long ((o_tiles_v 7).2.2.2.1), .long ((o_tiles_v 7).2.2.2.2)])), (h_p1, .inr (5, [.int p1_wide, .int p1_high, .int p1_hex, .long p1_ones, .long p1_twos])), ((h_o_tiles_e 4), .inr (5, [.int q41.1, .int q41.2.1, .int q41.2.2.1, .long q41.2.2.2.1, .long q41.2.2.2.2]))] := hD
        refine lv_aload_n hx hb dX4_keep_57 rfl (lv_at hl 0 rfl) ?_
        refine lv_aload_n hx hb dX4_keep_58 rfl (lv_at hl 0 rfl) ?_
        refine va_get (D := (dC, dI)) (ci := 3) (v := .int o_size) (C := RX4) (T := TX4) (N := 3) hx hb hts (fun w h => List.mem_cons_of_mem _ (kc_X4 w h)) hown hK hP 0 rfl rfl 2 (by decide) (hg kw_315) (fun _ h9 => h9) rfl dX4_keep_59 ?_
        refine lv_iconst (v := 1) hx hb dX4_keep_62 (by decide) ?_
        refine lv_iadd hx hb dX4_keep_63 ?_
        refine lv_bipush (v := 8) hx hb dX4_keep_64 (by decide) ?_
        refine va_mmin hx hb (hml.trans hl.1.symm) hown (hg kw_322) (hg kw_323) (hg kw_324) (hg kw_325) (Nat.le_of_ble_eq_true rfl) (Nat.le_of_ble_eq_true rfl) (Nat.zero_le _) (Nat.zero_le _) dX4_keep_66 ?_
        obtain ⟨x69, hx_69, hf⟩ := ds_ob hf
        refine ds_nmi hx_69 ?_
        refine va_put (D := (dC, dI)) (ci := 3) (v := .int x69) (ty := tyX4 2) (C := RX4) (T := TX4) (N := 3) hx hb hts (fun w h => List.mem_cons_of_mem _ (kc_X4 w h)) tyX4 tyX4_ok nmX4 hown hK hP hD hS 0 rfl rfl 2 (by decide) (hg kw_315) (fun _ h9 => h9) rfl (by decide +kernel) rfl rfl (Nat.le_of_ble_eq_true rfl) dX4_keep_69 (fun H locs hP hD hS => ?_)
        have hP : va_P (dC, dI) vwCl [(h_o, .inr (3, [.ref h_o_tiles, .int x54, .int x69])), (h_o_tiles, .inl (ca 5, 8, .inr (.inr (.inr (.inr (fun j => some (h_o_tiles_e j))))))), ((h_o_tiles_e 0), .inr (5, [.int ((o_tiles_v 0).1), .int ((o_tiles_v 0).2.1), .int ((o_tiles_v 0).2.2.1), .long ((o_tiles_v 0).2.2.2.1), .long ((o_tiles_v 0).2.2.2.2)])), ((h_o_tiles_e 1), .inr (5, [.int ((o_tiles_v 1).1), .int ((o_tiles_v 1).2.1), .int ((o_tiles_v 1).2.2.1), .long ((o_tiles_v 1).2.2.2.1), .long ((o_tiles_v 1).2.2.2.2)])), ((h_o_tiles_e 2), .inr (5, [.int ((o_tiles_v 2).1), .int ((o_tiles_v 2).2.1), .int ((o_tiles_v 2).2.2.1), .long ((o_tiles_v 2).2.2.2.1), .long ((o_tiles_v 2).2.2.2.2)])), ((h_o_tiles_e 3), .inr (5, [.int ((o_tiles_v 3).1), .int ((o_tiles_v 3).2.1), .int ((o_tiles_v 3).2.2.1), .long ((o_tiles_v 3).2.2.2.1), .long ((o_tiles_v 3).2.2.2.2)])), ((h_o_tiles_e 5), .inr (5, [.int ((o_tiles_v 5).1), .int ((o_tiles_v 5).2.1), .int ((o_tiles_v 5).2.2.1), .long ((o_tiles_v 5).2.2.2.1), .long ((o_tiles_v 5).2.2.2.2)])), ((h_o_tiles_e 6), .inr (5, [.int ((o_tiles_v 6).1), .int ((o_tiles_v 6).2.1), .int ((o_tiles_v 6).2.2.1), .long ((o_tiles_v 6).2.2.2.1), .long ((o_tiles_v 6).2.2.2.2)])), ((h_o_tiles_e 7), .inr (5, [.int ((o_tiles_v 7).1), .int ((o_tiles_v 7).2.1), .int ((o_tiles_v 7).2.2.1), .long ((o_tiles_v 7).2.2.2.1), .long ((o_tiles_v 7).2.2.2.2)])), (h_p1, .inr (5, [.int p1_wide, .int p1_high, .int p1_hex, .long p1_ones, .long p1_twos])), ((h_o_tiles_e 4), .inr (5, [.int q41.1, .int q41.2.1, .int q41.2.2.1, .long q41.2.2.2.1, .long q41.2.2.2.2]))] H := hP
        have hD : va_D A [(h_o, .inr (3, [.ref h_o_tiles, .int x54, .int x69])), (h_o_tiles, .inl (ca 5, 8, .inr (.inr (.inr (.inr (fun j => some (h_o_tiles_e j))))))), ((h_o_tiles_e 0), .inr (5, [.int ((o_tiles_v 0).1), .int ((o_tiles_v 0).2.1), .int ((o_tiles_v 0).2.2.1), .long ((o_tiles_v 0).2.2.2.1), .long ((o_tiles_v 0).2.2.2.2)])), ((h_o_tiles_e 1), .inr (5, [.int ((o_tiles_v 1).1), .int ((o_tiles_v 1).2.1), .int ((o_tiles_v 1).2.2.1), .long ((o_tiles_v 1).2.2.2.1), .long ((o_tiles_v 1).2.2.2.2)])), ((h_o_tiles_e 2), .inr (5, [.int ((o_tiles_v 2).1), .int ((o_tiles_v 2).2.1), .int ((o_tiles_v 2).2.2.1), .long ((o_tiles_v 2).2.2.2.1), .long ((o_tiles_v 2).2.2.2.2)])), ((h_o_tiles_e 3), .inr (5, [.int ((o_tiles_v 3).1), .int ((o_tiles_v 3).2.1), .int ((o_tiles_v 3).2.2.1), .long ((o_tiles_v 3).2.2.2.1), .long ((o_tiles_v 3).2.2.2.2)])), ((h_o_tiles_e 5), .inr (5, [.int ((o_tiles_v 5).1), .int ((o_tiles_v 5).2.1), .int ((o_tiles_v 5).2.2.1), .long ((o_tiles_v 5).2.2.2.1), .long ((o_tiles_v 5).2.2.2.2)])), ((h_o_tiles_e 6), .inr (5, [.int ((o_tiles_v 6).1), .int ((o_tiles_v 6).2.1), .int ((o_tiles_v 6).2.2.1), .long ((o_tiles_v 6).2.2.2.1), .long ((o_tiles_v 6).2.2.2.2)])), ((h_o_tiles_e 7), .inr (5, [.int ((o_tiles_v 7).1), .int ((o_tiles_v 7).2.1), .int ((o_tiles_v 7).2.2.1), .long ((o_tiles_v 7).2.2.2.1), .long ((o_tiles_v 7).2.2.2.2)])), (h_p1, .inr (5, [.int p1_wide, .int p1_high, .int p1_hex, .long p1_ones, .long p1_twos])), ((h_o_tiles_e 4), .inr (5, [.int q41.1, .int q41.2.1, .int q41.2.2.1, .long q41.2.2.2.1, .long q41.2.2.2.2]))] := hD
        have hf := Option.some.inj hf
        subst hf
        rw [eG0] at hG
        have hG : _ = res := hG
        subst hG
        exact W.vret hx hb hr (fun t ht hW => ⟨⟨(), rfl, trivial, by rw [ht]; exact (hP.sub [0, 1, 2, 3, 4, 5, 10, 6, 7, 8, 9] rfl), (hD.sub [0, 1, 2, 3, 4, 5, 10, 6, 7, 8, 9] rfl rfl)⟩, hS.F ht⟩) hS.2.2 dX4_keep_72
      replace hf := ds_f c_27_4 hf
      by_cases c_27_5 : o_next = 5
      · replace hf := ds_t c_27_5 hf
        refine ds_ai (f := fun j => some (h_o_tiles_e j)) (k := 5) (by rw [c_27_5]; decide) ?_
        refine lv_ifnull hx hb dX4_keep_28 ?_
        refine lv_aload_n hx hb dX4_keep_31 rfl (lv_at hl 0 rfl) ?_
        refine va_get (D := (dC, dI)) (ci := 3) (v := .ref h_o_tiles) (C := RX4) (T := TX4) (N := 3) hx hb hts (fun w h => List.mem_cons_of_mem _ (kc_X4 w h)) hown hK hP 0 rfl rfl 0 (by decide) (hg kw_320) (fun _ h9 => h9) rfl dX4_keep_32 ?_
        refine lv_aload_n hx hb dX4_keep_35 rfl (lv_at hl 0 rfl) ?_
        refine va_get (D := (dC, dI)) (ci := 3) (v := .int o_next) (C := RX4) (T := TX4) (N := 3) hx hb hts (fun w h => List.mem_cons_of_mem _ (kc_X4 w h)) hown hK hP 0 rfl rfl 1 (by decide) (hg kw_319) (fun _ h9 => h9) rfl dX4_keep_36 ?_
        refine va_aldq hx hb hK hP 1 5 rfl rfl b_27 dX4_keep_39 ?_
        refine ds_ai (f := fun j => some (h_o_tiles_e j)) (k := 5) (by rw [c_27_5]; decide) ?_
        refine lv_aload_n hx hb dX4_keep_40 rfl (lv_at hl 1 rfl) ?_
        obtain ⟨q41, hq41, hf⟩ := ds_ob hf
        refine ds_callv (wr := [(h_o, .inr (3, [.ref h_o_tiles, .int o_next, .int o_size])), (h_o_tiles, .inl (ca 5, 8, .inr (.inr (.inr (.inr (fun j => some (h_o_tiles_e j))))))), ((h_o_tiles_e 0), .inr (5, [.int ((o_tiles_v 0).1), .int ((o_tiles_v 0).2.1), .int ((o_tiles_v 0).2.2.1), .long ((o_tiles_v 0).2.2.2.1), .long ((o_tiles_v 0).2.2.2.2)])), ((h_o_tiles_e 1), .inr (5, [.int ((o_tiles_v 1).1), .int ((o_tiles_v 1).2.1), .int ((o_tiles_v 1).2.2.1), .long ((o_tiles_v 1).2.2.2.1), .long ((o_tiles_v 1).2.2.2.2)])), ((h_o_tiles_e 2), .inr (5, [.int ((o_tiles_v 2).1), .int ((o_tiles_v 2).2.1), .int ((o_tiles_v 2).2.2.1), .long ((o_tiles_v 2).2.2.2.1), .long ((o_tiles_v 2).2.2.2.2)])), ((h_o_tiles_e 3), .inr (5, [.int ((o_tiles_v 3).1), .int ((o_tiles_v 3).2.1), .int ((o_tiles_v 3).2.2.1), .long ((o_tiles_v 3).2.2.2.1), .long ((o_tiles_v 3).2.2.2.2)])), ((h_o_tiles_e 4), .inr (5, [.int ((o_tiles_v 4).1), .int ((o_tiles_v 4).2.1), .int ((o_tiles_v 4).2.2.1), .long ((o_tiles_v 4).2.2.2.1), .long ((o_tiles_v 4).2.2.2.2)])), ((h_o_tiles_e 6), .inr (5, [.int ((o_tiles_v 6).1), .int ((o_tiles_v 6).2.1), .int ((o_tiles_v 6).2.2.1), .long ((o_tiles_v 6).2.2.2.1), .long ((o_tiles_v 6).2.2.2.2)])), ((h_o_tiles_e 7), .inr (5, [.int ((o_tiles_v 7).1), .int ((o_tiles_v 7).2.1), .int ((o_tiles_v 7).2.2.1), .long ((o_tiles_v 7).2.2.2.1), .long ((o_tiles_v 7).2.2.2.2)]))]) (va_runV (As := [.ref h_p1]) (rest := []) ⟨hx, hb, hml, hown, hts⟩ (c_X6_copyFrom l dC dI ca sa h_p1 (h_o_tiles_e 5) s.heap.size p1_wide p1_high p1_hex p1_ones p1_twos ((o_tiles_v 5).1) ((o_tiles_v 5).2.1) ((o_tiles_v 5).2.2.1) ((o_tiles_v 5).2.2.2.1) ((o_tiles_v 5).2.2.2.2)  q41 hq41) (cwV 1 hts (ds_gV kw_321 kw_144 kw_145 kw_59 kw_146) rfl rfl rfl (by decide +kernel) ⟨Nat.le_of_ble_eq_true rfl, Nat.le_of_ble_eq_true rfl⟩) ⟨ds_blind, va_recv hK hP (ci := 5) (q0 := 7) rfl rfl, ds_at hP hD hK hE hS hA [10, 7] rfl rfl _⟩ rfl rfl hl.1 rfl (lv_room (Nat.le_of_ble_eq_true rfl)) dX4_keep_41 ⟨Nat.zero_le _, Nat.zero_le _⟩) hP hD hS hA [10, 7] [0, 1, 2, 3, 4, 5, 6, 8, 9] rfl rfl rfl (by decide) (fun H locs hP hD hS => ?_)
        have hP : va_P (dC, dI) vwCl [(h_o, .inr (3, [.ref h_o_tiles, .int o_next, .int o_size])), (h_o_tiles, .inl (ca 5, 8, .inr (.inr (.inr (.inr (fun j => some (h_o_tiles_e j))))))), ((h_o_tiles_e 0), .inr (5, [.int ((o_tiles_v 0).1), .int ((o_tiles_v 0).2.1), .int ((o_tiles_v 0).2.2.1), .long ((o_tiles_v 0).2.2.2.1), .long ((o_tiles_v 0).2.2.2.2)])), ((h_o_tiles_e 1), .inr (5, [.int ((o_tiles_v 1).1), .int ((o_tiles_v 1).2.1), .int ((o_tiles_v 1).2.2.1), .long ((o_tiles_v 1).2.2.2.1), .long ((o_tiles_v 1).2.2.2.2)])), ((h_o_tiles_e 2), .inr (5, [.int ((o_tiles_v 2).1), .int ((o_tiles_v 2).2.1), .int ((o_tiles_v 2).2.2.1), .long ((o_tiles_v 2).2.2.2.1), .long ((o_tiles_v 2).2.2.2.2)])), ((h_o_tiles_e 3), .inr (5, [.int ((o_tiles_v 3).1), .int ((o_tiles_v 3).2.1), .int ((o_tiles_v 3).2.2.1), .long ((o_tiles_v 3).2.2.2.1), .long ((o_tiles_v 3).2.2.2.2)])), ((h_o_tiles_e 4), .inr (5, [.int ((o_tiles_v 4).1), .int ((o_tiles_v 4).2.1), .int ((o_tiles_v 4).2.2.1), .long ((o_tiles_v 4).2.2.2.1), .long ((o_tiles_v 4).2.2.2.2)])), ((h_o_tiles_e 6), .inr (5, [.int ((o_tiles_v 6).1), .int ((o_tiles_v 6).2.1), .int ((o_tiles_v 6).2.2.1), .long ((o_tiles_v 6).2.2.2.1), .long ((o_tiles_v 6).2.2.2.2)])), ((h_o_tiles_e 7), .inr (5, [.int ((o_tiles_v 7).1), .int ((o_tiles_v 7).2.1), .int ((o_tiles_v 7).2.2.1), .long ((o_tiles_v 7).2.2.2.1), .long ((o_tiles_v 7).2.2.2.2)])), (h_p1, .inr (5, [.int p1_wide, .int p1_high, .int p1_hex, .long p1_ones, .long p1_twos])), ((h_o_tiles_e 5), .inr (5, [.int q41.1, .int q41.2.1, .int q41.2.2.1, .long q41.2.2.2.1, .long q41.2.2.2.2]))] H := hP
        have hD : va_D A [(h_o, .inr (3, [.ref h_o_tiles, .int o_next, .int o_size])), (h_o_tiles, .inl (ca 5, 8, .inr (.inr (.inr (.inr (fun j => some (h_o_tiles_e j))))))), ((h_o_tiles_e 0), .inr (5, [.int ((o_tiles_v 0).1), .int ((o_tiles_v 0).2.1), .int ((o_tiles_v 0).2.2.1), .long ((o_tiles_v 0).2.2.2.1), .long ((o_tiles_v 0).2.2.2.2)])), ((h_o_tiles_e 1), .inr (5, [.int ((o_tiles_v 1).1), .int ((o_tiles_v 1).2.1), .int ((o_tiles_v 1).2.2.1), .long ((o_tiles_v 1).2.2.2.1), .long ((o_tiles_v 1).2.2.2.2)])), ((h_o_tiles_e 2), .inr (5, [.int ((o_tiles_v 2).1), .int ((o_tiles_v 2).2.1), .int ((o_tiles_v 2).2.2.1), .long ((o_tiles_v 2).2.2.2.1), .long ((o_tiles_v 2).2.2.2.2)])), ((h_o_tiles_e 3), .inr (5, [.int ((o_tiles_v 3).1), .int ((o_tiles_v 3).2.1), .int ((o_tiles_v 3).2.2.1), .long ((o_tiles_v 3).2.2.2.1), .long ((o_tiles_v 3).2.2.2.2)])), ((h_o_tiles_e 4), .inr (5, [.int ((o_tiles_v 4).1), .int ((o_tiles_v 4).2.1), .int ((o_tiles_v 4).2.2.1), .long ((o_tiles_v 4).2.2.2.1), .long ((o_tiles_v 4).2.2.2.2)])), ((h_o_tiles_e 6), .inr (5, [.int ((o_tiles_v 6).1), .int ((o_tiles_v 6).2.1), .int ((o_tiles_v 6).2.2.1), .long ((o_tiles_v 6).2.2.2.1), .long ((o_tiles_v 6).2.2.2.2)])), ((h_o_tiles_e 7), .inr (5, [.int ((o_tiles_v 7).1), .int ((o_tiles_v 7).2.1), .int ((o_tiles_v 7).2.2.1), .long ((o_tiles_v 7).2.2.2.1), .long ((o_tiles_v 7).2.2.2.2)])), (h_p1, .inr (5, [.int p1_wide, .int p1_high, .int p1_hex, .long p1_ones, .long p1_twos])), ((h_o_tiles_e 5), .inr (5, [.int q41.1, .int q41.2.1, .int q41.2.2.1, .long q41.2.2.2.1, .long q41.2.2.2.2]))] := hD
        refine lv_aload_n hx hb dX4_keep_44 rfl (lv_at hl 0 rfl) ?_
        refine lv_aload_n hx hb dX4_keep_45 rfl (lv_at hl 0 rfl) ?_
        refine va_get (D := (dC, dI)) (ci := 3) (v := .int o_next) (C := RX4) (T := TX4) (N := 3) hx hb hts (fun w h => List.mem_cons_of_mem _ (kc_X4 w h)) hown hK hP 0 rfl rfl 1 (by decide) (hg kw_319) (fun _ h9 => h9) rfl dX4_keep_46 ?_
        refine lv_iconst (v := 1) hx hb dX4_keep_49 (by decide) ?_
        refine lv_iadd hx hb dX4_keep_50 ?_
        refine lv_bipush (v := 8) hx hb dX4_keep_51 (by decide) ?_
        refine lv_irem hx hb dX4_keep_53 (by decide) ?_
        obtain ⟨x54, hx_54, hf⟩ := ds_ob hf
        refine ds_nmi hx_54 ?_
        refine va_put (D := (dC, dI)) (ci := 3) (v := .int x54) (ty := tyX4 1) (C := RX4) (T := TX4) (N := 3) hx hb hts (fun w h => List.mem_cons_of_mem _ (kc_X4 w h)) tyX4 tyX4_ok nmX4 hown hK hP hD hS 0 rfl rfl 1 (by decide) (hg kw_319) (fun _ h9 => h9) rfl (by decide +kernel) rfl rfl (Nat.le_of_ble_eq_true rfl) dX4_keep_54 (fun H locs hP hD hS => ?_)
        have hP : va_P (dC, dI) vwCl [(h_o, .inr (3, [.ref h_o_tiles, .int x54, .int o_size])), (h_o_tiles, .inl (ca 5, 8, .inr (.inr (.inr (.inr (fun j => some (h_o_tiles_e j))))))), ((h_o_tiles_e 0), .inr (5, [.int ((o_tiles_v 0).1), .int ((o_tiles_v 0).2.1), .int ((o_tiles_v 0).2.2.1), .long ((o_tiles_v 0).2.2.2.1), .long ((o_tiles_v 0).2.2.2.2)])), ((h_o_tiles_e 1), .inr (5, [.int ((o_tiles_v 1).1), .int ((o_tiles_v 1).2.1), .int ((o_tiles_v 1).2.2.1), .long ((o_tiles_v 1).2.2.2.1), .long ((o_tiles_v 1).2.2.2.2)])), ((h_o_tiles_e 2), .inr (5, [.int ((o_tiles_v 2).1), .int ((o_tiles_v 2).2.1), .int ((o_tiles_v 2).2.2.1), .long ((o_tiles_v 2).2.2.2.1), .long ((o_tiles_v 2).2.2.2.2)])), ((h_o_tiles_e 3), .inr (5, [.int ((o_tiles_v 3).1), .int ((o_tiles_v 3).2.1), .int ((o_tiles_v 3).2.2.1), .long ((o_tiles_v 3).2.2.2.1), .long ((o_tiles_v 3).2.2.2.2)])), ((h_o_tiles_e 4), .inr (5, [.int ((o_tiles_v 4).1), .int ((o_tiles_v 4).2.1), .int ((o_tiles_v 4).2.2.1), .long ((o_tiles_v 4).2.2.2.1), .long ((o_tiles_v 4).2.2.2.2)])), ((h_o_tiles_e 6), .inr (5, [.int ((o_tiles_v 6).1), .int ((o_tiles_v 6).2.1), .int ((o_tiles_v 6).2.2.1), .long ((o_tiles_v 6).2.2.2.1), .long ((o_tiles_v 6).2.2.2.2)])), ((h_o_tiles_e 7), .inr (5, [.int ((o_tiles_v 7).1), .int ((o_tiles_v 7).2.1), .int ((o_tiles_v 7).2.2.1), .long ((o_tiles_v 7).2.2.2.1), .long ((o_tiles_v 7).2.2.2.2)])), (h_p1, .inr (5, [.int p1_wide, .int p1_high, .int p1_hex, .long p1_ones, .long p1_twos])), ((h_o_tiles_e 5), .inr (5, [.int q41.1, .int q41.2.1, .int q41.2.2.1, .long q41.2.2.2.1, .long q41.2.2.2.2]))] H := hP
        have hD : va_D A [(h_o, .inr (3, [.ref h_o_tiles, .int x54, .int o_size])), (h_o_tiles, .inl (ca 5, 8, .inr (.inr (.inr (.inr (fun j => some (h_o_tiles_e j))))))), ((h_o_tiles_e 0), .inr (5, [.int ((o_tiles_v 0).1), .int ((o_tiles_v 0).2.1), .int ((o_tiles_v 0).2.2.1), .long ((o_tiles_v 0).2.2.2.1), .long ((o_tiles_v 0).2.2.2.2)])), ((h_o_tiles_e 1), .inr (5, [.int ((o_tiles_v 1).1), .int ((o_tiles_v 1).2.1), .int ((o_tiles_v 1).2.2.1), .long ((o_tiles_v 1).2.2.2.1), .long ((o_tiles_v 1).2.2.2.2)])), ((h_o_tiles_e 2), .inr (5, [.int ((o_tiles_v 2).1), .int ((o_tiles_v 2).2.1), .int ((o_tiles_v 2).2.2.1), .long ((o_tiles_v 2).2.2.2.1), .long ((o_tiles_v 2).2.2.2.2)])), ((h_o_tiles_e 3), .inr (5, [.int ((o_tiles_v 3).1), .int ((o_tiles_v 3).2.1), .int ((o_tiles_v 3).2.2.1), .long ((o_tiles_v 3).2.2.2.1), .long ((o_tiles_v 3).2.2.2.2)])), ((h_o_tiles_e 4), .inr (5, [.int ((o_tiles_v 4).1), .int ((o_tiles_v 4).2.1), .int ((o_tiles_v 4).2.2.1), .long ((o_tiles_v 4).2.2.2.1), .long ((o_tiles_v 4).2.2.2.2)])), ((h_o_tiles_e 6), .inr (5, [.int ((o_tiles_v 6).1), .int ((o_tiles_v 6).2.1), .int ((o_tiles_v 6).2.2.1), .long ((o_tiles_v 6).2.2.2.1), .long ((o_tiles_v 6).2.2.2.2)])), ((h_o_tiles_e 7), .inr (5, [.int ((o_tiles_v 7).1), .int ((o_tiles_v 7).2.1), .int ((o_tiles_v 7).2.2.1), .long ((o_tiles_v 7).2.2.2.1), .long ((o_tiles_v 7).2.2.2.2)])), (h_p1, .inr (5, [.int p1_wide, .int p1_high, .int p1_hex, .long p1_ones, .long p1_twos])), ((h_o_tiles_e 5), .inr (5, [.int q41.1, .int q41.2.1, .int q41.2.2.1, .long q41.2.2.2.1, .long q41.2.2.2.2]))] := hD
        refine lv_aload_n hx hb dX4_keep_57 rfl (lv_at hl 0 rfl) ?_
        refine lv_aload_n hx hb dX4_keep_58 rfl (lv_at hl 0 rfl) ?_
        refine va_get (D := (dC, dI)) (ci := 3) (v := .int o_size) (C := RX4) (T := TX4) (N := 3) hx hb hts (fun w h => List.mem_cons_of_mem _ (kc_X4 w h)) hown hK hP 0 rfl rfl 2 (by decide) (hg kw_315) (fun _ h9 => h9) rfl dX4_keep_59 ?_
        refine lv_iconst (v := 1) hx hb dX4_keep_62 (by decide) ?_
        refine lv_iadd hx hb dX4_keep_63 ?_
        refine lv_bipush (v := 8) hx hb dX4_keep_64 (by decide) ?_
        refine va_mmin hx hb (hml.trans hl.1.symm) hown (hg kw_322) (hg kw_323) (hg kw_324) (hg kw_325) (Nat.le_of_ble_eq_true rfl) (Nat.le_of_ble_eq_true rfl) (Nat.zero_le _) (Nat.zero_le _) dX4_keep_66 ?_
        obtain ⟨x69, hx_69, hf⟩ := ds_ob hf
        refine ds_nmi hx_69 ?_
        refine va_put (D := (dC, dI)) (ci := 3) (v := .int x69) (ty := tyX4 2) (C := RX4) (T := TX4) (N := 3) hx hb hts (fun w h => List.mem_cons_of_mem _ (kc_X4 w h)) tyX4 tyX4_ok nmX4 hown hK hP hD hS 0 rfl rfl 2 (by decide) (hg kw_315) (fun _ h9 => h9) rfl (by decide +kernel) rfl rfl (Nat.le_of_ble_eq_true rfl) dX4_keep_69 (fun H locs hP hD hS => ?_)
        have hP : va_P (dC, dI) vwCl [(h_o, .inr (3, [.ref h_o_tiles, .int x54, .int x69])), (h_o_tiles, .inl (ca 5, 8, .inr (.inr (.inr (.inr (fun j => some (h_o_tiles_e j))))))), ((h_o_tiles_e 0), .inr (5, [.int ((o_tiles_v 0).1), .int ((o_tiles_v 0).2.1), .int ((o_tiles_v 0).2.2.1), .long ((o_tiles_v 0).2.2.2.1), .long ((o_tiles_v 0).2.2.2.2)])), ((h_o_tiles_e 1), .inr (5, [.int ((o_tiles_v 1).1), .int ((o_tiles_v 1).2.1), .int ((o_tiles_v 1).2.2.1), .long ((o_tiles_v 1).2.2.2.1), .long ((o_tiles_v 1).2.2.2.2)])), ((h_o_tiles_e 2), .inr (5, [.int ((o_tiles_v 2).1), .int ((o_tiles_v 2).2.1), .int ((o_tiles_v 2).2.2.1), .long ((o_tiles_v 2).2.2.2.1), .long ((o_tiles_v 2).2.2.2.2)])), ((h_o_tiles_e 3), .inr (5, [.int ((o_tiles_v 3).1), .int ((o_tiles_v 3).2.1), .int ((o_tiles_v 3).2.2.1), .long ((o_tiles_v 3).2.2.2.1), .long ((o_tiles_v 3).2.2.2.2)])), ((h_o_tiles_e 4), .inr (5, [.int ((o_tiles_v 4).1), .int ((o_tiles_v 4).2.1), .int ((o_tiles_v 4).2.2.1), .long ((o_tiles_v 4).2.2.2.1), .long ((o_tiles_v 4).2.2.2.2)])), ((h_o_tiles_e 6), .inr (5, [.int ((o_tiles_v 6).1), .int ((o_tiles_v 6).2.1), .int ((o_tiles_v 6).2.2.1), .long ((o_tiles_v 6).2.2.2.1), .long ((o_tiles_v 6).2.2.2.2)])), ((h_o_tiles_e 7), .inr (5, [.int ((o_tiles_v 7).1), .int ((o_tiles_v 7).2.1), .int ((o_tiles_v 7).2.2.1), .long ((o_tiles_v 7).2.2.2.1), .long ((o_tiles_v 7).2.2.2.2)])), (h_p1, .inr (5, [.int p1_wide, .int p1_high, .int p1_hex, .long p1_ones, .long p1_twos])), ((h_o_tiles_e 5), .inr (5, [.int q41.1, .int q41.2.1, .int q41.2.2.1, .long q41.2.2.2.1, .long q41.2.2.2.2]))] H := hP
        have hD : va_D A [(h_o, .inr (3, [.ref h_o_tiles, .int x54, .int x69])), (h_o_tiles, .inl (ca 5, 8, .inr (.inr (.inr (.inr (fun j => some (h_o_tiles_e j))))))), ((h_o_tiles_e 0), .inr (5, [.int ((o_tiles_v 0).1), .int ((o_tiles_v 0).2.1), .int ((o_tiles_v 0).2.2.1), .long ((o_tiles_v 0).2.2.2.1), .long ((o_tiles_v 0).2.2.2.2)])), ((h_o_tiles_e 1), .inr (5, [.int ((o_tiles_v 1).1), .int ((o_tiles_v 1).2.1), .int ((o_tiles_v 1).2.2.1), .long ((o_tiles_v 1).2.2.2.1), .long ((o_tiles_v 1).2.2.2.2)])), ((h_o_tiles_e 2), .inr (5, [.int ((o_tiles_v 2).1), .int ((o_tiles_v 2).2.1), .int ((o_tiles_v 2).2.2.1), .long ((o_tiles_v 2).2.2.2.1), .long ((o_tiles_v 2).2.2.2.2)])), ((h_o_tiles_e 3), .inr (5, [.int ((o_tiles_v 3).1), .int ((o_tiles_v 3).2.1), .int ((o_tiles_v 3).2.2.1), .long ((o_tiles_v 3).2.2.2.1), .long ((o_tiles_v 3).2.2.2.2)])), ((h_o_tiles_e 4), .inr (5, [.int ((o_tiles_v 4).1), .int ((o_tiles_v 4).2.1), .int ((o_tiles_v 4).2.2.1), .long ((o_tiles_v 4).2.2.2.1), .long ((o_tiles_v 4).2.2.2.2)])), ((h_o_tiles_e 6), .inr (5, [.int ((o_tiles_v 6).1), .int ((o_tiles_v 6).2.1), .int ((o_tiles_v 6).2.2.1), .long ((o_tiles_v 6).2.2.2.1), .long ((o_tiles_v 6).2.2.2.2)])), ((h_o_tiles_e 7), .inr (5, [.int ((o_tiles_v 7).1), .int ((o_tiles_v 7).2.1), .int ((o_tiles_v 7).2.2.1), .long ((o_tiles_v 7).2.2.2.1), .long ((o_tiles_v 7).2.2.2.2)])), (h_p1, .inr (5, [.int p1_wide, .int p1_high, .int p1_hex, .long p1_ones, .long p1_twos])), ((h_o_tiles_e 5), .inr (5, [.int q41.1, .int q41.2.1, .int q41.2.2.1, .long q41.2.2.2.1, .long q41.2.2.2.2]))] := hD
        have hf := Option.some.inj hf
        subst hf
        rw [eG0] at hG
        have hG : _ = res := hG
        subst hG
        exact W.vret hx hb hr (fun t ht hW => ⟨⟨(), rfl, trivial, by rw [ht]; exact (hP.sub [0, 1, 2, 3, 4, 5, 6, 10, 7, 8, 9] rfl), (hD.sub [0, 1, 2, 3, 4, 5, 6, 10, 7, 8, 9] rfl rfl)⟩, hS.F ht⟩) hS.2.2 dX4_keep_72
      replace hf := ds_f c_27_5 hf
      by_cases c_27_6 : o_next = 6
      · replace hf := ds_t c_27_6 hf
        refine ds_ai (f := fun j => some (h_o_tiles_e j)) (k := 6) (by rw [c_27_6]; decide) ?_
        refine lv_ifnull hx hb dX4_keep_28 ?_
        refine lv_aload_n hx hb dX4_keep_31 rfl (lv_at hl 0 rfl) ?_
        refine va_get (D := (dC, dI)) (ci := 3) (v := .ref h_o_tiles) (C := RX4) (T := TX4) (N := 3) hx hb hts (fun w h => List.mem_cons_of_mem _ (kc_X4 w h)) hown hK hP 0 rfl rfl 0 (by decide) (hg kw_320) (fun _ h9 => h9) rfl dX4_keep_32 ?_
        refine lv_aload_n hx hb dX4_keep_35 rfl (lv_at hl 0 rfl) ?_
        refine va_get (D := (dC, dI)) (ci := 3) (v := .int o_next) (C := RX4) (T := TX4) (N := 3) hx hb hts (fun w h => List.mem_cons_of_mem _ (kc_X4 w h)) hown hK hP 0 rfl rfl 1 (by decide) (hg kw_319) (fun _ h9 => h9) rfl dX4_keep_36 ?_
        refine va_aldq hx hb hK hP 1 5 rfl rfl b_27 dX4_keep_39 ?_
        refine ds_ai (f := fun j => some (h_o_tiles_e j)) (k := 6) (by rw [c_27_6]; decide) ?_
        refine lv_aload_n hx hb dX4_keep_40 rfl (lv_at hl 1 rfl) ?_
        obtain ⟨q41, hq41, hf⟩ := ds_ob hf
        refine ds_callv (wr := [(h_o, .inr (3, [.ref h_o_tiles, .int o_next, .int o_size])), (h_o_tiles, .inl (ca 5, 8, .inr (.inr (.inr (.inr (fun j => some (h_o_tiles_e j))))))), ((h_o_tiles_e 0), .inr (5, [.int ((o_tiles_v 0).1), .int ((o_tiles_v 0).2.1), .int ((o_tiles_v 0).2.2.1), .long ((o_tiles_v 0).2.2.2.1), .long ((o_tiles_v 0).2.2.2.2)])), ((h_o_tiles_e 1), .inr (5, [.int ((o_tiles_v 1).1), .int ((o_tiles_v 1).2.1), .int ((o_tiles_v 1).2.2.1), .long ((o_tiles_v 1).2.2.2.1), .long ((o_tiles_v 1).2.2.2.2)])), ((h_o_tiles_e 2), .inr (5, [.int ((o_tiles_v 2).1), .int ((o_tiles_v 2).2.1), .int ((o_tiles_v 2).2.2.1), .long ((o_tiles_v 2).2.2.2.1), .long ((o_tiles_v 2).2.2.2.2)])), ((h_o_tiles_e 3), .inr (5, [.int ((o_tiles_v 3).1), .int ((o_tiles_v 3).2.1), .int ((o_tiles_v 3).2.2.1), .long ((o_tiles_v 3).2.2.2.1), .long ((o_tiles_v 3).2.2.2.2)])), ((h_o_tiles_e 4), .inr (5, [.int ((o_tiles_v 4).1), .int ((o_tiles_v 4).2.1), .int ((o_tiles_v 4).2.2.1), .long ((o_tiles_v 4).2.2.2.1), .long ((o_tiles_v 4).2.2.2.2)])), ((h_o_tiles_e 5), .inr (5, [.int ((o_tiles_v 5).1), .int ((o_tiles_v 5).2.1), .int ((o_tiles_v 5).2.2.1), .long ((o_tiles_v 5).2.2.2.1), .long ((o_tiles_v 5).2.2.2.2)])), ((h_o_tiles_e 7), .inr (5, [.int ((o_tiles_v 7).1), .int ((o_tiles_v 7).2.1), .int ((o_tiles_v 7).2.2.1), .long ((o_tiles_v 7).2.2.2.1), .long ((o_tiles_v 7).2.2.2.2)]))]) (va_runV (As := [.ref h_p1]) (rest := []) ⟨hx, hb, hml, hown, hts⟩ (c_X6_copyFrom l dC dI ca sa h_p1 (h_o_tiles_e 6) s.heap.size p1_wide p1_high p1_hex p1_ones p1_twos ((o_tiles_v 6).1) ((o_tiles_v 6).2.1) ((o_tiles_v 6).2.2.1) ((o_tiles_v 6).2.2.2.1) ((o_tiles_v 6).2.2.2.2)  q41 hq41) (cwV 1 hts (ds_gV kw_321 kw_144 kw_145 kw_59 kw_146) rfl rfl rfl (by decide +kernel) ⟨Nat.le_of_ble_eq_true rfl, Nat.le_of_ble_eq_true rfl⟩) ⟨ds_blind, va_recv hK hP (ci := 5) (q0 := 8) rfl rfl, ds_at hP hD hK hE hS hA [10, 8] rfl rfl _⟩ rfl rfl hl.1 rfl (lv_room (Nat.le_of_ble_eq_true rfl)) dX4_keep_41 ⟨Nat.zero_le _, Nat.zero_le _⟩) hP hD hS hA [10, 8] [0, 1, 2, 3, 4, 5, 6, 7, 9] rfl rfl rfl (by decide) (fun H locs hP hD hS => ?_)
        have hP : va_P (dC, dI) vwCl [(h_o, .inr (3, [.ref h_o_tiles, .int o_next, .int o_size])), (h_o_tiles, .inl (ca 5, 8, .inr (.inr (.inr (.inr (fun j => some (h_o_tiles_e j))))))), ((h_o_tiles_e 0), .inr (5, [.int ((o_tiles_v 0).1), .int ((o_tiles_v 0).2.1), .int ((o_tiles_v 0).2.2.1), .long ((o_tiles_v 0).2.2.2.1), .long ((o_tiles_v 0).2.2.2.2)])), ((h_o_tiles_e 1), .inr (5, [.int ((o_tiles_v 1).1), .int ((o_tiles_v 1).2.1), .int ((o_tiles_v 1).2.2.1), .long ((o_tiles_v 1).2.2.2.1), .long ((o_tiles_v 1).2.2.2.2)])), ((h_o_tiles_e 2), .inr (5, [.int ((o_tiles_v 2).1), .int ((o_tiles_v 2).2.1), .int ((o_tiles_v 2).2.2.1), .long ((o_tiles_v 2).2.2.2.1), .long ((o_tiles_v 2).2.2.2.2)])), ((h_o_tiles_e 3), .inr (5, [.int ((o_tiles_v 3).1), .int ((o_tiles_v 3).2.1), .int ((o_tiles_v 3).2.2.1), .long ((o_tiles_v 3).2.2.2.1), .long ((o_tiles_v 3).2.2.2.2)])), ((h_o_tiles_e 4), .inr (5, [.int ((o_tiles_v 4).1), .int ((o_tiles_v 4).2.1), .int ((o_tiles_v 4).2.2.1), .long ((o_tiles_v 4).2.2.2.1), .long ((o_tiles_v 4).2.2.2.2)])), ((h_o_tiles_e 5), .inr (5, [.int ((o_tiles_v 5).1), .int ((o_tiles_v 5).2.1), .int ((o_tiles_v 5).2.2.1), .long ((o_tiles_v 5).2.2.2.1), .long ((o_tiles_v 5).2.2.2.2)])), ((h_o_tiles_e 7), .inr (5, [.int ((o_tiles_v 7).1), .int ((o_tiles_v 7).2.1), .int ((o_tiles_v 7).2.2.1), .long ((o_tiles_v 7).2.2.2.1), .long ((o_tiles_v 7).2.2.2.2)])), (h_p1, .inr (5, [.int p1_wide, .int p1_high, .int p1_hex, .long p1_ones, .long p1_twos])), ((h_o_tiles_e 6), .inr (5, [.int q41.1, .int q41.2.1, .int q41.2.2.1, .long q41.2.2.2.1, .long q41.2.2.2.2]))] H := hP
        have hD : va_D A [(h_o, .inr (3, [.ref h_o_tiles, .int o_next, .int o_size])), (h_o_tiles, .inl (ca 5, 8, .inr (.inr (.inr (.inr (fun j => some (h_o_tiles_e j))))))), ((h_o_tiles_e 0), .inr (5, [.int ((o_tiles_v 0).1), .int ((o_tiles_v 0).2.1), .int ((o_tiles_v 0).2.2.1), .long ((o_tiles_v 0).2.2.2.1), .long ((o_tiles_v 0).2.2.2.2)])), ((h_o_tiles_e 1), .inr (5, [.int ((o_tiles_v 1).1), .int ((o_tiles_v 1).2.1), .int ((o_tiles_v 1).2.2.1), .long ((o_tiles_v 1).2.2.2.1), .long ((o_tiles_v 1).2.2.2.2)])), ((h_o_tiles_e 2), .inr (5, [.int ((o_tiles_v 2).1), .int ((o_tiles_v 2).2.1), .int ((o_tiles_v 2).2.2.1), .long ((o_tiles_v 2).2.2.2.1), .long ((o_tiles_v 2).2.2.2.2)])), ((h_o_tiles_e 3), .inr (5, [.int ((o_tiles_v 3).1), .int ((o_tiles_v 3).2.1), .int ((o_tiles_v 3).2.2.1), .long ((o_tiles_v 3).2.2.2.1), .long ((o_tiles_v 3).2.2.2.2)])), ((h_o_tiles_e 4), .inr (5, [.int ((o_tiles_v 4).1), .int ((o_tiles_v 4).2.1), .int ((o_tiles_v 4).2.2.1), .long ((o_tiles_v 4).2.2.2.1), .long ((o_tiles_v 4).2.2.2.2)])), ((h_o_tiles_e 5), .inr (5, [.int ((o_tiles_v 5).1), .int ((o_tiles_v 5).2.1), .int ((o_tiles_v 5).2.2.1), .long ((o_tiles_v 5).2.2.2.1), .long ((o_tiles_v 5).2.2.2.2)])), ((h_o_tiles_e 7), .inr (5, [.int ((o_tiles_v 7).1), .int ((o_tiles_v 7).2.1), .int ((o_tiles_v 7).2.2.1), .long ((o_tiles_v 7).2.2.2.1), .long ((o_tiles_v 7).2.2.2.2)])), (h_p1, .inr (5, [.int p1_wide, .int p1_high, .int p1_hex, .long p1_ones, .long p1_twos])), ((h_o_tiles_e 6), .inr (5, [.int q41.1, .int q41.2.1, .int q41.2.2.1, .long q41.2.2.2.1, .long q41.2.2.2.2]))] := hD
        refine lv_aload_n hx hb dX4_keep_44 rfl (lv_at hl 0 rfl) ?_
        refine lv_aload_n hx hb dX4_keep_45 rfl (lv_at hl 0 rfl) ?_
        refine va_get (D := (dC, dI)) (ci := 3) (v := .int o_next) (C := RX4) (T := TX4) (N := 3) hx hb hts (fun w h => List.mem_cons_of_mem _ (kc_X4 w h)) hown hK hP 0 rfl rfl 1 (by decide) (hg kw_319) (fun _ h9 => h9) rfl dX4_keep_46 ?_
        refine lv_iconst (v := 1) hx hb dX4_keep_49 (by decide) ?_
        refine lv_iadd hx hb dX4_keep_50 ?_
        refine lv_bipush (v := 8) hx hb dX4_keep_51 (by decide) ?_
        refine lv_irem hx hb dX4_keep_53 (by decide) ?_
        obtain ⟨x54, hx_54, hf⟩ := ds_ob hf
        refine ds_nmi hx_54 ?_
        refine va_put (D := (dC, dI)) (ci := 3) (v := .int x54) (ty := tyX4 1) (C := RX4) (T := TX4) (N := 3) hx hb hts (fun w h => List.mem_cons_of_mem _ (kc_X4 w h)) tyX4 tyX4_ok nmX4 hown hK hP hD hS 0 rfl rfl 1 (by decide) (hg kw_319) (fun _ h9 => h9) rfl (by decide +kernel) rfl rfl (Nat.le_of_ble_eq_true rfl) dX4_keep_54 (fun H locs hP hD hS => ?_)
        have hP : va_P (dC, dI) vwCl [(h_o, .inr (3, [.ref h_o_tiles, .int x54, .int o_size])), (h_o_tiles, .inl (ca 5, 8, .inr (.inr (.inr (.inr (fun j => some (h_o_tiles_e j))))))), ((h_o_tiles_e 0), .inr (5, [.int ((o_tiles_v 0).1), .int ((o_tiles_v 0).2.1), .int ((o_tiles_v 0).2.2.1), .long ((o_tiles_v 0).2.2.2.1), .long ((o_tiles_v 0).2.2.2.2)])), ((h_o_tiles_e 1), .inr (5, [.int ((o_tiles_v 1).1), .int ((o_tiles_v 1).2.1), .int ((o_tiles_v 1).2.2.1), .long ((o_tiles_v 1).2.2.2.1), .long ((o_tiles_v 1).2.2.2.2)])), ((h_o_tiles_e 2), .inr (5, [.int ((o_tiles_v 2).1), .int ((o_tiles_v 2).2.1), .int ((o_tiles_v 2).2.2.1), .long ((o_tiles_v 2).2.2.2.1), .long ((o_tiles_v 2).2.2.2.2)])), ((h_o_tiles_e 3), .inr (5, [.int ((o_tiles_v 3).1), .int ((o_tiles_v 3).2.1), .int ((o_tiles_v 3).2.2.1), .long ((o_tiles_v 3).2.2.2.1), .long ((o_tiles_v 3).2.2.2.2)])), ((h_o_tiles_e 4), .inr (5, [.int ((o_tiles_v 4).1), .int ((o_tiles_v 4).2.1), .int ((o_tiles_v 4).2.2.1), .long ((o_tiles_v 4).2.2.2.1), .long ((o_tiles_v 4).2.2.2.2)])), ((h_o_tiles_e 5), .inr (5, [.int ((o_tiles_v 5).1), .int ((o_tiles_v 5).2.1), .int ((o_tiles_v 5).2.2.1), .long ((o_tiles_v 5).2.2.2.1), .long ((o_tiles_v 5).2.2.2.2)])), ((h_o_tiles_e 7), .inr (5, [.int ((o_tiles_v 7).1), .int ((o_tiles_v 7).2.1), .int ((o_tiles_v 7).2.2.1), .long ((o_tiles_v 7).2.2.2.1), .long ((o_tiles_v 7).2.2.2.2)])), (h_p1, .inr (5, [.int p1_wide, .int p1_high, .int p1_hex, .long p1_ones, .long p1_twos])), ((h_o_tiles_e 6), .inr (5, [.int q41.1, .int q41.2.1, .int q41.2.2.1, .long q41.2.2.2.1, .long q41.2.2.2.2]))] H := hP
        have hD : va_D A [(h_o, .inr (3, [.ref h_o_tiles, .int x54, .int o_size])), (h_o_tiles, .inl (ca 5, 8, .inr (.inr (.inr (.inr (fun j => some (h_o_tiles_e j))))))), ((h_o_tiles_e 0), .inr (5, [.int ((o_tiles_v 0).1), .int ((o_tiles_v 0).2.1), .int ((o_tiles_v 0).2.2.1), .long ((o_tiles_v 0).2.2.2.1), .long ((o_tiles_v 0).2.2.2.2)])), ((h_o_tiles_e 1), .inr (5, [.int ((o_tiles_v 1).1), .int ((o_tiles_v 1).2.1), .int ((o_tiles_v 1).2.2.1), .long ((o_tiles_v 1).2.2.2.1), .long ((o_tiles_v 1).2.2.2.2)])), ((h_o_tiles_e 2), .inr (5, [.int ((o_tiles_v 2).1), .int ((o_tiles_v 2).2.1), .int ((o_tiles_v 2).2.2.1), .long ((o_tiles_v 2).2.2.2.1), .long ((o_tiles_v 2).2.2.2.2)])), ((h_o_tiles_e 3), .inr (5, [.int ((o_tiles_v 3).1), .int ((o_tiles_v 3).2.1), .int ((o_tiles_v 3).2.2.1), .long ((o_tiles_v 3).2.2.2.1), .long ((o_tiles_v 3).2.2.2.2)])), ((h_o_tiles_e 4), .inr (5, [.int ((o_tiles_v 4).1), .int ((o_tiles_v 4).2.1), .int ((o_tiles_v 4).2.2.1), .long ((o_tiles_v 4).2.2.2.1), .long ((o_tiles_v 4).2.2.2.2)])), ((h_o_tiles_e 5), .inr (5, [.int ((o_tiles_v 5).1), .int ((o_tiles_v 5).2.1), .int ((o_tiles_v 5).2.2.1), .long ((o_tiles_v 5).2.2.2.1), .long ((o_tiles_v 5).2.2.2.2)])), ((h_o_tiles_e 7), .inr (5, [.int ((o_tiles_v 7).1), .int ((o_tiles_v 7).2.1), .int ((o_tiles_v 7).2.2.1), .long ((o_tiles_v 7).2.2.2.1), .long ((o_tiles_v 7).2.2.2.2)])), (h_p1, .inr (5, [.int p1_wide, .int p1_high, .int p1_hex, .long p1_ones, .long p1_twos])), ((h_o_tiles_e 6), .inr (5, [.int q41.1, .int q41.2.1, .int q41.2.2.1, .long q41.2.2.2.1, .long q41.2.2.2.2]))] := hD
        refine lv_aload_n hx hb dX4_keep_57 rfl (lv_at hl 0 rfl) ?_
        refine lv_aload_n hx hb dX4_keep_58 rfl (lv_at hl 0 rfl) ?_
        refine va_get (D := (dC, dI)) (ci := 3) (v := .int o_size) (C := RX4) (T := TX4) (N := 3) hx hb hts (fun w h => List.mem_cons_of_mem _ (kc_X4 w h)) hown hK hP 0 rfl rfl 2 (by decide) (hg kw_315) (fun _ h9 => h9) rfl dX4_keep_59 ?_
        refine lv_iconst (v := 1) hx hb dX4_keep_62 (by decide) ?_
        refine lv_iadd hx hb dX4_keep_63 ?_
        refine lv_bipush (v := 8) hx hb dX4_keep_64 (by decide) ?_
        refine va_mmin hx hb (hml.trans hl.1.symm) hown (hg kw_322) (hg kw_323) (hg kw_324) (hg kw_325) (Nat.le_of_ble_eq_true rfl) (Nat.le_of_ble_eq_true rfl) (Nat.zero_le _) (Nat.zero_le _) dX4_keep_66 ?_
        obtain ⟨x69, hx_69, hf⟩ := ds_ob hf
        refine ds_nmi hx_69 ?_
        refine va_put (D := (dC, dI)) (ci := 3) (v := .int x69) (ty := tyX4 2) (C := RX4) (T := TX4) (N := 3) hx hb hts (fun w h => List.mem_cons_of_mem _ (kc_X4 w h)) tyX4 tyX4_ok nmX4 hown hK hP hD hS 0 rfl rfl 2 (by decide) (hg kw_315) (fun _ h9 => h9) rfl (by decide +kernel) rfl rfl (Nat.le_of_ble_eq_true rfl) dX4_keep_69 (fun H locs hP hD hS => ?_)
        have hP : va_P (dC, dI) vwCl [(h_o, .inr (3, [.ref h_o_tiles, .int x54, .int x69])), (h_o_tiles, .inl (ca 5, 8, .inr (.inr (.inr (.inr (fun j => some (h_o_tiles_e j))))))), ((h_o_tiles_e 0), .inr (5, [.int ((o_tiles_v 0).1), .int ((o_tiles_v 0).2.1), .int ((o_tiles_v 0).2.2.1), .long ((o_tiles_v 0).2.2.2.1), .long ((o_tiles_v 0).2.2.2.2)])), ((h_o_tiles_e 1), .inr (5, [.int ((o_tiles_v 1).1), .int ((o_tiles_v 1).2.1), .int ((o_tiles_v 1).2.2.1), .long ((o_tiles_v 1).2.2.2.1), .long ((o_tiles_v 1).2.2.2.2)])), ((h_o_tiles_e 2), .inr (5, [.int ((o_tiles_v 2).1), .int ((o_tiles_v 2).2.1), .int ((o_tiles_v 2).2.2.1), .long ((o_tiles_v 2).2.2.2.1), .long ((o_tiles_v 2).2.2.2.2)])), ((h_o_tiles_e 3), .inr (5, [.int ((o_tiles_v 3).1), .int ((o_tiles_v 3).2.1), .int ((o_tiles_v 3).2.2.1), .long ((o_tiles_v 3).2.2.2.1), .long ((o_tiles_v 3).2.2.2.2)])), ((h_o_tiles_e 4), .inr (5, [.int ((o_tiles_v 4).1), .int ((o_tiles_v 4).2.1), .int ((o_tiles_v 4).2.2.1), .long ((o_tiles_v 4).2.2.2.1), .long ((o_tiles_v 4).2.2.2.2)])), ((h_o_tiles_e 5), .inr (5, [.int ((o_tiles_v 5).1), .int ((o_tiles_v 5).2.1), .int ((o_tiles_v 5).2.2.1), .long ((o_tiles_v 5).2.2.2.1), .long ((o_tiles_v 5).2.2.2.2)])), ((h_o_tiles_e 7), .inr (5, [.int ((o_tiles_v 7).1), .int ((o_tiles_v 7).2.1), .int ((o_tiles_v 7).2.2.1), .long ((o_tiles_v 7).2.2.2.1), .long ((o_tiles_v 7).2.2.2.2)])), (h_p1, .inr (5, [.int p1_wide, .int p1_high, .int p1_hex, .long p1_ones, .long p1_twos])), ((h_o_tiles_e 6), .inr (5, [.int q41.1, .int q41.2.1, .int q41.2.2.1, .long q41.2.2.2.1, .long q41.2.2.2.2]))] H := hP
        have hD : va_D A [(h_o, .inr (3, [.ref h_o_tiles, .int x54, .int x69])), (h_o_tiles, .inl (ca 5, 8, .inr (.inr (.inr (.inr (fun j => some (h_o_tiles_e j))))))), ((h_o_tiles_e 0), .inr (5, [.int ((o_tiles_v 0).1), .int ((o_tiles_v 0).2.1), .int ((o_tiles_v 0).2.2.1), .long ((o_tiles_v 0).2.2.2.1), .long ((o_tiles_v 0).2.2.2.2)])), ((h_o_tiles_e 1), .inr (5, [.int ((o_tiles_v 1).1), .int ((o_tiles_v 1).2.1), .int ((o_tiles_v 1).2.2.1), .long ((o_tiles_v 1).2.2.2.1), .long ((o_tiles_v 1).2.2.2.2)])), ((h_o_tiles_e 2), .inr (5, [.int ((o_tiles_v 2).1), .int ((o_tiles_v 2).2.1), .int ((o_tiles_v 2).2.2.1), .long ((o_tiles_v 2).2.2.2.1), .long ((o_tiles_v 2).2.2.2.2)])), ((h_o_tiles_e 3), .inr (5, [.int ((o_tiles_v 3).1), .int ((o_tiles_v 3).2.1), .int ((o_tiles_v 3).2.2.1), .long ((o_tiles_v 3).2.2.2.1), .long ((o_tiles_v 3).2.2.2.2)])), ((h_o_tiles_e 4), .inr (5, [.int ((o_tiles_v 4).1), .int ((o_tiles_v 4).2.1), .int ((o_tiles_v 4).2.2.1), .long ((o_tiles_v 4).2.2.2.1), .long ((o_tiles_v 4).2.2.2.2)])), ((h_o_tiles_e 5), .inr (5, [.int ((o_tiles_v 5).1), .int ((o_tiles_v 5).2.1), .int ((o_tiles_v 5).2.2.1), .long ((o_tiles_v 5).2.2.2.1), .long ((o_tiles_v 5).2.2.2.2)])), ((h_o_tiles_e 7), .inr (5, [.int ((o_tiles_v 7).1), .int ((o_tiles_v 7).2.1), .int ((o_tiles_v 7).2.2.1), .long ((o_tiles_v 7).2.2.2.1), .long ((o_tiles_v 7).2.2.2.2)])), (h_p1, .inr (5, [.int p1_wide, .int p1_high, .int p1_hex, .long p1_ones, .long p1_twos])), ((h_o_tiles_e 6), .inr (5, [.int q41.1, .int q41.2.1, .int q41.2.2.1, .long q41.2.2.2.1, .long q41.2.2.2.2]))] := hD
        have hf := Option.some.inj hf
        subst hf
        rw [eG0] at hG
        have hG : _ = res := hG
        subst hG
        exact W.vret hx hb hr (fun t ht hW => ⟨⟨(), rfl, trivial, by rw [ht]; exact (hP.sub [0, 1, 2, 3, 4, 5, 6, 7, 10, 8, 9] rfl), (hD.sub [0, 1, 2, 3, 4, 5, 6, 7, 10, 8, 9] rfl rfl)⟩, hS.F ht⟩) hS.2.2 dX4_keep_72
      replace hf := ds_f c_27_6 hf
      refine ds_ai (f := fun j => some (h_o_tiles_e j)) (k := 7) (ds_last8 b_27 c_27_0 c_27_1 c_27_2 c_27_3 c_27_4 c_27_5 c_27_6) ?_
      refine lv_ifnull hx hb dX4_keep_28 ?_
      refine lv_aload_n hx hb dX4_keep_31 rfl (lv_at hl 0 rfl) ?_
      refine va_get (D := (dC, dI)) (ci := 3) (v := .ref h_o_tiles) (C := RX4) (T := TX4) (N := 3) hx hb hts (fun w h => List.mem_cons_of_mem _ (kc_X4 w h)) hown hK hP 0 rfl rfl 0 (by decide) (hg kw_320) (fun _ h9 => h9) rfl dX4_keep_32 ?_
      refine lv_aload_n hx hb dX4_keep_35 rfl (lv_at hl 0 rfl) ?_
      refine va_get (D := (dC, dI)) (ci := 3) (v := .int o_next) (C := RX4) (T := TX4) (N := 3) hx hb hts (fun w h => List.mem_cons_of_mem _ (kc_X4 w h)) hown hK hP 0 rfl rfl 1 (by decide) (hg kw_319) (fun _ h9 => h9) rfl dX4_keep_36 ?_
      refine va_aldq hx hb hK hP 1 5 rfl rfl b_27 dX4_keep_39 ?_
      refine ds_ai (f := fun j => some (h_o_tiles_e j)) (k := 7) (ds_last8 b_27 c_27_0 c_27_1 c_27_2 c_27_3 c_27_4 c_27_5 c_27_6) ?_
      refine lv_aload_n hx hb dX4_keep_40 rfl (lv_at hl 1 rfl) ?_
      obtain ⟨q41, hq41, hf⟩ := ds_ob hf
      refine ds_callv (wr := [(h_o, .inr (3, [.ref h_o_tiles, .int o_next, .int o_size])), (h_o_tiles, .inl (ca 5, 8, .inr (.inr (.inr (.inr (fun j => some (h_o_tiles_e j))))))), ((h_o_tiles_e 0), .inr (5, [.int ((o_tiles_v 0).1), .int ((o_tiles_v 0).2.1), .int ((o_tiles_v 0).2.2.1), .long ((o_tiles_v 0).2.2.2.1), .long ((o_tiles_v 0).2.2.2.2)])), ((h_o_tiles_e 1), .inr (5, [.int ((o_tiles_v 1).1), .int ((o_tiles_v 1).2.1), .int ((o_tiles_v 1).2.2.1), .long ((o_tiles_v 1).2.2.2.1), .long ((o_tiles_v 1).2.2.2.2)])), ((h_o_tiles_e 2), .inr (5, [.int ((o_tiles_v 2).1), .int ((o_tiles_v 2).2.1), .int ((o_tiles_v 2).2.2.1), .long ((o_tiles_v 2).2.2.2.1), .long ((o_tiles_v 2).2.2.2.2)])), ((h_o_tiles_e 3), .inr (5, [.int ((o_tiles_v 3).1), .int ((o_tiles_v 3).2.1), .int ((o_tiles_v 3).2.2.1), .long ((o_tiles_v 3).2.2.2.1), .long ((o_tiles_v 3).2.2.2.2)])), ((h_o_tiles_e 4), .inr (5, [.int ((o_tiles_v 4).1), .int ((o_tiles_v 4).2.1), .int ((o_tiles_v 4).2.2.1), .long ((o_tiles_v 4).2.2.2.1), .long ((o_tiles_v 4).2.2.2.2)])), ((h_o_tiles_e 5), .inr (5, [.int ((o_tiles_v 5).1), .int ((o_tiles_v 5).2.1), .int ((o_tiles_v 5).2.2.1), .long ((o_tiles_v 5).2.2.2.1), .long ((o_tiles_v 5).2.2.2.2)])), ((h_o_tiles_e 6), .inr (5, [.int ((o_tiles_v 6).1), .int ((o_tiles_v 6).2.1), .int ((o_tiles_v 6).2.2.1), .long ((o_tiles_v 6).2.2.2.1), .long ((o_tiles_v 6).2.2.2.2)]))]) (va_runV (As := [.ref h_p1]) (rest := []) ⟨hx, hb, hml, hown, hts⟩ (c_X6_copyFrom l dC dI ca sa h_p1 (h_o_tiles_e 7) s.heap.size p1_wide p1_high p1_hex p1_ones p1_twos ((o_tiles_v 7).1) ((o_tiles_v 7).2.1) ((o_tiles_v 7).2.2.1) ((o_tiles_v 7).2.2.2.1) ((o_tiles_v 7).2.2.2.2)  q41 hq41) (cwV 1 hts (ds_gV kw_321 kw_144 kw_145 kw_59 kw_146) rfl rfl rfl (by decide +kernel) ⟨Nat.le_of_ble_eq_true rfl, Nat.le_of_ble_eq_true rfl⟩) ⟨ds_blind, va_recv hK hP (ci := 5) (q0 := 9) rfl rfl, ds_at hP hD hK hE hS hA [10, 9] rfl rfl _⟩ rfl rfl hl.1 rfl (lv_room (Nat.le_of_ble_eq_true rfl)) dX4_keep_41 ⟨Nat.zero_le _, Nat.zero_le _⟩) hP hD hS hA [10, 9] [0, 1, 2, 3, 4, 5, 6, 7, 8] rfl rfl rfl (by decide) (fun H locs hP hD hS => ?_)
      have hP : va_P (dC, dI) vwCl [(h_o, .inr (3, [.ref h_o_tiles, .int o_next, .int o_size])), (h_o_tiles, .inl (ca 5, 8, .inr (.inr (.inr (.inr (fun j => some (h_o_tiles_e j))))))), ((h_o_tiles_e 0), .inr (5, [.int ((o_tiles_v 0).1), .int ((o_tiles_v 0).2.1), .int ((o_tiles_v 0).2.2.1), .long ((o_tiles_v 0).2.2.2.1), .long ((o_tiles_v 0).2.2.2.2)])), ((h_o_tiles_e 1), .inr (5, [.int ((o_tiles_v 1).1), .int ((o_tiles_v 1).2.1), .int ((o_tiles_v 1).2.2.1), .long ((o_tiles_v 1).2.2.2.1), .long ((o_tiles_v 1).2.2.2.2)])), ((h_o_tiles_e 2), .inr (5, [.int ((o_tiles_v 2).1), .int ((o_tiles_v 2).2.1), .int ((o_tiles_v 2).2.2.1), .long ((o_tiles_v 2).2.2.2.1), .long ((o_tiles_v 2).2.2.2.2)])), ((h_o_tiles_e 3), .inr (5, [.int ((o_tiles_v 3).1), .int ((o_tiles_v 3).2.1), .int ((o_tiles_v 3).2.2.1), .long ((o_tiles_v 3).2.2.2.1), .long ((o_tiles_v 3).2.2.2.2)])), ((h_o_tiles_e 4), .inr (5, [.int ((o_tiles_v 4).1), .int ((o_tiles_v 4).2.1), .int ((o_tiles_v 4).2.2.1), .long ((o_tiles_v 4).2.2.2.1), .long ((o_tiles_v 4).2.2.2.2)])), ((h_o_tiles_e 5), .inr (5, [.int ((o_tiles_v 5).1), .int ((o_tiles_v 5).2.1), .int ((o_tiles_v 5).2.2.1), .long ((o_tiles_v 5).2.2.2.1), .long ((o_tiles_v 5).2.2.2.2)])), ((h_o_tiles_e 6), .inr (5, [.int ((o_tiles_v 6).1), .int ((o_tiles_v 6).2.1), .int ((o_tiles_v 6).2.2.1), .long ((o_tiles_v 6).2.2.2.1), .long ((o_tiles_v 6).2.2.2.2)])), (h_p1, .inr (5, [.int p1_wide, .int p1_high, .int p1_hex, .long p1_ones, .long p1_twos])), ((h_o_tiles_e 7), .inr (5, [.int q41.1, .int q41.2.1, .int q41.2.2.1, .long q41.2.2.2.1, .long q41.2.2.2.2]))] H := hP
      have hD : va_D A [(h_o, .inr (3, [.ref h_o_tiles, .int o_next, .int o_size])), (h_o_tiles, .inl (ca 5, 8, .inr (.inr (.inr (.inr (fun j => some (h_o_tiles_e j))))))), ((h_o_tiles_e 0), .inr (5, [.int ((o_tiles_v 0).1), .int ((o_tiles_v 0).2.1), .int ((o_tiles_v 0).2.2.1), .long ((o_tiles_v 0).2.2.2.1), .long ((o_tiles_v 0).2.2.2.2)])), ((h_o_tiles_e 1), .inr (5, [.int ((o_tiles_v 1).1), .int ((o_tiles_v 1).2.1), .int ((o_tiles_v 1).2.2.1), .long ((o_tiles_v 1).2.2.2.1), .long ((o_tiles_v 1).2.2.2.2)])), ((h_o_tiles_e 2), .inr (5, [.int ((o_tiles_v 2).1), .int ((o_tiles_v 2).2.1), .int ((o_tiles_v 2).2.2.1), .long ((o_tiles_v 2).2.2.2.1), .long ((o_tiles_v 2).2.2.2.2)])), ((h_o_tiles_e 3), .inr (5, [.int ((o_tiles_v 3).1), .int ((o_tiles_v 3).2.1), .int ((o_tiles_v 3).2.2.1), .long ((o_tiles_v 3).2.2.2.1), .long ((o_tiles_v 3).2.2.2.2)])), ((h_o_tiles_e 4), .inr (5, [.int ((o_tiles_v 4).1), .int ((o_tiles_v 4).2.1), .int ((o_tiles_v 4).2.2.1), .long ((o_tiles_v 4).2.2.2.1), .long ((o_tiles_v 4).2.2.2.2)])), ((h_o_tiles_e 5), .inr (5, [.int ((o_tiles_v 5).1), .int ((o_tiles_v 5).2.1), .int ((o_tiles_v 5).2.2.1), .long ((o_tiles_v 5).2.2.2.1), .long ((o_tiles_v 5).2.2.2.2)])), ((h_o_tiles_e 6), .inr (5, [.int ((o_tiles_v 6).1), .int ((o_tiles_v 6).2.1), .int ((o_tiles_v 6).2.2.1), .long ((o_tiles_v 6).2.2.2.1), .long ((o_tiles_v 6).2.2.2.2)])), (h_p1, .inr (5, [.int p1_wide, .int p1_high, .int p1_hex, .long p1_ones, .long p1_twos])), ((h_o_tiles_e 7), .inr (5, [.int q41.1, .int q41.2.1, .int q41.2.2.1, .long q41.2.2.2.1, .long q41.2.2.2.2]))] := hD
      refine lv_aload_n hx hb dX4_keep_44 rfl (lv_at hl 0 rfl) ?_
      refine lv_aload_n hx hb dX4_keep_45 rfl (lv_at hl 0 rfl) ?_
      refine va_get (D := (dC, dI)) (ci := 3) (v := .int o_next) (C := RX4) (T := TX4) (N := 3) hx hb hts (fun w h => List.mem_cons_of_mem _ (kc_X4 w h)) hown hK hP 0 rfl rfl 1 (by decide) (hg kw_319) (fun _ h9 => h9) rfl dX4_keep_46 ?_
      refine lv_iconst (v := 1) hx hb dX4_keep_49 (by decide) ?_
      refine lv_iadd hx hb dX4_keep_50 ?_
      refine lv_bipush (v := 8) hx hb dX4_keep_51 (by decide) ?_
      refine lv_irem hx hb dX4_keep_53 (by decide) ?_
      obtain ⟨x54, hx_54, hf⟩ := ds_ob hf
      refine ds_nmi hx_54 ?_
      refine va_put (D := (dC, dI)) (ci := 3) (v := .int x54) (ty := tyX4 1) (C := RX4) (T := TX4) (N := 3) hx hb hts (fun w h => List.mem_cons_of_mem _ (kc_X4 w h)) tyX4 tyX4_ok nmX4 hown hK hP hD hS 0 rfl rfl 1 (by decide) (hg kw_319) (fun _ h9 => h9) rfl (by decide +kernel) rfl rfl (Nat.le_of_ble_eq_true rfl) dX4_keep_54 (fun H locs hP hD hS => ?_)
      have hP : va_P (dC, dI) vwCl [(h_o, .inr (3, [.ref h_o_tiles, .int x54, .int o_size])), (h_o_tiles, .inl (ca 5, 8, .inr (.inr (.inr (.inr (fun j => some (h_o_tiles_e j))))))), ((h_o_tiles_e 0), .inr (5, [.int ((o_tiles_v 0).1), .int ((o_tiles_v 0).2.1), .int ((o_tiles_v 0).2.2.1), .long ((o_tiles_v 0).2.2.2.1), .long ((o_tiles_v 0).2.2.2.2)])), ((h_o_tiles_e 1), .inr (5, [.int ((o_tiles_v 1).1), .int ((o_tiles_v 1).2.1), .int ((o_tiles_v 1).2.2.1), .long ((o_tiles_v 1).2.2.2.1), .long ((o_tiles_v 1).2.2.2.2)])), ((h_o_tiles_e 2), .inr (5, [.int ((o_tiles_v 2).1), .int ((o_tiles_v 2).2.1), .int ((o_tiles_v 2).2.2.1), .long ((o_tiles_v 2).2.2.2.1), .long ((o_tiles_v 2).2.2.2.2)])), ((h_o_tiles_e 3), .inr (5, [.int ((o_tiles_v 3).1), .int ((o_tiles_v 3).2.1), .int ((o_tiles_v 3).2.2.1), .long ((o_tiles_v 3).2.2.2.1), .long ((o_tiles_v 3).2.2.2.2)])), ((h_o_tiles_e 4), .inr (5, [.int ((o_tiles_v 4).1), .int ((o_tiles_v 4).2.1), .int ((o_tiles_v 4).2.2.1), .long ((o_tiles_v 4).2.2.2.1), .long ((o_tiles_v 4).2.2.2.2)])), ((h_o_tiles_e 5), .inr (5, [.int ((o_tiles_v 5).1), .int ((o_tiles_v 5).2.1), .int ((o_tiles_v 5).2.2.1), .long ((o_tiles_v 5).2.2.2.1), .long ((o_tiles_v 5).2.2.2.2)])), ((h_o_tiles_e 6), .inr (5, [.int ((o_tiles_v 6).1), .int ((o_tiles_v 6).2.1), .int ((o_tiles_v 6).2.2.1), .long ((o_tiles_v 6).2.2.2.1), .long ((o_tiles_v 6).2.2.2.2)])), (h_p1, .inr (5, [.int p1_wide, .int p1_high, .int p1_hex, .long p1_ones, .long p1_twos])), ((h_o_tiles_e 7), .inr (5, [.int q41.1, .int q41.2.1, .int q41.2.2.1, .long q41.2.2.2.1, .long q41.2.2.2.2]))] H := hP
      have hD : va_D A [(h_o, .inr (3, [.ref h_o_tiles, .int x54, .int o_size])), (h_o_tiles, .inl (ca 5, 8, .inr (.inr (.inr (.inr (fun j => some (h_o_tiles_e j))))))), ((h_o_tiles_e 0), .inr (5, [.int ((o_tiles_v 0).1), .int ((o_tiles_v 0).2.1), .int ((o_tiles_v 0).2.2.1), .long ((o_tiles_v 0).2.2.2.1), .long ((o_tiles_v 0).2.2.2.2)])), ((h_o_tiles_e 1), .inr (5, [.int ((o_tiles_v 1).1), .int ((o_tiles_v 1).2.1), .int ((o_tiles_v 1).2.2.1), .long ((o_tiles_v 1).2.2.2.1), .long ((o_tiles_v 1).2.2.2.2)])), ((h_o_tiles_e 2), .inr (5, [.int ((o_tiles_v 2).1), .int ((o_tiles_v 2).2.1), .int ((o_tiles_v 2).2.2.1), .long ((o_tiles_v 2).2.2.2.1), .long ((o_tiles_v 2).2.2.2.2)])), ((h_o_tiles_e 3), .inr (5, [.int ((o_tiles_v 3).1), .int ((o_tiles_v 3).2.1), .int ((o_tiles_v 3).2.2.1), .long ((o_tiles_v 3).2.2.2.1), .long ((o_tiles_v 3).2.2.2.2)])), ((h_o_tiles_e 4), .inr (5, [.int ((o_tiles_v 4).1), .int ((o_tiles_v 4).2.1), .int ((o_tiles_v 4).2.2.1), .long ((o_tiles_v 4).2.2.2.1), .long ((o_tiles_v 4).2.2.2.2)])), ((h_o_tiles_e 5), .inr (5, [.int ((o_tiles_v 5).1), .int ((o_tiles_v 5).2.1), .int ((o_tiles_v 5).2.2.1), .long ((o_tiles_v 5).2.2.2.1), .long ((o_tiles_v 5).2.2.2.2)])), ((h_o_tiles_e 6), .inr (5, [.int ((o_tiles_v 6).1), .int ((o_tiles_v 6).2.1), .int ((o_tiles_v 6).2.2.1), .long ((o_tiles_v 6).2.2.2.1), .long ((o_tiles_v 6).2.2.2.2)])), (h_p1, .inr (5, [.int p1_wide, .int p1_high, .int p1_hex, .long p1_ones, .long p1_twos])), ((h_o_tiles_e 7), .inr (5, [.int q41.1, .int q41.2.1, .int q41.2.2.1, .long q41.2.2.2.1, .long q41.2.2.2.2]))] := hD
      refine lv_aload_n hx hb dX4_keep_57 rfl (lv_at hl 0 rfl) ?_
      refine lv_aload_n hx hb dX4_keep_58 rfl (lv_at hl 0 rfl) ?_
      refine va_get (D := (dC, dI)) (ci := 3) (v := .int o_size) (C := RX4) (T := TX4) (N := 3) hx hb hts (fun w h => List.mem_cons_of_mem _ (kc_X4 w h)) hown hK hP 0 rfl rfl 2 (by decide) (hg kw_315) (fun _ h9 => h9) rfl dX4_keep_59 ?_
      refine lv_iconst (v := 1) hx hb dX4_keep_62 (by decide) ?_
      refine lv_iadd hx hb dX4_keep_63 ?_
      refine lv_bipush (v := 8) hx hb dX4_keep_64 (by decide) ?_
      refine va_mmin hx hb (hml.trans hl.1.symm) hown (hg kw_322) (hg kw_323) (hg kw_324) (hg kw_325) (Nat.le_of_ble_eq_true rfl) (Nat.le_of_ble_eq_true rfl) (Nat.zero_le _) (Nat.zero_le _) dX4_keep_66 ?_
      obtain ⟨x69, hx_69, hf⟩ := ds_ob hf
      refine ds_nmi hx_69 ?_
      refine va_put (D := (dC, dI)) (ci := 3) (v := .int x69) (ty := tyX4 2) (C := RX4) (T := TX4) (N := 3) hx hb hts (fun w h => List.mem_cons_of_mem _ (kc_X4 w h)) tyX4 tyX4_ok nmX4 hown hK hP hD hS 0 rfl rfl 2 (by decide) (hg kw_315) (fun _ h9 => h9) rfl (by decide +kernel) rfl rfl (Nat.le_of_ble_eq_true rfl) dX4_keep_69 (fun H locs hP hD hS => ?_)
      have hP : va_P (dC, dI) vwCl [(h_o, .inr (3, [.ref h_o_tiles, .int x54, .int x69])), (h_o_tiles, .inl (ca 5, 8, .inr (.inr (.inr (.inr (fun j => some (h_o_tiles_e j))))))), ((h_o_tiles_e 0), .inr (5, [.int ((o_tiles_v 0).1), .int ((o_tiles_v 0).2.1), .int ((o_tiles_v 0).2.2.1), .long ((o_tiles_v 0).2.2.2.1), .long ((o_tiles_v 0).2.2.2.2)])), ((h_o_tiles_e 1), .inr (5, [.int ((o_tiles_v 1).1), .int ((o_tiles_v 1).2.1), .int ((o_tiles_v 1).2.2.1), .long ((o_tiles_v 1).2.2.2.1), .long ((o_tiles_v 1).2.2.2.2)])), ((h_o_tiles_e 2), .inr (5, [.int ((o_tiles_v 2).1), .int ((o_tiles_v 2).2.1), .int ((o_tiles_v 2).2.2.1), .long ((o_tiles_v 2).2.2.2.1), .long ((o_tiles_v 2).2.2.2.2)])), ((h_o_tiles_e 3), .inr (5, [.int ((o_tiles_v 3).1), .int ((o_tiles_v 3).2.1), .int ((o_tiles_v 3).2.2.1), .long ((o_tiles_v 3).2.2.2.1), .long ((o_tiles_v 3).2.2.2.2)])), ((h_o_tiles_e 4), .inr (5, [.int ((o_tiles_v 4).1), .int ((o_tiles_v 4).2.1), .int ((o_tiles_v 4).2.2.1), .long ((o_tiles_v 4).2.2.2.1), .long ((o_tiles_v 4).2.2.2.2)])), ((h_o_tiles_e 5), .inr (5, [.int ((o_tiles_v 5).1), .int ((o_tiles_v 5).2.1), .int ((o_tiles_v 5).2.2.1), .long ((o_tiles_v 5).2.2.2.1), .long ((o_tiles_v 5).2.2.2.2)])), ((h_o_tiles_e 6), .inr (5, [.int ((o_tiles_v 6).1), .int ((o_tiles_v 6).2.1), .int ((o_tiles_v 6).2.2.1), .long ((o_tiles_v 6).2.2.2.1), .long ((o_tiles_v 6).2.2.2.2)])), (h_p1, .inr (5, [.int p1_wide, .int p1_high, .int p1_hex, .long p1_ones, .long p1_twos])), ((h_o_tiles_e 7), .inr (5, [.int q41.1, .int q41.2.1, .int q41.2.2.1, .long q41.2.2.2.1, .long q41.2.2.2.2]))] H := hP
      have hD : va_D A [(h_o, .inr (3, [.ref h_o_tiles, .int x54, .int x69])), (h_o_tiles, .inl (ca 5, 8, .inr (.inr (.inr (.inr (fun j => some (h_o_tiles_e j))))))), ((h_o_tiles_e 0), .inr (5, [.int ((o_tiles_v 0).1), .int ((o_tiles_v 0).2.1), .int ((o_tiles_v 0).2.2.1), .long ((o_tiles_v 0).2.2.2.1), .long ((o_tiles_v 0).2.2.2.2)])), ((h_o_tiles_e 1), .inr (5, [.int ((o_tiles_v 1).1), .int ((o_tiles_v 1).2.1), .int ((o_tiles_v 1).2.2.1), .long ((o_tiles_v 1).2.2.2.1), .long ((o_tiles_v 1).2.2.2.2)])), ((h_o_tiles_e 2), .inr (5, [.int ((o_tiles_v 2).1), .int ((o_tiles_v 2).2.1), .int ((o_tiles_v 2).2.2.1), .long ((o_tiles_v 2).2.2.2.1), .long ((o_tiles_v 2).2.2.2.2)])), ((h_o_tiles_e 3), .inr (5, [.int ((o_tiles_v 3).1), .int ((o_tiles_v 3).2.1), .int ((o_tiles_v 3).2.2.1), .long ((o_tiles_v 3).2.2.2.1), .long ((o_tiles_v 3).2.2.2.2)])), ((h_o_tiles_e 4), .inr (5, [.int ((o_tiles_v 4).1), .int ((o_tiles_v 4).2.1), .int ((o_tiles_v 4).2.2.1), .long ((o_tiles_v 4).2.2.2.1), .long ((o_tiles_v 4).2.2.2.2)])), ((h_o_tiles_e 5), .inr (5, [.int ((o_tiles_v 5).1), .int ((o_tiles_v 5).2.1), .int ((o_tiles_v 5).2.2.1), .long ((o_tiles_v 5).2.2.2.1), .long ((o_tiles_v 5).2.2.2.2)])), ((h_o_tiles_e 6), .inr (5, [.int ((o_tiles_v 6).1), .int ((o_tiles_v 6).2.1), .int ((o_tiles_v 6).2.2.1), .long ((o_tiles_v 6).2.2.2.1), .long ((o_tiles_v 6).2.2.2.2)])), (h_p1, .inr (5, [.int p1_wide, .int p1_high, .int p1_hex, .long p1_ones, .long p1_twos])), ((h_o_tiles_e 7), .inr (5, [.int q41.1, .int q41.2.1, .int q41.2.2.1, .long q41.2.2.2.1, .long q41.2.2.2.2]))] := hD
      have hf := Option.some.inj hf
      subst hf
      rw [eG0] at hG
      have hG : _ = res := hG
      subst hG
      exact W.vret hx hb hr (fun t ht hW => ⟨⟨(), rfl, trivial, by rw [ht]; exact (hP.sub [0, 1, 2, 3, 4, 5, 6, 7, 8, 10, 9] rfl), (hD.sub [0, 1, 2, 3, 4, 5, 6, 7, 8, 10, 9] rfl rfl)⟩, hS.F ht⟩) hS.2.2 dX4_keep_72
theorem dX4_giveBack_0 : decode cX4_giveBack 0 = .ok (.aload_n 0, 1) := by decide +kernel
theorem dX4_giveBack_1 : decode cX4_giveBack 1 = .ok (.getfield 20, 3) := by decide +kernel
theorem dX4_giveBack_4 : decode cX4_giveBack 4 = .ok (.bipush 8, 2) := by decide +kernel
theorem dX4_giveBack_6 : decode cX4_giveBack 6 = .ok (.iadd, 1) := by decide +kernel
theorem dX4_giveBack_7 : decode cX4_giveBack 7 = .ok (.iconst 1, 1) := by decide +kernel
theorem dX4_giveBack_8 : decode cX4_giveBack 8 = .ok (.isub, 1) := by decide +kernel
theorem dX4_giveBack_9 : decode cX4_giveBack 9 = .ok (.bipush 8, 2) := by decide +kernel
theorem dX4_giveBack_11 : decode cX4_giveBack 11 = .ok (.irem, 1) := by decide +kernel
theorem dX4_giveBack_12 : decode cX4_giveBack 12 = .ok (.istore_n 2, 1) := by decide +kernel
theorem dX4_giveBack_13 : decode cX4_giveBack 13 = .ok (.aload_n 0, 1) := by decide +kernel
theorem dX4_giveBack_14 : decode cX4_giveBack 14 = .ok (.getfield 16, 3) := by decide +kernel
theorem dX4_giveBack_17 : decode cX4_giveBack 17 = .ok (.ifCond .eq 25, 3) := by decide +kernel
theorem dX4_giveBack_20 : decode cX4_giveBack 20 = .ok (.iload_n 2, 1) := by decide +kernel
theorem dX4_giveBack_21 : decode cX4_giveBack 21 = .ok (.ifCond .lt 21, 3) := by decide +kernel
theorem dX4_giveBack_24 : decode cX4_giveBack 24 = .ok (.iload_n 2, 1) := by decide +kernel
theorem dX4_giveBack_25 : decode cX4_giveBack 25 = .ok (.aload_n 0, 1) := by decide +kernel
theorem dX4_giveBack_26 : decode cX4_giveBack 26 = .ok (.getfield 11, 3) := by decide +kernel
theorem dX4_giveBack_29 : decode cX4_giveBack 29 = .ok (.arraylength, 1) := by decide +kernel
theorem dX4_giveBack_30 : decode cX4_giveBack 30 = .ok (.if_icmp .ge 12, 3) := by decide +kernel
theorem dX4_giveBack_33 : decode cX4_giveBack 33 = .ok (.aload_n 0, 1) := by decide +kernel
theorem dX4_giveBack_34 : decode cX4_giveBack 34 = .ok (.getfield 11, 3) := by decide +kernel
theorem dX4_giveBack_37 : decode cX4_giveBack 37 = .ok (.iload_n 2, 1) := by decide +kernel
theorem dX4_giveBack_38 : decode cX4_giveBack 38 = .ok (.aaload, 1) := by decide +kernel
theorem dX4_giveBack_39 : decode cX4_giveBack 39 = .ok (.ifnonnull 5, 3) := by decide +kernel
theorem dX4_giveBack_42 : decode cX4_giveBack 42 = .ok (.iconst 0, 1) := by decide +kernel
theorem dX4_giveBack_43 : decode cX4_giveBack 43 = .ok (.ireturn, 1) := by decide +kernel
theorem dX4_giveBack_44 : decode cX4_giveBack 44 = .ok (.aload_n 1, 1) := by decide +kernel
theorem dX4_giveBack_45 : decode cX4_giveBack 45 = .ok (.aload_n 0, 1) := by decide +kernel
theorem dX4_giveBack_46 : decode cX4_giveBack 46 = .ok (.getfield 11, 3) := by decide +kernel
theorem dX4_giveBack_49 : decode cX4_giveBack 49 = .ok (.iload_n 2, 1) := by decide +kernel
theorem dX4_giveBack_50 : decode cX4_giveBack 50 = .ok (.aaload, 1) := by decide +kernel
theorem dX4_giveBack_51 : decode cX4_giveBack 51 = .ok (.invokevirtual 23, 3) := by decide +kernel
theorem dX4_giveBack_54 : decode cX4_giveBack 54 = .ok (.aload_n 0, 1) := by decide +kernel
theorem dX4_giveBack_55 : decode cX4_giveBack 55 = .ok (.iload_n 2, 1) := by decide +kernel
theorem dX4_giveBack_56 : decode cX4_giveBack 56 = .ok (.putfield 20, 3) := by decide +kernel
theorem dX4_giveBack_59 : decode cX4_giveBack 59 = .ok (.aload_n 0, 1) := by decide +kernel
theorem dX4_giveBack_60 : decode cX4_giveBack 60 = .ok (.dup, 1) := by decide +kernel
theorem dX4_giveBack_61 : decode cX4_giveBack 61 = .ok (.getfield 16, 3) := by decide +kernel
theorem dX4_giveBack_64 : decode cX4_giveBack 64 = .ok (.iconst 1, 1) := by decide +kernel
theorem dX4_giveBack_65 : decode cX4_giveBack 65 = .ok (.isub, 1) := by decide +kernel
theorem dX4_giveBack_66 : decode cX4_giveBack 66 = .ok (.putfield 16, 3) := by decide +kernel
theorem dX4_giveBack_69 : decode cX4_giveBack 69 = .ok (.iconst 1, 1) := by decide +kernel
theorem dX4_giveBack_70 : decode cX4_giveBack 70 = .ok (.ireturn, 1) := by decide +kernel
def fX4_giveBack (o_next : Int32) (o_size : Int32) (o_tiles_v : Nat → ds_TV) (p1_wide : Int32) (p1_high : Int32) (p1_hex : Int32) (p1_ones : Int64) (p1_twos : Int64) : Option (Int32 × Int32 × Int32 × Int32 × Int32 × Int32 × Int64 × Int64) :=
  Option.bind (some ((ds_rem ((o_next + (8 : Int32)) - (1 : Int32)) (8 : Int32)))) fun x12 => if o_size = 0 then some ((0 : Int32), o_next, o_size, p1_wide, p1_high, p1_hex, p1_ones, p1_twos) else if x12 < 0 then some ((0 : Int32), o_next, o_size, p1_wide, p1_high, p1_hex, p1_ones, p1_twos) else if (8 : Int32) ≤ x12 then some ((0 : Int32), o_next, o_size, p1_wide, p1_high, p1_hex, p1_ones, p1_twos) else if ds_in x12 8 = true then if x12 = 0 then Option.bind (fX6_copyFrom ((o_tiles_v 0).1) ((o_tiles_v 0).2.1) ((o_tiles_v 0).2.2.1) ((o_tiles_v 0).2.2.2.1) ((o_tiles_v 0).2.2.2.2)) fun q51 => some ((1 : Int32), x12, (o_size - (1 : Int32)), q51.1, q51.2.1, q51.2.2.1, q51.2.2.2.1, q51.2.2.2.2) else if x12 = 1 then Option.bind (fX6_copyFrom ((o_tiles_v 1).1) ((o_tiles_v 1).2.1) ((o_tiles_v 1).2.2.1) ((o_tiles_v 1).2.2.2.1) ((o_tiles_v 1).2.2.2.2)) fun q51 => some ((1 : Int32), x12, (o_size - (1 : Int32)), q51.1, q51.2.1, q51.2.2.1, q51.2.2.2.1, q51.2.2.2.2) else if x12 = 2 then Option.bind (fX6_copyFrom ((o_tiles_v 2).1) ((o_tiles_v 2).2.1) ((o_tiles_v 2).2.2.1) ((o_tiles_v 2).2.2.2.1) ((o_tiles_v 2).2.2.2.2)) fun q51 => some ((1 : Int32), x12, (o_size - (1 : Int32)), q51.1, q51.2.1, q51.2.2.1, q51.2.2.2.1, q51.2.2.2.2) else if x12 = 3 then Option.bind (fX6_copyFrom ((o_tiles_v 3).1) ((o_tiles_v 3).2.1) ((o_tiles_v 3).2.2.1) ((o_tiles_v 3).2.2.2.1) ((o_tiles_v 3).2.2.2.2)) fun q51 => some ((1 : Int32), x12, (o_size - (1 : Int32)), q51.1, q51.2.1, q51.2.2.1, q51.2.2.2.1, q51.2.2.2.2) else if x12 = 4 then Option.bind (fX6_copyFrom ((o_tiles_v 4).1) ((o_tiles_v 4).2.1) ((o_tiles_v 4).2.2.1) ((o_tiles_v 4).2.2.2.1) ((o_tiles_v 4).2.2.2.2)) fun q51 => some ((1 : Int32), x12, (o_size - (1 : Int32)), q51.1, q51.2.1, q51.2.2.1, q51.2.2.2.1, q51.2.2.2.2) else if x12 = 5 then Option.bind (fX6_copyFrom ((o_tiles_v 5).1) ((o_tiles_v 5).2.1) ((o_tiles_v 5).2.2.1) ((o_tiles_v 5).2.2.2.1) ((o_tiles_v 5).2.2.2.2)) fun q51 => some ((1 : Int32), x12, (o_size - (1 : Int32)), q51.1, q51.2.1, q51.2.2.1, q51.2.2.2.1, q51.2.2.2.2) else if x12 = 6 then Option.bind (fX6_copyFrom ((o_tiles_v 6).1) ((o_tiles_v 6).2.1) ((o_tiles_v 6).2.2.1) ((o_tiles_v 6).2.2.2.1) ((o_tiles_v 6).2.2.2.2)) fun q51 => some ((1 : Int32), x12, (o_size - (1 : Int32)), q51.1, q51.2.1, q51.2.2.1, q51.2.2.2.1, q51.2.2.2.2) else Option.bind (fX6_copyFrom ((o_tiles_v 7).1) ((o_tiles_v 7).2.1) ((o_tiles_v 7).2.2.1) ((o_tiles_v 7).2.2.2.1) ((o_tiles_v 7).2.2.2.2)) fun q51 => some ((1 : Int32), x12, (o_size - (1 : Int32)), q51.1, q51.2.1, q51.2.2.1, q51.2.2.2.1, q51.2.2.2.2) else none
set_option maxHeartbeats 4000000 in
set_option maxRecDepth 100000 in
theorem c_X4_giveBack (l : Launch) (dC : Nat → ClassId) (dI : Nat → Nat → Nat) (ca : Nat → ClassId) (sa : Nat → Nat) (h_o : Nat) (h_o_tiles : Nat) (h_o_tiles_e : Nat → Nat) (h_p1 : Nat) (sz : Nat) (o_next : Int32) (o_size : Int32) (o_tiles_v : Nat → ds_TV) (p1_wide : Int32) (p1_high : Int32) (p1_hex : Int32) (p1_ones : Int64) (p1_twos : Int64) (res : Int32 × Int32 × Int32 × Int32 × Int32 × Int32 × Int64 × Int64) (hf : fX4_giveBack o_next o_size o_tiles_v p1_wide p1_high p1_hex p1_ones p1_twos = some res) : Met l yX4_giveBack (Cond.code yX4_giveBack cX4_giveBack 3 (some .boolean) :: ds_gw) { frames := 1, cells := 0, slots := 0, locals := 21 } (va_Pc [.ref h_o, .ref h_p1] (ds_Pre dC dI ca sa [(h_o, .inr (3, [.ref h_o_tiles, .int o_next, .int o_size])), (h_o_tiles, .inl (ca 5, 8, .inr (.inr (.inr (.inr (fun j => some (h_o_tiles_e j))))))), ((h_o_tiles_e 0), .inr (5, [.int ((o_tiles_v 0).1), .int ((o_tiles_v 0).2.1), .int ((o_tiles_v 0).2.2.1), .long ((o_tiles_v 0).2.2.2.1), .long ((o_tiles_v 0).2.2.2.2)])), ((h_o_tiles_e 1), .inr (5, [.int ((o_tiles_v 1).1), .int ((o_tiles_v 1).2.1), .int ((o_tiles_v 1).2.2.1), .long ((o_tiles_v 1).2.2.2.1), .long ((o_tiles_v 1).2.2.2.2)])), ((h_o_tiles_e 2), .inr (5, [.int ((o_tiles_v 2).1), .int ((o_tiles_v 2).2.1), .int ((o_tiles_v 2).2.2.1), .long ((o_tiles_v 2).2.2.2.1), .long ((o_tiles_v 2).2.2.2.2)])), ((h_o_tiles_e 3), .inr (5, [.int ((o_tiles_v 3).1), .int ((o_tiles_v 3).2.1), .int ((o_tiles_v 3).2.2.1), .long ((o_tiles_v 3).2.2.2.1), .long ((o_tiles_v 3).2.2.2.2)])), ((h_o_tiles_e 4), .inr (5, [.int ((o_tiles_v 4).1), .int ((o_tiles_v 4).2.1), .int ((o_tiles_v 4).2.2.1), .long ((o_tiles_v 4).2.2.2.1), .long ((o_tiles_v 4).2.2.2.2)])), ((h_o_tiles_e 5), .inr (5, [.int ((o_tiles_v 5).1), .int ((o_tiles_v 5).2.1), .int ((o_tiles_v 5).2.2.1), .long ((o_tiles_v 5).2.2.2.1), .long ((o_tiles_v 5).2.2.2.2)])), ((h_o_tiles_e 6), .inr (5, [.int ((o_tiles_v 6).1), .int ((o_tiles_v 6).2.1), .int ((o_tiles_v 6).2.2.1), .long ((o_tiles_v 6).2.2.2.1), .long ((o_tiles_v 6).2.2.2.2)])), ((h_o_tiles_e 7), .inr (5, [.int ((o_tiles_v 7).1), .int ((o_tiles_v 7).2.1), .int ((o_tiles_v 7).2.2.1), .long ((o_tiles_v 7).2.2.2.1), .long ((o_tiles_v 7).2.2.2.2)])), (h_p1, .inr (5, [.int p1_wide, .int p1_high, .int p1_hex, .long p1_ones, .long p1_twos]))] sz)) (va_Qi (fun r (_ : Unit) => r = res.1) (ds_B dC dI (va_A [(h_o, .inr (3, [.ref h_o_tiles, .int o_next, .int o_size])), (h_o_tiles, .inl (ca 5, 8, .inr (.inr (.inr (.inr (fun j => some (h_o_tiles_e j))))))), ((h_o_tiles_e 0), .inr (5, [.int ((o_tiles_v 0).1), .int ((o_tiles_v 0).2.1), .int ((o_tiles_v 0).2.2.1), .long ((o_tiles_v 0).2.2.2.1), .long ((o_tiles_v 0).2.2.2.2)])), ((h_o_tiles_e 1), .inr (5, [.int ((o_tiles_v 1).1), .int ((o_tiles_v 1).2.1), .int ((o_tiles_v 1).2.2.1), .long ((o_tiles_v 1).2.2.2.1), .long ((o_tiles_v 1).2.2.2.2)])), ((h_o_tiles_e 2), .inr (5, [.int ((o_tiles_v 2).1), .int ((o_tiles_v 2).2.1), .int ((o_tiles_v 2).2.2.1), .long ((o_tiles_v 2).2.2.2.1), .long ((o_tiles_v 2).2.2.2.2)])), ((h_o_tiles_e 3), .inr (5, [.int ((o_tiles_v 3).1), .int ((o_tiles_v 3).2.1), .int ((o_tiles_v 3).2.2.1), .long ((o_tiles_v 3).2.2.2.1), .long ((o_tiles_v 3).2.2.2.2)])), ((h_o_tiles_e 4), .inr (5, [.int ((o_tiles_v 4).1), .int ((o_tiles_v 4).2.1), .int ((o_tiles_v 4).2.2.1), .long ((o_tiles_v 4).2.2.2.1), .long ((o_tiles_v 4).2.2.2.2)])), ((h_o_tiles_e 5), .inr (5, [.int ((o_tiles_v 5).1), .int ((o_tiles_v 5).2.1), .int ((o_tiles_v 5).2.2.1), .long ((o_tiles_v 5).2.2.2.1), .long ((o_tiles_v 5).2.2.2.2)])), ((h_o_tiles_e 6), .inr (5, [.int ((o_tiles_v 6).1), .int ((o_tiles_v 6).2.1), .int ((o_tiles_v 6).2.2.1), .long ((o_tiles_v 6).2.2.2.1), .long ((o_tiles_v 6).2.2.2.2)])), ((h_o_tiles_e 7), .inr (5, [.int ((o_tiles_v 7).1), .int ((o_tiles_v 7).2.1), .int ((o_tiles_v 7).2.2.1), .long ((o_tiles_v 7).2.2.2.1), .long ((o_tiles_v 7).2.2.2.2)])), (h_p1, .inr (5, [.int p1_wide, .int p1_high, .int p1_hex, .long p1_ones, .long p1_twos]))] sz) [(h_o, .inr (3, [.ref h_o_tiles, .int res.2.1, .int res.2.2.1])), (h_o_tiles, .inl (ca 5, 8, .inr (.inr (.inr (.inr (fun j => some (h_o_tiles_e j))))))), ((h_o_tiles_e 0), .inr (5, [.int ((o_tiles_v 0).1), .int ((o_tiles_v 0).2.1), .int ((o_tiles_v 0).2.2.1), .long ((o_tiles_v 0).2.2.2.1), .long ((o_tiles_v 0).2.2.2.2)])), ((h_o_tiles_e 1), .inr (5, [.int ((o_tiles_v 1).1), .int ((o_tiles_v 1).2.1), .int ((o_tiles_v 1).2.2.1), .long ((o_tiles_v 1).2.2.2.1), .long ((o_tiles_v 1).2.2.2.2)])), ((h_o_tiles_e 2), .inr (5, [.int ((o_tiles_v 2).1), .int ((o_tiles_v 2).2.1), .int ((o_tiles_v 2).2.2.1), .long ((o_tiles_v 2).2.2.2.1), .long ((o_tiles_v 2).2.2.2.2)])), ((h_o_tiles_e 3), .inr (5, [.int ((o_tiles_v 3).1), .int ((o_tiles_v 3).2.1), .int ((o_tiles_v 3).2.2.1), .long ((o_tiles_v 3).2.2.2.1), .long ((o_tiles_v 3).2.2.2.2)])), ((h_o_tiles_e 4), .inr (5, [.int ((o_tiles_v 4).1), .int ((o_tiles_v 4).2.1), .int ((o_tiles_v 4).2.2.1), .long ((o_tiles_v 4).2.2.2.1), .long ((o_tiles_v 4).2.2.2.2)])), ((h_o_tiles_e 5), .inr (5, [.int ((o_tiles_v 5).1), .int ((o_tiles_v 5).2.1), .int ((o_tiles_v 5).2.2.1), .long ((o_tiles_v 5).2.2.2.1), .long ((o_tiles_v 5).2.2.2.2)])), ((h_o_tiles_e 6), .inr (5, [.int ((o_tiles_v 6).1), .int ((o_tiles_v 6).2.1), .int ((o_tiles_v 6).2.2.1), .long ((o_tiles_v 6).2.2.2.1), .long ((o_tiles_v 6).2.2.2.2)])), ((h_o_tiles_e 7), .inr (5, [.int ((o_tiles_v 7).1), .int ((o_tiles_v 7).2.1), .int ((o_tiles_v 7).2.2.1), .long ((o_tiles_v 7).2.2.2.1), .long ((o_tiles_v 7).2.2.2.2)])), (h_p1, .inr (5, [.int res.2.2.2.1, .int res.2.2.2.2.1, .int res.2.2.2.2.2.1, .long res.2.2.2.2.2.2.1, .long res.2.2.2.2.2.2.2]))]) (va_A [(h_o, .inr (3, [.ref h_o_tiles, .int o_next, .int o_size])), (h_o_tiles, .inl (ca 5, 8, .inr (.inr (.inr (.inr (fun j => some (h_o_tiles_e j))))))), ((h_o_tiles_e 0), .inr (5, [.int ((o_tiles_v 0).1), .int ((o_tiles_v 0).2.1), .int ((o_tiles_v 0).2.2.1), .long ((o_tiles_v 0).2.2.2.1), .long ((o_tiles_v 0).2.2.2.2)])), ((h_o_tiles_e 1), .inr (5, [.int ((o_tiles_v 1).1), .int ((o_tiles_v 1).2.1), .int ((o_tiles_v 1).2.2.1), .long ((o_tiles_v 1).2.2.2.1), .long ((o_tiles_v 1).2.2.2.2)])), ((h_o_tiles_e 2), .inr (5, [.int ((o_tiles_v 2).1), .int ((o_tiles_v 2).2.1), .int ((o_tiles_v 2).2.2.1), .long ((o_tiles_v 2).2.2.2.1), .long ((o_tiles_v 2).2.2.2.2)])), ((h_o_tiles_e 3), .inr (5, [.int ((o_tiles_v 3).1), .int ((o_tiles_v 3).2.1), .int ((o_tiles_v 3).2.2.1), .long ((o_tiles_v 3).2.2.2.1), .long ((o_tiles_v 3).2.2.2.2)])), ((h_o_tiles_e 4), .inr (5, [.int ((o_tiles_v 4).1), .int ((o_tiles_v 4).2.1), .int ((o_tiles_v 4).2.2.1), .long ((o_tiles_v 4).2.2.2.1), .long ((o_tiles_v 4).2.2.2.2)])), ((h_o_tiles_e 5), .inr (5, [.int ((o_tiles_v 5).1), .int ((o_tiles_v 5).2.1), .int ((o_tiles_v 5).2.2.1), .long ((o_tiles_v 5).2.2.2.1), .long ((o_tiles_v 5).2.2.2.2)])), ((h_o_tiles_e 6), .inr (5, [.int ((o_tiles_v 6).1), .int ((o_tiles_v 6).2.1), .int ((o_tiles_v 6).2.2.1), .long ((o_tiles_v 6).2.2.2.1), .long ((o_tiles_v 6).2.2.2.2)])), ((h_o_tiles_e 7), .inr (5, [.int ((o_tiles_v 7).1), .int ((o_tiles_v 7).2.1), .int ((o_tiles_v 7).2.2.1), .long ((o_tiles_v 7).2.2.2.1), .long ((o_tiles_v 7).2.2.2.2)])), (h_p1, .inr (5, [.int p1_wide, .int p1_high, .int p1_hex, .long p1_ones, .long p1_twos]))] sz)) 0 0 (va_A [(h_o, .inr (3, [.ref h_o_tiles, .int o_next, .int o_size])), (h_o_tiles, .inl (ca 5, 8, .inr (.inr (.inr (.inr (fun j => some (h_o_tiles_e j))))))), ((h_o_tiles_e 0), .inr (5, [.int ((o_tiles_v 0).1), .int ((o_tiles_v 0).2.1), .int ((o_tiles_v 0).2.2.1), .long ((o_tiles_v 0).2.2.2.1), .long ((o_tiles_v 0).2.2.2.2)])), ((h_o_tiles_e 1), .inr (5, [.int ((o_tiles_v 1).1), .int ((o_tiles_v 1).2.1), .int ((o_tiles_v 1).2.2.1), .long ((o_tiles_v 1).2.2.2.1), .long ((o_tiles_v 1).2.2.2.2)])), ((h_o_tiles_e 2), .inr (5, [.int ((o_tiles_v 2).1), .int ((o_tiles_v 2).2.1), .int ((o_tiles_v 2).2.2.1), .long ((o_tiles_v 2).2.2.2.1), .long ((o_tiles_v 2).2.2.2.2)])), ((h_o_tiles_e 3), .inr (5, [.int ((o_tiles_v 3).1), .int ((o_tiles_v 3).2.1), .int ((o_tiles_v 3).2.2.1), .long ((o_tiles_v 3).2.2.2.1), .long ((o_tiles_v 3).2.2.2.2)])), ((h_o_tiles_e 4), .inr (5, [.int ((o_tiles_v 4).1), .int ((o_tiles_v 4).2.1), .int ((o_tiles_v 4).2.2.1), .long ((o_tiles_v 4).2.2.2.1), .long ((o_tiles_v 4).2.2.2.2)])), ((h_o_tiles_e 5), .inr (5, [.int ((o_tiles_v 5).1), .int ((o_tiles_v 5).2.1), .int ((o_tiles_v 5).2.2.1), .long ((o_tiles_v 5).2.2.2.1), .long ((o_tiles_v 5).2.2.2.2)])), ((h_o_tiles_e 6), .inr (5, [.int ((o_tiles_v 6).1), .int ((o_tiles_v 6).2.1), .int ((o_tiles_v 6).2.2.1), .long ((o_tiles_v 6).2.2.2.1), .long ((o_tiles_v 6).2.2.2.2)])), ((h_o_tiles_e 7), .inr (5, [.int ((o_tiles_v 7).1), .int ((o_tiles_v 7).2.1), .int ((o_tiles_v 7).2.2.1), .long ((o_tiles_v 7).2.2.2.1), .long ((o_tiles_v 7).2.2.2.2)])), (h_p1, .inr (5, [.int p1_wide, .int p1_high, .int p1_hex, .long p1_ones, .long p1_twos]))] sz) := by
  refine Met.ofW (cc := cX4_giveBack) (maxL := 3) (ret := (some .boolean)) (by decide) rfl ?_
  intro p e s m args below meth c s₁ B hml hv
  obtain ⟨rfl, hsz, hP, hK, hD0, hE⟩ := hv
  have hx := B.exec
  have hb := B.bytes
  have hr := B.returns
  have hts := atoms_spec (ws := Cond.code yX4_giveBack cX4_giveBack 3 (some .boolean) :: ds_gw) B.pre
  have hg : ∀ {w : Cond}, w ∈ ds_gw → w.before _ s = true := fun h => hts _ (List.mem_cons_of_mem _ h)
  have hown : s.vm.findClass RX4 = some m.cls := findClass_of_methodNamed B.named
  have hlocks := B.notSynchronized
  subst hsz
  have hD := hD0.self (sz := s.heap.size)
  generalize hAe : va_A [(h_o, .inr (3, [.ref h_o_tiles, .int o_next, .int o_size])), (h_o_tiles, .inl (ca 5, 8, .inr (.inr (.inr (.inr (fun j => some (h_o_tiles_e j))))))), ((h_o_tiles_e 0), .inr (5, [.int ((o_tiles_v 0).1), .int ((o_tiles_v 0).2.1), .int ((o_tiles_v 0).2.2.1), .long ((o_tiles_v 0).2.2.2.1), .long ((o_tiles_v 0).2.2.2.2)])), ((h_o_tiles_e 1), .inr (5, [.int ((o_tiles_v 1).1), .int ((o_tiles_v 1).2.1), .int ((o_tiles_v 1).2.2.1), .long ((o_tiles_v 1).2.2.2.1), .long ((o_tiles_v 1).2.2.2.2)])), ((h_o_tiles_e 2), .inr (5, [.int ((o_tiles_v 2).1), .int ((o_tiles_v 2).2.1), .int ((o_tiles_v 2).2.2.1), .long ((o_tiles_v 2).2.2.2.1), .long ((o_tiles_v 2).2.2.2.2)])), ((h_o_tiles_e 3), .inr (5, [.int ((o_tiles_v 3).1), .int ((o_tiles_v 3).2.1), .int ((o_tiles_v 3).2.2.1), .long ((o_tiles_v 3).2.2.2.1), .long ((o_tiles_v 3).2.2.2.2)])), ((h_o_tiles_e 4), .inr (5, [.int ((o_tiles_v 4).1), .int ((o_tiles_v 4).2.1), .int ((o_tiles_v 4).2.2.1), .long ((o_tiles_v 4).2.2.2.1), .long ((o_tiles_v 4).2.2.2.2)])), ((h_o_tiles_e 5), .inr (5, [.int ((o_tiles_v 5).1), .int ((o_tiles_v 5).2.1), .int ((o_tiles_v 5).2.2.1), .long ((o_tiles_v 5).2.2.2.1), .long ((o_tiles_v 5).2.2.2.2)])), ((h_o_tiles_e 6), .inr (5, [.int ((o_tiles_v 6).1), .int ((o_tiles_v 6).2.1), .int ((o_tiles_v 6).2.2.1), .long ((o_tiles_v 6).2.2.2.1), .long ((o_tiles_v 6).2.2.2.2)])), ((h_o_tiles_e 7), .inr (5, [.int ((o_tiles_v 7).1), .int ((o_tiles_v 7).2.1), .int ((o_tiles_v 7).2.2.1), .long ((o_tiles_v 7).2.2.2.1), .long ((o_tiles_v 7).2.2.2.2)])), (h_p1, .inr (5, [.int p1_wide, .int p1_high, .int p1_hex, .long p1_ones, .long p1_twos]))] s.heap.size = A at hD hE ⊢
  have hA : ∀ q : Nat, s.heap.size ≤ q → A q := fun q h => by rw [← hAe]; exact Or.inr h
  have hS : va_S A s.heap s.heap [] := va_S.rf
  have hl := lv_entry ([.ref h_o, .ref h_p1]) (n := 3) (Nat.le_of_ble_eq_true rfl)
  rw [lg_entry_eq]
  generalize (lg_sl ([.ref h_o, .ref h_p1]) ++ List.replicate (3 - (lg_sl ([.ref h_o, .ref h_p1])).length) Slot.unset).toArray = ls at hl ⊢
  have hl : lv_has ls 3 [(0, .ref h_o), (1, .ref h_p1)] := hl
  obtain ⟨G0, eG0⟩ : ∃ G : (Int32 × Int32 × Int32 × Int32 × Int32 × Int32 × Int64 × Int64) → Prop, G = (fun r => r = res) := ⟨_, rfl⟩
  obtain ⟨rr, hrr⟩ : ∃ z, z = res := ⟨_, rfl⟩
  rw [← hrr] at hf
  have hG : G0 rr := by subst eG0; exact hrr
  unfold fX4_giveBack at hf
  refine lv_aload_n hx hb dX4_giveBack_0 rfl (lv_at hl 0 rfl) ?_
  refine va_get (D := (dC, dI)) (ci := 3) (v := .int o_next) (C := RX4) (T := TX4) (N := 3) hx hb hts (fun w h => List.mem_cons_of_mem _ (kc_X4 w h)) hown hK hP 0 rfl rfl 1 (by decide) (hg kw_319) (fun _ h9 => h9) rfl dX4_giveBack_1 ?_
  refine lv_bipush (v := 8) hx hb dX4_giveBack_4 (by decide) ?_
  refine lv_iadd hx hb dX4_giveBack_6 ?_
  refine lv_iconst (v := 1) hx hb dX4_giveBack_7 (by decide) ?_
  refine lv_isub hx hb dX4_giveBack_8 ?_
  refine lv_bipush (v := 8) hx hb dX4_giveBack_9 (by decide) ?_
  refine lv_irem hx hb dX4_giveBack_11 (by decide) ?_
  obtain ⟨x12, hx_12, hf⟩ := ds_ob hf
  refine ds_nmi hx_12 ?_
  refine lv_istore_n (lv' := [(2, .int x12), (0, .ref h_o), (1, .ref h_p1)]) hx hb dX4_giveBack_12 rfl hl (by decide) rfl (fun ls hl => ?_)
  refine lv_aload_n hx hb dX4_giveBack_13 rfl (lv_at hl 1 rfl) ?_
  refine va_get (D := (dC, dI)) (ci := 3) (v := .int o_size) (C := RX4) (T := TX4) (N := 3) hx hb hts (fun w h => List.mem_cons_of_mem _ (kc_X4 w h)) hown hK hP 0 rfl rfl 2 (by decide) (hg kw_315) (fun _ h9 => h9) rfl dX4_giveBack_14 ?_
  refine lv_if_eq (tgt := 42) hx hb dX4_giveBack_17 (by decide) (fun c_17 => ?_) (fun c_17 => ?_)
  · replace hf := ds_t c_17 hf
    refine lv_iconst (v := 0) hx hb dX4_giveBack_42 (by decide) ?_
    have hf := Option.some.inj hf
    subst hf
    rw [eG0] at hG
    have hG : _ = res := hG
    subst hG
    exact W.zret (v := (0 : Int32)) (ty := .boolean) hx hb hr rfl (fun t ht hW => ⟨⟨(0 : Int32), (), rfl, rfl, by rw [ht]; exact hP, hD⟩, hS.F ht⟩) hS.2.2 dX4_giveBack_43
  · replace hf := ds_f c_17 hf
    refine lv_iload_n hx hb dX4_giveBack_20 rfl (lv_at hl 0 rfl) ?_
    refine lv_if_lt (tgt := 42) hx hb dX4_giveBack_21 (by decide) (fun c_21 => ?_) (fun c_21 => ?_)
    · replace hf := ds_t c_21 hf
      refine lv_iconst (v := 0) hx hb dX4_giveBack_42 (by decide) ?_
      have hf := Option.some.inj hf
      subst hf
      rw [eG0] at hG
      have hG : _ = res := hG
      subst hG
      exact W.zret (v := (0 : Int32)) (ty := .boolean) hx hb hr rfl (fun t ht hW => ⟨⟨(0 : Int32), (), rfl, rfl, by rw [ht]; exact hP, hD⟩, hS.F ht⟩) hS.2.2 dX4_giveBack_43
    · replace hf := ds_f c_21 hf
      refine lv_iload_n hx hb dX4_giveBack_24 rfl (lv_at hl 0 rfl) ?_
      refine lv_aload_n hx hb dX4_giveBack_25 rfl (lv_at hl 1 rfl) ?_
      refine va_get (D := (dC, dI)) (ci := 3) (v := .ref h_o_tiles) (C := RX4) (T := TX4) (N := 3) hx hb hts (fun w h => List.mem_cons_of_mem _ (kc_X4 w h)) hown hK hP 0 rfl rfl 0 (by decide) (hg kw_320) (fun _ h9 => h9) rfl dX4_giveBack_26 ?_
      refine va_alen (v := 8) hx hb hK hP 1 5 rfl rfl rfl dX4_giveBack_29 ?_
      refine lv_icmp_ge (tgt := 42) hx hb dX4_giveBack_30 (by decide) (fun c_30 => ?_) (fun c_30 => ?_)
      · replace hf := ds_t c_30 hf
        refine lv_iconst (v := 0) hx hb dX4_giveBack_42 (by decide) ?_
        have hf := Option.some.inj hf
        subst hf
        rw [eG0] at hG
        have hG : _ = res := hG
        subst hG
        exact W.zret (v := (0 : Int32)) (ty := .boolean) hx hb hr rfl (fun t ht hW => ⟨⟨(0 : Int32), (), rfl, rfl, by rw [ht]; exact hP, hD⟩, hS.F ht⟩) hS.2.2 dX4_giveBack_43
      · replace hf := ds_f c_30 hf
        refine lv_aload_n hx hb dX4_giveBack_33 rfl (lv_at hl 1 rfl) ?_
        refine va_get (D := (dC, dI)) (ci := 3) (v := .ref h_o_tiles) (C := RX4) (T := TX4) (N := 3) hx hb hts (fun w h => List.mem_cons_of_mem _ (kc_X4 w h)) hown hK hP 0 rfl rfl 0 (by decide) (hg kw_320) (fun _ h9 => h9) rfl dX4_giveBack_34 ?_
        refine lv_iload_n hx hb dX4_giveBack_37 rfl (lv_at hl 0 rfl) ?_
        obtain ⟨i_38, hf⟩ := ds_ci hf
        have b_38 := i_38
        refine va_aldq hx hb hK hP 1 5 rfl rfl i_38 dX4_giveBack_38 ?_
        by_cases c_38_0 : x12 = 0
        · replace hf := ds_t c_38_0 hf
          refine ds_ai (f := fun j => some (h_o_tiles_e j)) (k := 0) (by rw [c_38_0]; decide) ?_
          refine lv_ifnonnull (tgt := 44) hx hb dX4_giveBack_39 (by decide) ?_
          refine lv_aload_n hx hb dX4_giveBack_44 rfl (lv_at hl 2 rfl) ?_
          refine lv_aload_n hx hb dX4_giveBack_45 rfl (lv_at hl 1 rfl) ?_
          refine va_get (D := (dC, dI)) (ci := 3) (v := .ref h_o_tiles) (C := RX4) (T := TX4) (N := 3) hx hb hts (fun w h => List.mem_cons_of_mem _ (kc_X4 w h)) hown hK hP 0 rfl rfl 0 (by decide) (hg kw_320) (fun _ h9 => h9) rfl dX4_giveBack_46 ?_
          refine lv_iload_n hx hb dX4_giveBack_49 rfl (lv_at hl 0 rfl) ?_
          refine va_aldq hx hb hK hP 1 5 rfl rfl b_38 dX4_giveBack_50 ?_
          refine ds_ai (f := fun j => some (h_o_tiles_e j)) (k := 0) (by rw [c_38_0]; decide) ?_
          obtain ⟨q51, hq51, hf⟩ := ds_ob hf
          refine ds_callv (wr := [(h_o, .inr (3, [.ref h_o_tiles, .int o_next, .int o_size])), (h_o_tiles, .inl (ca 5, 8, .inr (.inr (.inr (.inr (fun j => some (h_o_tiles_e j))))))), ((h_o_tiles_e 1), .inr (5, [.int ((o_tiles_v 1).1), .int ((o_tiles_v 1).2.1), .int ((o_tiles_v 1).2.2.1), .long ((o_tiles_v 1).2.2.2.1), .long ((o_tiles_v 1).2.2.2.2)])), ((h_o_tiles_e 2), .inr (5, [.int ((o_tiles_v 2).1), .int ((o_tiles_v 2).2.1), .int ((o_tiles_v 2).2.2.1), .long ((o_tiles_v 2).2.2.2.1), .long ((o_tiles_v 2).2.2.2.2)])), ((h_o_tiles_e 3), .inr (5, [.int ((o_tiles_v 3).1), .int ((o_tiles_v 3).2.1), .int ((o_tiles_v 3).2.2.1), .long ((o_tiles_v 3).2.2.2.1), .long ((o_tiles_v 3).2.2.2.2)])), ((h_o_tiles_e 4), .inr (5, [.int ((o_tiles_v 4).1), .int ((o_tiles_v 4).2.1), .int ((o_tiles_v 4).2.2.1), .long ((o_tiles_v 4).2.2.2.1), .long ((o_tiles_v 4).2.2.2.2)])), ((h_o_tiles_e 5), .inr (5, [.int ((o_tiles_v 5).1), .int ((o_tiles_v 5).2.1), .int ((o_tiles_v 5).2.2.1), .long ((o_tiles_v 5).2.2.2.1), .long ((o_tiles_v 5).2.2.2.2)])), ((h_o_tiles_e 6), .inr (5, [.int ((o_tiles_v 6).1), .int ((o_tiles_v 6).2.1), .int ((o_tiles_v 6).2.2.1), .long ((o_tiles_v 6).2.2.2.1), .long ((o_tiles_v 6).2.2.2.2)])), ((h_o_tiles_e 7), .inr (5, [.int ((o_tiles_v 7).1), .int ((o_tiles_v 7).2.1), .int ((o_tiles_v 7).2.2.1), .long ((o_tiles_v 7).2.2.2.1), .long ((o_tiles_v 7).2.2.2.2)]))]) (va_runV (As := [.ref (h_o_tiles_e 0)]) (rest := []) ⟨hx, hb, hml, hown, hts⟩ (c_X6_copyFrom l dC dI ca sa (h_o_tiles_e 0) h_p1 s.heap.size ((o_tiles_v 0).1) ((o_tiles_v 0).2.1) ((o_tiles_v 0).2.2.1) ((o_tiles_v 0).2.2.2.1) ((o_tiles_v 0).2.2.2.2) p1_wide p1_high p1_hex p1_ones p1_twos  q51 hq51) (cwV 1 hts (ds_gV kw_321 kw_144 kw_145 kw_59 kw_146) rfl rfl rfl (by decide +kernel) ⟨Nat.le_of_ble_eq_true rfl, Nat.le_of_ble_eq_true rfl⟩) ⟨ds_blind, va_recv hK hP (ci := 5) (q0 := 10) rfl rfl, ds_at hP hD hK hE hS hA [2, 10] rfl rfl _⟩ rfl rfl hl.1 rfl (lv_room (Nat.le_of_ble_eq_true rfl)) dX4_giveBack_51 ⟨Nat.zero_le _, Nat.zero_le _⟩) hP hD hS hA [2, 10] [0, 1, 3, 4, 5, 6, 7, 8, 9] rfl rfl rfl (by decide) (fun H locs hP hD hS => ?_)
          have hP : va_P (dC, dI) vwCl [(h_o, .inr (3, [.ref h_o_tiles, .int o_next, .int o_size])), (h_o_tiles, .inl (ca 5, 8, .inr (.inr (.inr (.inr (fun j => some (h_o_tiles_e j))))))), ((h_o_tiles_e 1), .inr (5, [.int ((o_tiles_v 1).1), .int ((o_tiles_v 1).2.1), .int ((o_tiles_v 1).2.2.1), .long ((o_tiles_v 1).2.2.2.1), .long ((o_tiles_v 1).2.2.2.2)])), ((h_o_tiles_e 2), .inr (5, [.int ((o_tiles_v 2).1), .int ((o_tiles_v 2).2.1), .int ((o_tiles_v 2).2.2.1), .long ((o_tiles_v 2).2.2.2.1), .long ((o_tiles_v 2).2.2.2.2)])), ((h_o_tiles_e 3), .inr (5, [.int ((o_tiles_v 3).1), .int ((o_tiles_v 3).2.1), .int ((o_tiles_v 3).2.2.1), .long ((o_tiles_v 3).2.2.2.1), .long ((o_tiles_v 3).2.2.2.2)])), ((h_o_tiles_e 4), .inr (5, [.int ((o_tiles_v 4).1), .int ((o_tiles_v 4).2.1), .int ((o_tiles_v 4).2.2.1), .long ((o_tiles_v 4).2.2.2.1), .long ((o_tiles_v 4).2.2.2.2)])), ((h_o_tiles_e 5), .inr (5, [.int ((o_tiles_v 5).1), .int ((o_tiles_v 5).2.1), .int ((o_tiles_v 5).2.2.1), .long ((o_tiles_v 5).2.2.2.1), .long ((o_tiles_v 5).2.2.2.2)])), ((h_o_tiles_e 6), .inr (5, [.int ((o_tiles_v 6).1), .int ((o_tiles_v 6).2.1), .int ((o_tiles_v 6).2.2.1), .long ((o_tiles_v 6).2.2.2.1), .long ((o_tiles_v 6).2.2.2.2)])), ((h_o_tiles_e 7), .inr (5, [.int ((o_tiles_v 7).1), .int ((o_tiles_v 7).2.1), .int ((o_tiles_v 7).2.2.1), .long ((o_tiles_v 7).2.2.2.1), .long ((o_tiles_v 7).2.2.2.2)])), ((h_o_tiles_e 0), .inr (5, [.int ((o_tiles_v 0).1), .int ((o_tiles_v 0).2.1), .int ((o_tiles_v 0).2.2.1), .long ((o_tiles_v 0).2.2.2.1), .long ((o_tiles_v 0).2.2.2.2)])), (h_p1, .inr (5, [.int q51.1, .int q51.2.1, .int q51.2.2.1, .long q51.2.2.2.1, .long q51.2.2.2.2]))] H := hP
          have hD : va_D A [(h_o, .inr (3, [.ref h_o_tiles, .int o_next, .int o_size])), (h_o_tiles, .inl (ca 5, 8, .inr (.inr (.inr (.inr (fun j => some (h_o_tiles_e j))))))), ((h_o_tiles_e 1), .inr (5, [.int ((o_tiles_v 1).1), .int ((o_tiles_v 1).2.1), .int ((o_tiles_v 1).2.2.1), .long ((o_tiles_v 1).2.2.2.1), .long ((o_tiles_v 1).2.2.2.2)])), ((h_o_tiles_e 2), .inr (5, [.int ((o_tiles_v 2).1), .int ((o_tiles_v 2).2.1), .int ((o_tiles_v 2).2.2.1), .long ((o_tiles_v 2).2.2.2.1), .long ((o_tiles_v 2).2.2.2.2)])), ((h_o_tiles_e 3), .inr (5, [.int ((o_tiles_v 3).1), .int ((o_tiles_v 3).2.1), .int ((o_tiles_v 3).2.2.1), .long ((o_tiles_v 3).2.2.2.1), .long ((o_tiles_v 3).2.2.2.2)])), ((h_o_tiles_e 4), .inr (5, [.int ((o_tiles_v 4).1), .int ((o_tiles_v 4).2.1), .int ((o_tiles_v 4).2.2.1), .long ((o_tiles_v 4).2.2.2.1), .long ((o_tiles_v 4).2.2.2.2)])), ((h_o_tiles_e 5), .inr (5, [.int ((o_tiles_v 5).1), .int ((o_tiles_v 5).2.1), .int ((o_tiles_v 5).2.2.1), .long ((o_tiles_v 5).2.2.2.1), .long ((o_tiles_v 5).2.2.2.2)])), ((h_o_tiles_e 6), .inr (5, [.int ((o_tiles_v 6).1), .int ((o_tiles_v 6).2.1), .int ((o_tiles_v 6).2.2.1), .long ((o_tiles_v 6).2.2.2.1), .long ((o_tiles_v 6).2.2.2.2)])), ((h_o_tiles_e 7), .inr (5, [.int ((o_tiles_v 7).1), .int ((o_tiles_v 7).2.1), .int ((o_tiles_v 7).2.2.1), .long ((o_tiles_v 7).2.2.2.1), .long ((o_tiles_v 7).2.2.2.2)])), ((h_o_tiles_e 0), .inr (5, [.int ((o_tiles_v 0).1), .int ((o_tiles_v 0).2.1), .int ((o_tiles_v 0).2.2.1), .long ((o_tiles_v 0).2.2.2.1), .long ((o_tiles_v 0).2.2.2.2)])), (h_p1, .inr (5, [.int q51.1, .int q51.2.1, .int q51.2.2.1, .long q51.2.2.2.1, .long q51.2.2.2.2]))] := hD
          refine lv_aload_n hx hb dX4_giveBack_54 rfl (lv_at hl 1 rfl) ?_
          refine lv_iload_n hx hb dX4_giveBack_55 rfl (lv_at hl 0 rfl) ?_
          refine va_put (D := (dC, dI)) (ci := 3) (v := .int x12) (ty := tyX4 1) (C := RX4) (T := TX4) (N := 3) hx hb hts (fun w h => List.mem_cons_of_mem _ (kc_X4 w h)) tyX4 tyX4_ok nmX4 hown hK hP hD hS 0 rfl rfl 1 (by decide) (hg kw_319) (fun _ h9 => h9) rfl (by decide +kernel) rfl rfl (Nat.le_of_ble_eq_true rfl) dX4_giveBack_56 (fun H locs hP hD hS => ?_)
          have hP : va_P (dC, dI) vwCl [(h_o, .inr (3, [.ref h_o_tiles, .int x12, .int o_size])), (h_o_tiles, .inl (ca 5, 8, .inr (.inr (.inr (.inr (fun j => some (h_o_tiles_e j))))))), ((h_o_tiles_e 1), .inr (5, [.int ((o_tiles_v 1).1), .int ((o_tiles_v 1).2.1), .int ((o_tiles_v 1).2.2.1), .long ((o_tiles_v 1).2.2.2.1), .long ((o_tiles_v 1).2.2.2.2)])), ((h_o_tiles_e 2), .inr (5, [.int ((o_tiles_v 2).1), .int ((o_tiles_v 2).2.1), .int ((o_tiles_v 2).2.2.1), .long ((o_tiles_v 2).2.2.2.1), .long ((o_tiles_v 2).2.2.2.2)])), ((h_o_tiles_e 3), .inr (5, [.int ((o_tiles_v 3).1), .int ((o_tiles_v 3).2.1), .int ((o_tiles_v 3).2.2.1), .long ((o_tiles_v 3).2.2.2.1), .long ((o_tiles_v 3).2.2.2.2)])), ((h_o_tiles_e 4), .inr (5, [.int ((o_tiles_v 4).1), .int ((o_tiles_v 4).2.1), .int ((o_tiles_v 4).2.2.1), .long ((o_tiles_v 4).2.2.2.1), .long ((o_tiles_v 4).2.2.2.2)])), ((h_o_tiles_e 5), .inr (5, [.int ((o_tiles_v 5).1), .int ((o_tiles_v 5).2.1), .int ((o_tiles_v 5).2.2.1), .long ((o_tiles_v 5).2.2.2.1), .long ((o_tiles_v 5).2.2.2.2)])), ((h_o_tiles_e 6), .inr (5, [.int ((o_tiles_v 6).1), .int ((o_tiles_v 6).2.1), .int ((o_tiles_v 6).2.2.1), .long ((o_tiles_v 6).2.2.2.1), .long ((o_tiles_v 6).2.2.2.2)])), ((h_o_tiles_e 7), .inr (5, [.int ((o_tiles_v 7).1), .int ((o_tiles_v 7).2.1), .int ((o_tiles_v 7).2.2.1), .long ((o_tiles_v 7).2.2.2.1), .long ((o_tiles_v 7).2.2.2.2)])), ((h_o_tiles_e 0), .inr (5, [.int ((o_tiles_v 0).1), .int ((o_tiles_v 0).2.1), .int ((o_tiles_v 0).2.2.1), .long ((o_tiles_v 0).2.2.2.1), .long ((o_tiles_v 0).2.2.2.2)])), (h_p1, .inr (5, [.int q51.1, .int q51.2.1, .int q51.2.2.1, .long q51.2.2.2.1, .long q51.2.2.2.2]))] H := hP
          have hD : va_D A [(h_o, .inr (3, [.ref h_o_tiles, .int x12, .int o_size])), (h_o_tiles, .inl (ca 5, 8, .inr (.inr (.inr (.inr (fun j => some (h_o_tiles_e j))))))), ((h_o_tiles_e 1), .inr (5, [.int ((o_tiles_v 1).1), .int ((o_tiles_v 1).2.1), .int ((o_tiles_v 1).2.2.1), .long ((o_tiles_v 1).2.2.2.1), .long ((o_tiles_v 1).2.2.2.2)])), ((h_o_tiles_e 2), .inr (5, [.int ((o_tiles_v 2).1), .int ((o_tiles_v 2).2.1), .int ((o_tiles_v 2).2.2.1), .long ((o_tiles_v 2).2.2.2.1), .long ((o_tiles_v 2).2.2.2.2)])), ((h_o_tiles_e 3), .inr (5, [.int ((o_tiles_v 3).1), .int ((o_tiles_v 3).2.1), .int ((o_tiles_v 3).2.2.1), .long ((o_tiles_v 3).2.2.2.1), .long ((o_tiles_v 3).2.2.2.2)])), ((h_o_tiles_e 4), .inr (5, [.int ((o_tiles_v 4).1), .int ((o_tiles_v 4).2.1), .int ((o_tiles_v 4).2.2.1), .long ((o_tiles_v 4).2.2.2.1), .long ((o_tiles_v 4).2.2.2.2)])), ((h_o_tiles_e 5), .inr (5, [.int ((o_tiles_v 5).1), .int ((o_tiles_v 5).2.1), .int ((o_tiles_v 5).2.2.1), .long ((o_tiles_v 5).2.2.2.1), .long ((o_tiles_v 5).2.2.2.2)])), ((h_o_tiles_e 6), .inr (5, [.int ((o_tiles_v 6).1), .int ((o_tiles_v 6).2.1), .int ((o_tiles_v 6).2.2.1), .long ((o_tiles_v 6).2.2.2.1), .long ((o_tiles_v 6).2.2.2.2)])), ((h_o_tiles_e 7), .inr (5, [.int ((o_tiles_v 7).1), .int ((o_tiles_v 7).2.1), .int ((o_tiles_v 7).2.2.1), .long ((o_tiles_v 7).2.2.2.1), .long ((o_tiles_v 7).2.2.2.2)])), ((h_o_tiles_e 0), .inr (5, [.int ((o_tiles_v 0).1), .int ((o_tiles_v 0).2.1), .int ((o_tiles_v 0).2.2.1), .long ((o_tiles_v 0).2.2.2.1), .long ((o_tiles_v 0).2.2.2.2)])), (h_p1, .inr (5, [.int q51.1, .int q51.2.1, .int q51.2.2.1, .long q51.2.2.2.1, .long q51.2.2.2.2]))] := hD
          refine lv_aload_n hx hb dX4_giveBack_59 rfl (lv_at hl 1 rfl) ?_
          refine lv_dup hx hb dX4_giveBack_60 rfl ?_
          refine va_get (D := (dC, dI)) (ci := 3) (v := .int o_size) (C := RX4) (T := TX4) (N := 3) hx hb hts (fun w h => List.mem_cons_of_mem _ (kc_X4 w h)) hown hK hP 0 rfl rfl 2 (by decide) (hg kw_315) (fun _ h9 => h9) rfl dX4_giveBack_61 ?_
          refine lv_iconst (v := 1) hx hb dX4_giveBack_64 (by decide) ?_
          refine lv_isub hx hb dX4_giveBack_65 ?_
          refine va_put (D := (dC, dI)) (ci := 3) (v := .int (o_size - (1 : Int32))) (ty := tyX4 2) (C := RX4) (T := TX4) (N := 3) hx hb hts (fun w h => List.mem_cons_of_mem _ (kc_X4 w h)) tyX4 tyX4_ok nmX4 hown hK hP hD hS 0 rfl rfl 2 (by decide) (hg kw_315) (fun _ h9 => h9) rfl (by decide +kernel) rfl rfl (Nat.le_of_ble_eq_true rfl) dX4_giveBack_66 (fun H locs hP hD hS => ?_)
          have hP : va_P (dC, dI) vwCl [(h_o, .inr (3, [.ref h_o_tiles, .int x12, .int (o_size - (1 : Int32))])), (h_o_tiles, .inl (ca 5, 8, .inr (.inr (.inr (.inr (fun j => some (h_o_tiles_e j))))))), ((h_o_tiles_e 1), .inr (5, [.int ((o_tiles_v 1).1), .int ((o_tiles_v 1).2.1), .int ((o_tiles_v 1).2.2.1), .long ((o_tiles_v 1).2.2.2.1), .long ((o_tiles_v 1).2.2.2.2)])), ((h_o_tiles_e 2), .inr (5, [.int ((o_tiles_v 2).1), .int ((o_tiles_v 2).2.1), .int ((o_tiles_v 2).2.2.1), .long ((o_tiles_v 2).2.2.2.1), .long ((o_tiles_v 2).2.2.2.2)])), ((h_o_tiles_e 3), .inr (5, [.int ((o_tiles_v 3).1), .int ((o_tiles_v 3).2.1), .int ((o_tiles_v 3).2.2.1), .long ((o_tiles_v 3).2.2.2.1), .long ((o_tiles_v 3).2.2.2.2)])), ((h_o_tiles_e 4), .inr (5, [.int ((o_tiles_v 4).1), .int ((o_tiles_v 4).2.1), .int ((o_tiles_v 4).2.2.1), .long ((o_tiles_v 4).2.2.2.1), .long ((o_tiles_v 4).2.2.2.2)])), ((h_o_tiles_e 5), .inr (5, [.int ((o_tiles_v 5).1), .int ((o_tiles_v 5).2.1), .int ((o_tiles_v 5).2.2.1), .long ((o_tiles_v 5).2.2.2.1), .long ((o_tiles_v 5).2.2.2.2)])), ((h_o_tiles_e 6), .inr (5, [.int ((o_tiles_v 6).1), .int ((o_tiles_v 6).2.1), .int ((o_tiles_v 6).2.2.1), .long ((o_tiles_v 6).2.2.2.1), .long ((o_tiles_v 6).2.2.2.2)])), ((h_o_tiles_e 7), .inr (5, [.int ((o_tiles_v 7).1), .int ((o_tiles_v 7).2.1), .int ((o_tiles_v 7).2.2.1), .long ((o_tiles_v 7).2.2.2.1), .long ((o_tiles_v 7).2.2.2.2)])), ((h_o_tiles_e 0), .inr (5, [.int ((o_tiles_v 0).1), .int ((o_tiles_v 0).2.1), .int ((o_tiles_v 0).2.2.1), .long ((o_tiles_v 0).2.2.2.1), .long ((o_tiles_v 0).2.2.2.2)])), (h_p1, .inr (5, [.int q51.1, .int q51.2.1, .int q51.2.2.1, .long q51.2.2.2.1, .long q51.2.2.2.2]))] H := hP
          have hD : va_D A [(h_o, .inr (3, [.ref h_o_tiles, .int x12, .int (o_size - (1 : Int32))])), (h_o_tiles, .inl (ca 5, 8, .inr (.inr (.inr (.inr (fun j => some (h_o_tiles_e j))))))), ((h_o_tiles_e 1), .inr (5, [.int ((o_tiles_v 1).1), .int ((o_tiles_v 1).2.1), .int ((o_tiles_v 1).2.2.1), .long ((o_tiles_v 1).2.2.2.1), .long ((o_tiles_v 1).2.2.2.2)])), ((h_o_tiles_e 2), .inr (5, [.int ((o_tiles_v 2).1), .int ((o_tiles_v 2).2.1), .int ((o_tiles_v 2).2.2.1), .long ((o_tiles_v 2).2.2.2.1), .long ((o_tiles_v 2).2.2.2.2)])), ((h_o_tiles_e 3), .inr (5, [.int ((o_tiles_v 3).1), .int ((o_tiles_v 3).2.1), .int ((o_tiles_v 3).2.2.1), .long ((o_tiles_v 3).2.2.2.1), .long ((o_tiles_v 3).2.2.2.2)])), ((h_o_tiles_e 4), .inr (5, [.int ((o_tiles_v 4).1), .int ((o_tiles_v 4).2.1), .int ((o_tiles_v 4).2.2.1), .long ((o_tiles_v 4).2.2.2.1), .long ((o_tiles_v 4).2.2.2.2)])), ((h_o_tiles_e 5), .inr (5, [.int ((o_tiles_v 5).1), .int ((o_tiles_v 5).2.1), .int ((o_tiles_v 5).2.2.1), .long ((o_tiles_v 5).2.2.2.1), .long ((o_tiles_v 5).2.2.2.2)])), ((h_o_tiles_e 6), .inr (5, [.int ((o_tiles_v 6).1), .int ((o_tiles_v 6).2.1), .int ((o_tiles_v 6).2.2.1), .long ((o_tiles_v 6).2.2.2.1), .long ((o_tiles_v 6).2.2.2.2)])), ((h_o_tiles_e 7), .inr (5, [.int ((o_tiles_v 7).1), .int ((o_tiles_v 7).2.1), .int ((o_tiles_v 7).2.2.1), .long ((o_tiles_v 7).2.2.2.1), .long ((o_tiles_v 7).2.2.2.2)])), ((h_o_tiles_e 0), .inr (5, [.int ((o_tiles_v 0).1), .int ((o_tiles_v 0).2.1), .int ((o_tiles_v 0).2.2.1), .long ((o_tiles_v 0).2.2.2.1), .long ((o_tiles_v 0).2.2.2.2)])), (h_p1, .inr (5, [.int q51.1, .int q51.2.1, .int q51.2.2.1, .long q51.2.2.2.1, .long q51.2.2.2.2]))] := hD
          refine lv_iconst (v := 1) hx hb dX4_giveBack_69 (by decide) ?_
          have hf := Option.some.inj hf
          subst hf
          rw [eG0] at hG
          have hG : _ = res := hG
          subst hG
          exact W.zret (v := (1 : Int32)) (ty := .boolean) hx hb hr rfl (fun t ht hW => ⟨⟨(1 : Int32), (), rfl, rfl, by rw [ht]; exact (hP.sub [0, 1, 9, 2, 3, 4, 5, 6, 7, 8, 10] rfl), (hD.sub [0, 1, 9, 2, 3, 4, 5, 6, 7, 8, 10] rfl rfl)⟩, hS.F ht⟩) hS.2.2 dX4_giveBack_70
        replace hf := ds_f c_38_0 hf
        by_cases c_38_1 : x12 = 1
        · replace hf := ds_t c_38_1 hf
          refine ds_ai (f := fun j => some (h_o_tiles_e j)) (k := 1) (by rw [c_38_1]; decide) ?_
          refine lv_ifnonnull (tgt := 44) hx hb dX4_giveBack_39 (by decide) ?_
          refine lv_aload_n hx hb dX4_giveBack_44 rfl (lv_at hl 2 rfl) ?_
          refine lv_aload_n hx hb dX4_giveBack_45 rfl (lv_at hl 1 rfl) ?_
          refine va_get (D := (dC, dI)) (ci := 3) (v := .ref h_o_tiles) (C := RX4) (T := TX4) (N := 3) hx hb hts (fun w h => List.mem_cons_of_mem _ (kc_X4 w h)) hown hK hP 0 rfl rfl 0 (by decide) (hg kw_320) (fun _ h9 => h9) rfl dX4_giveBack_46 ?_
          refine lv_iload_n hx hb dX4_giveBack_49 rfl (lv_at hl 0 rfl) ?_
          refine va_aldq hx hb hK hP 1 5 rfl rfl b_38 dX4_giveBack_50 ?_
          refine ds_ai (f := fun j => some (h_o_tiles_e j)) (k := 1) (by rw [c_38_1]; decide) ?_
          obtain ⟨q51, hq51, hf⟩ := ds_ob hf
          refine ds_callv (wr := [(h_o, .inr (3, [.ref h_o_tiles, .int o_next, .int o_size])), (h_o_tiles, .inl (ca 5, 8, .inr (.inr (.inr (.inr (fun j => some (h_o_tiles_e j))))))), ((h_o_tiles_e 0), .inr (5, [.int ((o_tiles_v 0).1), .int ((o_tiles_v 0).2.1), .int ((o_tiles_v 0).2.2.1), .long ((o_tiles_v 0).2.2.2.1), .long ((o_tiles_v 0).2.2.2.2)])), ((h_o_tiles_e 2), .inr (5, [.int ((o_tiles_v 2).1), .int ((o_tiles_v 2).2.1), .int ((o_tiles_v 2).2.2.1), .long ((o_tiles_v 2).2.2.2.1), .long ((o_tiles_v 2).2.2.2.2)])), ((h_o_tiles_e 3), .inr (5, [.int ((o_tiles_v 3).1), .int ((o_tiles_v 3).2.1), .int ((o_tiles_v 3).2.2.1), .long ((o_tiles_v 3).2.2.2.1), .long ((o_tiles_v 3).2.2.2.2)])), ((h_o_tiles_e 4), .inr (5, [.int ((o_tiles_v 4).1), .int ((o_tiles_v 4).2.1), .int ((o_tiles_v 4).2.2.1), .long ((o_tiles_v 4).2.2.2.1), .long ((o_tiles_v 4).2.2.2.2)])), ((h_o_tiles_e 5), .inr (5, [.int ((o_tiles_v 5).1), .int ((o_tiles_v 5).2.1), .int ((o_tiles_v 5).2.2.1), .long ((o_tiles_v 5).2.2.2.1), .long ((o_tiles_v 5).2.2.2.2)])), ((h_o_tiles_e 6), .inr (5, [.int ((o_tiles_v 6).1), .int ((o_tiles_v 6).2.1), .int ((o_tiles_v 6).2.2.1), .long ((o_tiles_v 6).2.2.2.1), .long ((o_tiles_v 6).2.2.2.2)])), ((h_o_tiles_e 7), .inr (5, [.int ((o_tiles_v 7).1), .int ((o_tiles_v 7).2.1), .int ((o_tiles_v 7).2.2.1), .long ((o_tiles_v 7).2.2.2.1), .long ((o_tiles_v 7).2.2.2.2)]))]) (va_runV (As := [.ref (h_o_tiles_e 1)]) (rest := []) ⟨hx, hb, hml, hown, hts⟩ (c_X6_copyFrom l dC dI ca sa (h_o_tiles_e 1) h_p1 s.heap.size ((o_tiles_v 1).1) ((o_tiles_v 1).2.1) ((o_tiles_v 1).2.2.1) ((o_tiles_v 1).2.2.2.1) ((o_tiles_v 1).2.2.2.2) p1_wide p1_high p1_hex p1_ones p1_twos  q51 hq51) (cwV 1 hts (ds_gV kw_321 kw_144 kw_145 kw_59 kw_146) rfl rfl rfl (by decide +kernel) ⟨Nat.le_of_ble_eq_true rfl, Nat.le_of_ble_eq_true rfl⟩) ⟨ds_blind, va_recv hK hP (ci := 5) (q0 := 10) rfl rfl, ds_at hP hD hK hE hS hA [3, 10] rfl rfl _⟩ rfl rfl hl.1 rfl (lv_room (Nat.le_of_ble_eq_true rfl)) dX4_giveBack_51 ⟨Nat.zero_le _, Nat.zero_le _⟩) hP hD hS hA [3, 10] [0, 1, 2, 4, 5, 6, 7, 8, 9] rfl rfl rfl (by decide) (fun H locs hP hD hS => ?_)
          have hP : va_P (dC, dI) vwCl [(h_o, .inr (3, [.ref h_o_tiles, .int o_next, .int o_size])), (h_o_tiles, .inl (ca 5, 8, .inr (.inr (.inr (.inr (fun j => some (h_o_tiles_e j))))))), ((h_o_tiles_e 0), .inr (5, [.int ((o_tiles_v 0).1), .int ((o_tiles_v 0).2.1), .int ((o_tiles_v 0).2.2.1), .long ((o_tiles_v 0).2.2.2.1), .long ((o_tiles_v 0).2.2.2.2)])), ((h_o_tiles_e 2), .inr (5, [.int ((o_tiles_v 2).1), .int ((o_tiles_v 2).2.1), .int ((o_tiles_v 2).2.2.1), .long ((o_tiles_v 2).2.2.2.1), .long ((o_tiles_v 2).2.2.2.2)])), ((h_o_tiles_e 3), .inr (5, [.int ((o_tiles_v 3).1), .int ((o_tiles_v 3).2.1), .int ((o_tiles_v 3).2.2.1), .long ((o_tiles_v 3).2.2.2.1), .long ((o_tiles_v 3).2.2.2.2)])), ((h_o_tiles_e 4), .inr (5, [.int ((o_tiles_v 4).1), .int ((o_tiles_v 4).2.1), .int ((o_tiles_v 4).2.2.1), .long ((o_tiles_v 4).2.2.2.1), .long ((o_tiles_v 4).2.2.2.2)])), ((h_o_tiles_e 5), .inr (5, [.int ((o_tiles_v 5).1), .int ((o_tiles_v 5).2.1), .int ((o_tiles_v 5).2.2.1), .long ((o_tiles_v 5).2.2.2.1), .long ((o_tiles_v 5).2.2.2.2)])), ((h_o_tiles_e 6), .inr (5, [.int ((o_tiles_v 6).1), .int ((o_tiles_v 6).2.1), .int ((o_tiles_v 6).2.2.1), .long ((o_tiles_v 6).2.2.2.1), .long ((o_tiles_v 6).2.2.2.2)])), ((h_o_tiles_e 7), .inr (5, [.int ((o_tiles_v 7).1), .int ((o_tiles_v 7).2.1), .int ((o_tiles_v 7).2.2.1), .long ((o_tiles_v 7).2.2.2.1), .long ((o_tiles_v 7).2.2.2.2)])), ((h_o_tiles_e 1), .inr (5, [.int ((o_tiles_v 1).1), .int ((o_tiles_v 1).2.1), .int ((o_tiles_v 1).2.2.1), .long ((o_tiles_v 1).2.2.2.1), .long ((o_tiles_v 1).2.2.2.2)])), (h_p1, .inr (5, [.int q51.1, .int q51.2.1, .int q51.2.2.1, .long q51.2.2.2.1, .long q51.2.2.2.2]))] H := hP
          have hD : va_D A [(h_o, .inr (3, [.ref h_o_tiles, .int o_next, .int o_size])), (h_o_tiles, .inl (ca 5, 8, .inr (.inr (.inr (.inr (fun j => some (h_o_tiles_e j))))))), ((h_o_tiles_e 0), .inr (5, [.int ((o_tiles_v 0).1), .int ((o_tiles_v 0).2.1), .int ((o_tiles_v 0).2.2.1), .long ((o_tiles_v 0).2.2.2.1), .long ((o_tiles_v 0).2.2.2.2)])), ((h_o_tiles_e 2), .inr (5, [.int ((o_tiles_v 2).1), .int ((o_tiles_v 2).2.1), .int ((o_tiles_v 2).2.2.1), .long ((o_tiles_v 2).2.2.2.1), .long ((o_tiles_v 2).2.2.2.2)])), ((h_o_tiles_e 3), .inr (5, [.int ((o_tiles_v 3).1), .int ((o_tiles_v 3).2.1), .int ((o_tiles_v 3).2.2.1), .long ((o_tiles_v 3).2.2.2.1), .long ((o_tiles_v 3).2.2.2.2)])), ((h_o_tiles_e 4), .inr (5, [.int ((o_tiles_v 4).1), .int ((o_tiles_v 4).2.1), .int ((o_tiles_v 4).2.2.1), .long ((o_tiles_v 4).2.2.2.1), .long ((o_tiles_v 4).2.2.2.2)])), ((h_o_tiles_e 5), .inr (5, [.int ((o_tiles_v 5).1), .int ((o_tiles_v 5).2.1), .int ((o_tiles_v 5).2.2.1), .long ((o_tiles_v 5).2.2.2.1), .long ((o_tiles_v 5).2.2.2.2)])), ((h_o_tiles_e 6), .inr (5, [.int ((o_tiles_v 6).1), .int ((o_tiles_v 6).2.1), .int ((o_tiles_v 6).2.2.1), .long ((o_tiles_v 6).2.2.2.1), .long ((o_tiles_v 6).2.2.2.2)])), ((h_o_tiles_e 7), .inr (5, [.int ((o_tiles_v 7).1), .int ((o_tiles_v 7).2.1), .int ((o_tiles_v 7).2.2.1), .long ((o_tiles_v 7).2.2.2.1), .long ((o_tiles_v 7).2.2.2.2)])), ((h_o_tiles_e 1), .inr (5, [.int ((o_tiles_v 1).1), .int ((o_tiles_v 1).2.1), .int ((o_tiles_v 1).2.2.1), .long ((o_tiles_v 1).2.2.2.1), .long ((o_tiles_v 1).2.2.2.2)])), (h_p1, .inr (5, [.int q51.1, .int q51.2.1, .int q51.2.2.1, .long q51.2.2.2.1, .long q51.2.2.2.2]))] := hD
          refine lv_aload_n hx hb dX4_giveBack_54 rfl (lv_at hl 1 rfl) ?_
          refine lv_iload_n hx hb dX4_giveBack_55 rfl (lv_at hl 0 rfl) ?_
          refine va_put (D := (dC, dI)) (ci := 3) (v := .int x12) (ty := tyX4 1) (C := RX4) (T := TX4) (N := 3) hx hb hts (fun w h => List.mem_cons_of_mem _ (kc_X4 w h)) tyX4 tyX4_ok nmX4 hown hK hP hD hS 0 rfl rfl 1 (by decide) (hg kw_319) (fun _ h9 => h9) rfl (by decide +kernel) rfl rfl (Nat.le_of_ble_eq_true rfl) dX4_giveBack_56 (fun H locs hP hD hS => ?_)
          have hP : va_P (dC, dI) vwCl [(h_o, .inr (3, [.ref h_o_tiles, .int x12, .int o_size])), (h_o_tiles, .inl (ca 5, 8, .inr (.inr (.inr (.inr (fun j => some (h_o_tiles_e j))))))), ((h_o_tiles_e 0), .inr (5, [.int ((o_tiles_v 0).1), .int ((o_tiles_v 0).2.1), .int ((o_tiles_v 0).2.2.1), .long ((o_tiles_v 0).2.2.2.1), .long ((o_tiles_v 0).2.2.2.2)])), ((h_o_tiles_e 2), .inr (5, [.int ((o_tiles_v 2).1), .int ((o_tiles_v 2).2.1), .int ((o_tiles_v 2).2.2.1), .long ((o_tiles_v 2).2.2.2.1), .long ((o_tiles_v 2).2.2.2.2)])), ((h_o_tiles_e 3), .inr (5, [.int ((o_tiles_v 3).1), .int ((o_tiles_v 3).2.1), .int ((o_tiles_v 3).2.2.1), .long ((o_tiles_v 3).2.2.2.1), .long ((o_tiles_v 3).2.2.2.2)])), ((h_o_tiles_e 4), .inr (5, [.int ((o_tiles_v 4).1), .int ((o_tiles_v 4).2.1), .int ((o_tiles_v 4).2.2.1), .long ((o_tiles_v 4).2.2.2.1), .long ((o_tiles_v 4).2.2.2.2)])), ((h_o_tiles_e 5), .inr (5, [.int ((o_tiles_v 5).1), .int ((o_tiles_v 5).2.1), .int ((o_tiles_v 5).2.2.1), .long ((o_tiles_v 5).2.2.2.1), .long ((o_tiles_v 5).2.2.2.2)])), ((h_o_tiles_e 6), .inr (5, [.int ((o_tiles_v 6).1), .int ((o_tiles_v 6).2.1), .int ((o_tiles_v 6).2.2.1), .long ((o_tiles_v 6).2.2.2.1), .long ((o_tiles_v 6).2.2.2.2)])), ((h_o_tiles_e 7), .inr (5, [.int ((o_tiles_v 7).1), .int ((o_tiles_v 7).2.1), .int ((o_tiles_v 7).2.2.1), .long ((o_tiles_v 7).2.2.2.1), .long ((o_tiles_v 7).2.2.2.2)])), ((h_o_tiles_e 1), .inr (5, [.int ((o_tiles_v 1).1), .int ((o_tiles_v 1).2.1), .int ((o_tiles_v 1).2.2.1), .long ((o_tiles_v 1).2.2.2.1), .long ((o_tiles_v 1).2.2.2.2)])), (h_p1, .inr (5, [.int q51.1, .int q51.2.1, .int q51.2.2.1, .long q51.2.2.2.1, .long q51.2.2.2.2]))] H := hP
          have hD : va_D A [(h_o, .inr (3, [.ref h_o_tiles, .int x12, .int o_size])), (h_o_tiles, .inl (ca 5, 8, .inr (.inr (.inr (.inr (fun j => some (h_o_tiles_e j))))))), ((h_o_tiles_e 0), .inr (5, [.int ((o_tiles_v 0).1), .int ((o_tiles_v 0).2.1), .int ((o_tiles_v 0).2.2.1), .long ((o_tiles_v 0).2.2.2.1), .long ((o_tiles_v 0).2.2.2.2)])), ((h_o_tiles_e 2), .inr (5, [.int ((o_tiles_v 2).1), .int ((o_tiles_v 2).2.1), .int ((o_tiles_v 2).2.2.1), .long ((o_tiles_v 2).2.2.2.1), .long ((o_tiles_v 2).2.2.2.2)])), ((h_o_tiles_e 3), .inr (5, [.int ((o_tiles_v 3).1), .int ((o_tiles_v 3).2.1), .int ((o_tiles_v 3).2.2.1), .long ((o_tiles_v 3).2.2.2.1), .long ((o_tiles_v 3).2.2.2.2)])), ((h_o_tiles_e 4), .inr (5, [.int ((o_tiles_v 4).1), .int ((o_tiles_v 4).2.1), .int ((o_tiles_v 4).2.2.1), .long ((o_tiles_v 4).2.2.2.1), .long ((o_tiles_v 4).2.2.2.2)])), ((h_o_tiles_e 5), .inr (5, [.int ((o_tiles_v 5).1), .int ((o_tiles_v 5).2.1), .int ((o_tiles_v 5).2.2.1), .long ((o_tiles_v 5).2.2.2.1), .long ((o_tiles_v 5).2.2.2.2)])), ((h_o_tiles_e 6), .inr (5, [.int ((o_tiles_v 6).1), .int ((o_tiles_v 6).2.1), .int ((o_tiles_v 6).2.2.1), .long ((o_tiles_v 6).2.2.2.1), .long ((o_tiles_v 6).2.2.2.2)])), ((h_o_tiles_e 7), .inr (5, [.int ((o_tiles_v 7).1), .int ((o_tiles_v 7).2.1), .int ((o_tiles_v 7).2.2.1), .long ((o_tiles_v 7).2.2.2.1), .long ((o_tiles_v 7).2.2.2.2)])), ((h_o_tiles_e 1), .inr (5, [.int ((o_tiles_v 1).1), .int ((o_tiles_v 1).2.1), .int ((o_tiles_v 1).2.2.1), .long ((o_tiles_v 1).2.2.2.1), .long ((o_tiles_v 1).2.2.2.2)])), (h_p1, .inr (5, [.int q51.1, .int q51.2.1, .int q51.2.2.1, .long q51.2.2.2.1, .long q51.2.2.2.2]))] := hD
          refine lv_aload_n hx hb dX4_giveBack_59 rfl (lv_at hl 1 rfl) ?_
          refine lv_dup hx hb dX4_giveBack_60 rfl ?_
          refine va_get (D := (dC, dI)) (ci := 3) (v := .int o_size) (C := RX4) (T := TX4) (N := 3) hx hb hts (fun w h => List.mem_cons_of_mem _ (kc_X4 w h)) hown hK hP 0 rfl rfl 2 (by decide) (hg kw_315) (fun _ h9 => h9) rfl dX4_giveBack_61 ?_
          refine lv_iconst (v := 1) hx hb dX4_giveBack_64 (by decide) ?_
          refine lv_isub hx hb dX4_giveBack_65 ?_
          refine va_put (D := (dC, dI)) (ci := 3) (v := .int (o_size - (1 : Int32))) (ty := tyX4 2) (C := RX4) (T := TX4) (N := 3) hx hb hts (fun w h => List.mem_cons_of_mem _ (kc_X4 w h)) tyX4 tyX4_ok nmX4 hown hK hP hD hS 0 rfl rfl 2 (by decide) (hg kw_315) (fun _ h9 => h9) rfl (by decide +kernel) rfl rfl (Nat.le_of_ble_eq_true rfl) dX4_giveBack_66 (fun H locs hP hD hS => ?_)
          have hP : va_P (dC, dI) vwCl [(h_o, .inr (3, [.ref h_o_tiles, .int x12, .int (o_size - (1 : Int32))])), (h_o_tiles, .inl (ca 5, 8, .inr (.inr (.inr (.inr (fun j => some (h_o_tiles_e j))))))), ((h_o_tiles_e 0), .inr (5, [.int ((o_tiles_v 0).1), .int ((o_tiles_v 0).2.1), .int ((o_tiles_v 0).2.2.1), .long ((o_tiles_v 0).2.2.2.1), .long ((o_tiles_v 0).2.2.2.2)])), ((h_o_tiles_e 2), .inr (5, [.int ((o_tiles_v 2).1), .int ((o_tiles_v 2).2.1), .int ((o_tiles_v 2).2.2.1), .long ((o_tiles_v 2).2.2.2.1), .long ((o_tiles_v 2).2.2.2.2)])), ((h_o_tiles_e 3), .inr (5, [.int ((o_tiles_v 3).1), .int ((o_tiles_v 3).2.1), .int ((o_tiles_v 3).2.2.1), .long ((o_tiles_v 3).2.2.2.1), .long ((o_tiles_v 3).2.2.2.2)])), ((h_o_tiles_e 4), .inr (5, [.int ((o_tiles_v 4).1), .int ((o_tiles_v 4).2.1), .int ((o_tiles_v 4).2.2.1), .long ((o_tiles_v 4).2.2.2.1), .long ((o_tiles_v 4).2.2.2.2)])), ((h_o_tiles_e 5), .inr (5, [.int ((o_tiles_v 5).1), .int ((o_tiles_v 5).2.1), .int ((o_tiles_v 5).2.2.1), .long ((o_tiles_v 5).2.2.2.1), .long ((o_tiles_v 5).2.2.2.2)])), ((h_o_tiles_e 6), .inr (5, [.int ((o_tiles_v 6).1), .int ((o_tiles_v 6).2.1), .int ((o_tiles_v 6).2.2.1), .long ((o_tiles_v 6).2.2.2.1), .long ((o_tiles_v 6).2.2.2.2)])), ((h_o_tiles_e 7), .inr (5, [.int ((o_tiles_v 7).1), .int ((o_tiles_v 7).2.1), .int ((o_tiles_v 7).2.2.1), .long ((o_tiles_v 7).2.2.2.1), .long ((o_tiles_v 7).2.2.2.2)])), ((h_o_tiles_e 1), .inr (5, [.int ((o_tiles_v 1).1), .int ((o_tiles_v 1).2.1), .int ((o_tiles_v 1).2.2.1), .long ((o_tiles_v 1).2.2.2.1), .long ((o_tiles_v 1).2.2.2.2)])), (h_p1, .inr (5, [.int q51.1, .int q51.2.1, .int q51.2.2.1, .long q51.2.2.2.1, .long q51.2.2.2.2]))] H := hP
          have hD : va_D A [(h_o, .inr (3, [.ref h_o_tiles, .int x12, .int (o_size - (1 : Int32))])), (h_o_tiles, .inl (ca 5, 8, .inr (.inr (.inr (.inr (fun j => some (h_o_tiles_e j))))))), ((h_o_tiles_e 0), .inr (5, [.int ((o_tiles_v 0).1), .int ((o_tiles_v 0).2.1), .int ((o_tiles_v 0).2.2.1), .long ((o_tiles_v 0).2.2.2.1), .long ((o_tiles_v 0).2.2.2.2)])), ((h_o_tiles_e 2), .inr (5, [.int ((o_tiles_v 2).1), .int ((o_tiles_v 2).2.1), .int ((o_tiles_v 2).2.2.1), .long ((o_tiles_v 2).2.2.2.1), .long ((o_tiles_v 2).2.2.2.2)])), ((h_o_tiles_e 3), .inr (5, [.int ((o_tiles_v 3).1), .int ((o_tiles_v 3).2.1), .int ((o_tiles_v 3).2.2.1), .long ((o_tiles_v 3).2.2.2.1), .long ((o_tiles_v 3).2.2.2.2)])), ((h_o_tiles_e 4), .inr (5, [.int ((o_tiles_v 4).1), .int ((o_tiles_v 4).2.1), .int ((o_tiles_v 4).2.2.1), .long ((o_tiles_v 4).2.2.2.1), .long ((o_tiles_v 4).2.2.2.2)])), ((h_o_tiles_e 5), .inr (5, [.int ((o_tiles_v 5).1), .int ((o_tiles_v 5).2.1), .int ((o_tiles_v 5).2.2.1), .long ((o_tiles_v 5).2.2.2.1), .long ((o_tiles_v 5).2.2.2.2)])), ((h_o_tiles_e 6), .inr (5, [.int ((o_tiles_v 6).1), .int ((o_tiles_v 6).2.1), .int ((o_tiles_v 6).2.2.1), .long ((o_tiles_v 6).2.2.2.1), .long ((o_tiles_v 6).2.2.2.2)])), ((h_o_tiles_e 7), .inr (5, [.int ((o_tiles_v 7).1), .int ((o_tiles_v 7).2.1), .int ((o_tiles_v 7).2.2.1), .long ((o_tiles_v 7).2.2.2.1), .long ((o_tiles_v 7).2.2.2.2)])), ((h_o_tiles_e 1), .inr (5, [.int ((o_tiles_v 1).1), .int ((o_tiles_v 1).2.1), .int ((o_tiles_v 1).2.2.1), .long ((o_tiles_v 1).2.2.2.1), .long ((o_tiles_v 1).2.2.2.2)])), (h_p1, .inr (5, [.int q51.1, .int q51.2.1, .int q51.2.2.1, .long q51.2.2.2.1, .long q51.2.2.2.2]))] := hD
          refine lv_iconst (v := 1) hx hb dX4_giveBack_69 (by decide) ?_
          have hf := Option.some.inj hf
          subst hf
          rw [eG0] at hG
          have hG : _ = res := hG
          subst hG
          exact W.zret (v := (1 : Int32)) (ty := .boolean) hx hb hr rfl (fun t ht hW => ⟨⟨(1 : Int32), (), rfl, rfl, by rw [ht]; exact (hP.sub [0, 1, 2, 9, 3, 4, 5, 6, 7, 8, 10] rfl), (hD.sub [0, 1, 2, 9, 3, 4, 5, 6, 7, 8, 10] rfl rfl)⟩, hS.F ht⟩) hS.2.2 dX4_giveBack_70
        replace hf := ds_f c_38_1 hf
        by_cases c_38_2 : x12 = 2
        · replace hf := ds_t c_38_2 hf
          refine ds_ai (f := fun j => some (h_o_tiles_e j)) (k := 2) (by rw [c_38_2]; decide) ?_
          refine lv_ifnonnull (tgt := 44) hx hb dX4_giveBack_39 (by decide) ?_
          refine lv_aload_n hx hb dX4_giveBack_44 rfl (lv_at hl 2 rfl) ?_
          refine lv_aload_n hx hb dX4_giveBack_45 rfl (lv_at hl 1 rfl) ?_
          refine va_get (D := (dC, dI)) (ci := 3) (v := .ref h_o_tiles) (C := RX4) (T := TX4) (N := 3) hx hb hts (fun w h => List.mem_cons_of_mem _ (kc_X4 w h)) hown hK hP 0 rfl rfl 0 (by decide) (hg kw_320) (fun _ h9 => h9) rfl dX4_giveBack_46 ?_
          refine lv_iload_n hx hb dX4_giveBack_49 rfl (lv_at hl 0 rfl) ?_
          refine va_aldq hx hb hK hP 1 5 rfl rfl b_38 dX4_giveBack_50 ?_
          refine ds_ai (f := fun j => some (h_o_tiles_e j)) (k := 2) (by rw [c_38_2]; decide) ?_
          obtain ⟨q51, hq51, hf⟩ := ds_ob hf
          refine ds_callv (wr := [(h_o, .inr (3, [.ref h_o_tiles, .int o_next, .int o_size])), (h_o_tiles, .inl (ca 5, 8, .inr (.inr (.inr (.inr (fun j => some (h_o_tiles_e j))))))), ((h_o_tiles_e 0), .inr (5, [.int ((o_tiles_v 0).1), .int ((o_tiles_v 0).2.1), .int ((o_tiles_v 0).2.2.1), .long ((o_tiles_v 0).2.2.2.1), .long ((o_tiles_v 0).2.2.2.2)])), ((h_o_tiles_e 1), .inr (5, [.int ((o_tiles_v 1).1), .int ((o_tiles_v 1).2.1), .int ((o_tiles_v 1).2.2.1), .long ((o_tiles_v 1).2.2.2.1), .long ((o_tiles_v 1).2.2.2.2)])), ((h_o_tiles_e 3), .inr (5, [.int ((o_tiles_v 3).1), .int ((o_tiles_v 3).2.1), .int ((o_tiles_v 3).2.2.1), .long ((o_tiles_v 3).2.2.2.1), .long ((o_tiles_v 3).2.2.2.2)])), ((h_o_tiles_e 4), .inr (5, [.int ((o_tiles_v 4).1), .int ((o_tiles_v 4).2.1), .int ((o_tiles_v 4).2.2.1), .long ((o_tiles_v 4).2.2.2.1), .long ((o_tiles_v 4).2.2.2.2)])), ((h_o_tiles_e 5), .inr (5, [.int ((o_tiles_v 5).1), .int ((o_tiles_v 5).2.1), .int ((o_tiles_v 5).2.2.1), .long ((o_tiles_v 5).2.2.2.1), .long ((o_tiles_v 5).2.2.2.2)])), ((h_o_tiles_e 6), .inr (5, [.int ((o_tiles_v 6).1), .int ((o_tiles_v 6).2.1), .int ((o_tiles_v 6).2.2.1), .long ((o_tiles_v 6).2.2.2.1), .long ((o_tiles_v 6).2.2.2.2)])), ((h_o_tiles_e 7), .inr (5, [.int ((o_tiles_v 7).1), .int ((o_tiles_v 7).2.1), .int ((o_tiles_v 7).2.2.1), .long ((o_tiles_v 7).2.2.2.1), .long ((o_tiles_v 7).2.2.2.2)]))]) (va_runV (As := [.ref (h_o_tiles_e 2)]) (rest := []) ⟨hx, hb, hml, hown, hts⟩ (c_X6_copyFrom l dC dI ca sa (h_o_tiles_e 2) h_p1 s.heap.size ((o_tiles_v 2).1) ((o_tiles_v 2).2.1) ((o_tiles_v 2).2.2.1) ((o_tiles_v 2).2.2.2.1) ((o_tiles_v 2).2.2.2.2) p1_wide p1_high p1_hex p1_ones p1_twos  q51 hq51) (cwV 1 hts (ds_gV kw_321 kw_144 kw_145 kw_59 kw_146) rfl rfl rfl (by decide +kernel) ⟨Nat.le_of_ble_eq_true rfl, Nat.le_of_ble_eq_true rfl⟩) ⟨ds_blind, va_recv hK hP (ci := 5) (q0 := 10) rfl rfl, ds_at hP hD hK hE hS hA [4, 10] rfl rfl _⟩ rfl rfl hl.1 rfl (lv_room (Nat.le_of_ble_eq_true rfl)) dX4_giveBack_51 ⟨Nat.zero_le _, Nat.zero_le _⟩) hP hD hS hA [4, 10] [0, 1, 2, 3, 5, 6, 7, 8, 9] rfl rfl rfl (by decide) (fun H locs hP hD hS => ?_)
          have hP : va_P (dC, dI) vwCl [(h_o, .inr (3, [.ref h_o_tiles, .int o_next, .int o_size])), (h_o_tiles, .inl (ca 5, 8, .inr (.inr (.inr (.inr (fun j => some (h_o_tiles_e j))))))), ((h_o_tiles_e 0), .inr (5, [.int ((o_tiles_v 0).1), .int ((o_tiles_v 0).2.1), .int ((o_tiles_v 0).2.2.1), .long ((o_tiles_v 0).2.2.2.1), .long ((o_tiles_v 0).2.2.2.2)])), ((h_o_tiles_e 1), .inr (5, [.int ((o_tiles_v 1).1), .int ((o_tiles_v 1).2.1), .int ((o_tiles_v 1).2.2.1), .long ((o_tiles_v 1).2.2.2.1), .long ((o_tiles_v 1).2.2.2.2)])), ((h_o_tiles_e 3), .inr (5, [.int ((o_tiles_v 3).1), .int ((o_tiles_v 3).2.1), .int ((o_tiles_v 3).2.2.1), .long ((o_tiles_v 3).2.2.2.1), .long ((o_tiles_v 3).2.2.2.2)])), ((h_o_tiles_e 4), .inr (5, [.int ((o_tiles_v 4).1), .int ((o_tiles_v 4).2.1), .int ((o_tiles_v 4).2.2.1), .long ((o_tiles_v 4).2.2.2.1), .long ((o_tiles_v 4).2.2.2.2)])), ((h_o_tiles_e 5), .inr (5, [.int ((o_tiles_v 5).1), .int ((o_tiles_v 5).2.1), .int ((o_tiles_v 5).2.2.1), .long ((o_tiles_v 5).2.2.2.1), .long ((o_tiles_v 5).2.2.2.2)])), ((h_o_tiles_e 6), .inr (5, [.int ((o_tiles_v 6).1), .int ((o_tiles_v 6).2.1), .int ((o_tiles_v 6).2.2.1), .long ((o_tiles_v 6).2.2.2.1), .long ((o_tiles_v 6).2.2.2.2)])), ((h_o_tiles_e 7), .inr (5, [.int ((o_tiles_v 7).1), .int ((o_tiles_v 7).2.1), .int ((o_tiles_v 7).2.2.1), .long ((o_tiles_v 7).2.2.2.1), .long ((o_tiles_v 7).2.2.2.2)])), ((h_o_tiles_e 2), .inr (5, [.int ((o_tiles_v 2).1), .int ((o_tiles_v 2).2.1), .int ((o_tiles_v 2).2.2.1), .long ((o_tiles_v 2).2.2.2.1), .long ((o_tiles_v 2).2.2.2.2)])), (h_p1, .inr (5, [.int q51.1, .int q51.2.1, .int q51.2.2.1, .long q51.2.2.2.1, .long q51.2.2.2.2]))] H := hP
          have hD : va_D A [(h_o, .inr (3, [.ref h_o_tiles, .int o_next, .int o_size])), (h_o_tiles, .inl (ca 5, 8, .inr (.inr (.inr (.inr (fun j => some (h_o_tiles_e j))))))), ((h_o_tiles_e 0), .inr (5, [.int ((o_tiles_v 0).1), .int ((o_tiles_v 0).2.1), .int ((o_tiles_v 0).2.2.1), .long ((o_tiles_v 0).2.2.2.1), .long ((o_tiles_v 0).2.2.2.2)])), ((h_o_tiles_e 1), .inr (5, [.int ((o_tiles_v 1).1), .int ((o_tiles_v 1).2.1), .int ((o_tiles_v 1).2.2.1), .long ((o_tiles_v 1).2.2.2.1), .long ((o_tiles_v 1).2.2.2.2)])), ((h_o_tiles_e 3), .inr (5, [.int ((o_tiles_v 3).1), .int ((o_tiles_v 3).2.1), .int ((o_tiles_v 3).2.2.1), .long ((o_tiles_v 3).2.2.2.1), .long ((o_tiles_v 3).2.2.2.2)])), ((h_o_tiles_e 4), .inr (5, [.int ((o_tiles_v 4).1), .int ((o_tiles_v 4).2.1), .int ((o_tiles_v 4).2.2.1), .long ((o_tiles_v 4).2.2.2.1), .long ((o_tiles_v 4).2.2.2.2)])), ((h_o_tiles_e 5), .inr (5, [.int ((o_tiles_v 5).1), .int ((o_tiles_v 5).2.1), .int ((o_tiles_v 5).2.2.1), .long ((o_tiles_v 5).2.2.2.1), .long ((o_tiles_v 5).2.2.2.2)])), ((h_o_tiles_e 6), .inr (5, [.int ((o_tiles_v 6).1), .int ((o_tiles_v 6).2.1), .int ((o_tiles_v 6).2.2.1), .long ((o_tiles_v 6).2.2.2.1), .long ((o_tiles_v 6).2.2.2.2)])), ((h_o_tiles_e 7), .inr (5, [.int ((o_tiles_v 7).1), .int ((o_tiles_v 7).2.1), .int ((o_tiles_v 7).2.2.1), .long ((o_tiles_v 7).2.2.2.1), .long ((o_tiles_v 7).2.2.2.2)])), ((h_o_tiles_e 2), .inr (5, [.int ((o_tiles_v 2).1), .int ((o_tiles_v 2).2.1), .int ((o_tiles_v 2).2.2.1), .long ((o_tiles_v 2).2.2.2.1), .long ((o_tiles_v 2).2.2.2.2)])), (h_p1, .inr (5, [.int q51.1, .int q51.2.1, .int q51.2.2.1, .long q51.2.2.2.1, .long q51.2.2.2.2]))] := hD
          refine lv_aload_n hx hb dX4_giveBack_54 rfl (lv_at hl 1 rfl) ?_
          refine lv_iload_n hx hb dX4_giveBack_55 rfl (lv_at hl 0 rfl) ?_
          refine va_put (D := (dC, dI)) (ci := 3) (v := .int x12) (ty := tyX4 1) (C := RX4) (T := TX4) (N := 3) hx hb hts (fun w h => List.mem_cons_of_mem _ (kc_X4 w h)) tyX4 tyX4_ok nmX4 hown hK hP hD hS 0 rfl rfl 1 (by decide) (hg kw_319) (fun _ h9 => h9) rfl (by decide +kernel) rfl rfl (Nat.le_of_ble_eq_true rfl) dX4_giveBack_56 (fun H locs hP hD hS => ?_)
          have hP : va_P (dC, dI) vwCl [(h_o, .inr (3, [.ref h_o_tiles, .int x12, .int o_size])), (h_o_tiles, .inl (ca 5, 8, .inr (.inr (.inr (.inr (fun j => some (h_o_tiles_e j))))))), ((h_o_tiles_e 0), .inr (5, [.int ((o_tiles_v 0).1), .int ((o_tiles_v 0).2.1), .int ((o_tiles_v 0).2.2.1), .long ((o_tiles_v 0).2.2.2.1), .long ((o_tiles_v 0).2.2.2.2)])), ((h_o_tiles_e 1), .inr (5, [.int ((o_tiles_v 1).1), .int ((o_tiles_v 1).2.1), .int ((o_tiles_v 1).2.2.1), .long ((o_tiles_v 1).2.2.2.1), .long ((o_tiles_v 1).2.2.2.2)])), ((h_o_tiles_e 3), .inr (5, [.int ((o_tiles_v 3).1), .int ((o_tiles_v 3).2.1), .int ((o_tiles_v 3).2.2.1), .long ((o_tiles_v 3).2.2.2.1), .long ((o_tiles_v 3).2.2.2.2)])), ((h_o_tiles_e 4), .inr (5, [.int ((o_tiles_v 4).1), .int ((o_tiles_v 4).2.1), .int ((o_tiles_v 4).2.2.1), .long ((o_tiles_v 4).2.2.2.1), .long ((o_tiles_v 4).2.2.2.2)])), ((h_o_tiles_e 5), .inr (5, [.int ((o_tiles_v 5).1), .int ((o_tiles_v 5).2.1), .int ((o_tiles_v 5).2.2.1), .long ((o_tiles_v 5).2.2.2.1), .long ((o_tiles_v 5).2.2.2.2)])), ((h_o_tiles_e 6), .inr (5, [.int ((o_tiles_v 6).1), .int ((o_tiles_v 6).2.1), .int ((o_tiles_v 6).2.2.1), .long ((o_tiles_v 6).2.2.2.1), .long ((o_tiles_v 6).2.2.2.2)])), ((h_o_tiles_e 7), .inr (5, [.int ((o_tiles_v 7).1), .int ((o_tiles_v 7).2.1), .int ((o_tiles_v 7).2.2.1), .long ((o_tiles_v 7).2.2.2.1), .long ((o_tiles_v 7).2.2.2.2)])), ((h_o_tiles_e 2), .inr (5, [.int ((o_tiles_v 2).1), .int ((o_tiles_v 2).2.1), .int ((o_tiles_v 2).2.2.1), .long ((o_tiles_v 2).2.2.2.1), .long ((o_tiles_v 2).2.2.2.2)])), (h_p1, .inr (5, [.int q51.1, .int q51.2.1, .int q51.2.2.1, .long q51.2.2.2.1, .long q51.2.2.2.2]))] H := hP
          have hD : va_D A [(h_o, .inr (3, [.ref h_o_tiles, .int x12, .int o_size])), (h_o_tiles, .inl (ca 5, 8, .inr (.inr (.inr (.inr (fun j => some (h_o_tiles_e j))))))), ((h_o_tiles_e 0), .inr (5, [.int ((o_tiles_v 0).1), .int ((o_tiles_v 0).2.1), .int ((o_tiles_v 0).2.2.1), .long ((o_tiles_v 0).2.2.2.1), .long ((o_tiles_v 0).2.2.2.2)])), ((h_o_tiles_e 1), .inr (5, [.int ((o_tiles_v 1).1), .int ((o_tiles_v 1).2.1), .int ((o_tiles_v 1).2.2.1), .long ((o_tiles_v 1).2.2.2.1), .long ((o_tiles_v 1).2.2.2.2)])), ((h_o_tiles_e 3), .inr (5, [.int ((o_tiles_v 3).1), .int ((o_tiles_v 3).2.1), .int ((o_tiles_v 3).2.2.1), .long ((o_tiles_v 3).2.2.2.1), .long ((o_tiles_v 3).2.2.2.2)])), ((h_o_tiles_e 4), .inr (5, [.int ((o_tiles_v 4).1), .int ((o_tiles_v 4).2.1), .int ((o_tiles_v 4).2.2.1), .long ((o_tiles_v 4).2.2.2.1), .long ((o_tiles_v 4).2.2.2.2)])), ((h_o_tiles_e 5), .inr (5, [.int ((o_tiles_v 5).1), .int ((o_tiles_v 5).2.1), .int ((o_tiles_v 5).2.2.1), .long ((o_tiles_v 5).2.2.2.1), .long ((o_tiles_v 5).2.2.2.2)])), ((h_o_tiles_e 6), .inr (5, [.int ((o_tiles_v 6).1), .int ((o_tiles_v 6).2.1), .int ((o_tiles_v 6).2.2.1), .long ((o_tiles_v 6).2.2.2.1), .long ((o_tiles_v 6).2.2.2.2)])), ((h_o_tiles_e 7), .inr (5, [.int ((o_tiles_v 7).1), .int ((o_tiles_v 7).2.1), .int ((o_tiles_v 7).2.2.1), .long ((o_tiles_v 7).2.2.2.1), .long ((o_tiles_v 7).2.2.2.2)])), ((h_o_tiles_e 2), .inr (5, [.int ((o_tiles_v 2).1), .int ((o_tiles_v 2).2.1), .int ((o_tiles_v 2).2.2.1), .long ((o_tiles_v 2).2.2.2.1), .long ((o_tiles_v 2).2.2.2.2)])), (h_p1, .inr (5, [.int q51.1, .int q51.2.1, .int q51.2.2.1, .long q51.2.2.2.1, .long q51.2.2.2.2]))] := hD
          refine lv_aload_n hx hb dX4_giveBack_59 rfl (lv_at hl 1 rfl) ?_
          refine lv_dup hx hb dX4_giveBack_60 rfl ?_
          refine va_get (D := (dC, dI)) (ci := 3) (v := .int o_size) (C := RX4) (T := TX4) (N := 3) hx hb hts (fun w h => List.mem_cons_of_mem _ (kc_X4 w h)) hown hK hP 0 rfl rfl 2 (by decide) (hg kw_315) (fun _ h9 => h9) rfl dX4_giveBack_61 ?_
          refine lv_iconst (v := 1) hx hb dX4_giveBack_64 (by decide) ?_
          refine lv_isub hx hb dX4_giveBack_65 ?_
          refine va_put (D := (dC, dI)) (ci := 3) (v := .int (o_size - (1 : Int32))) (ty := tyX4 2) (C := RX4) (T := TX4) (N := 3) hx hb hts (fun w h => List.mem_cons_of_mem _ (kc_X4 w h)) tyX4 tyX4_ok nmX4 hown hK hP hD hS 0 rfl rfl 2 (by decide) (hg kw_315) (fun _ h9 => h9) rfl (by decide +kernel) rfl rfl (Nat.le_of_ble_eq_true rfl) dX4_giveBack_66 (fun H locs hP hD hS => ?_)
          have hP : va_P (dC, dI) vwCl [(h_o, .inr (3, [.ref h_o_tiles, .int x12, .int (o_size - (1 : Int32))])), (h_o_tiles, .inl (ca 5, 8, .inr (.inr (.inr (.inr (fun j => some (h_o_tiles_e j))))))), ((h_o_tiles_e 0), .inr (5, [.int ((o_tiles_v 0).1), .int ((o_tiles_v 0).2.1), .int ((o_tiles_v 0).2.2.1), .long ((o_tiles_v 0).2.2.2.1), .long ((o_tiles_v 0).2.2.2.2)])), ((h_o_tiles_e 1), .inr (5, [.int ((o_tiles_v 1).1), .int ((o_tiles_v 1).2.1), .int ((o_tiles_v 1).2.2.1), .long ((o_tiles_v 1).2.2.2.1), .long ((o_tiles_v 1).2.2.2.2)])), ((h_o_tiles_e 3), .inr (5, [.int ((o_tiles_v 3).1), .int ((o_tiles_v 3).2.1), .int ((o_tiles_v 3).2.2.1), .long ((o_tiles_v 3).2.2.2.1), .long ((o_tiles_v 3).2.2.2.2)])), ((h_o_tiles_e 4), .inr (5, [.int ((o_tiles_v 4).1), .int ((o_tiles_v 4).2.1), .int ((o_tiles_v 4).2.2.1), .long ((o_tiles_v 4).2.2.2.1), .long ((o_tiles_v 4).2.2.2.2)])), ((h_o_tiles_e 5), .inr (5, [.int ((o_tiles_v 5).1), .int ((o_tiles_v 5).2.1), .int ((o_tiles_v 5).2.2.1), .long ((o_tiles_v 5).2.2.2.1), .long ((o_tiles_v 5).2.2.2.2)])), ((h_o_tiles_e 6), .inr (5, [.int ((o_tiles_v 6).1), .int ((o_tiles_v 6).2.1), .int ((o_tiles_v 6).2.2.1), .long ((o_tiles_v 6).2.2.2.1), .long ((o_tiles_v 6).2.2.2.2)])), ((h_o_tiles_e 7), .inr (5, [.int ((o_tiles_v 7).1), .int ((o_tiles_v 7).2.1), .int ((o_tiles_v 7).2.2.1), .long ((o_tiles_v 7).2.2.2.1), .long ((o_tiles_v 7).2.2.2.2)])), ((h_o_tiles_e 2), .inr (5, [.int ((o_tiles_v 2).1), .int ((o_tiles_v 2).2.1), .int ((o_tiles_v 2).2.2.1), .long ((o_tiles_v 2).2.2.2.1), .long ((o_tiles_v 2).2.2.2.2)])), (h_p1, .inr (5, [.int q51.1, .int q51.2.1, .int q51.2.2.1, .long q51.2.2.2.1, .long q51.2.2.2.2]))] H := hP
          have hD : va_D A [(h_o, .inr (3, [.ref h_o_tiles, .int x12, .int (o_size - (1 : Int32))])), (h_o_tiles, .inl (ca 5, 8, .inr (.inr (.inr (.inr (fun j => some (h_o_tiles_e j))))))), ((h_o_tiles_e 0), .inr (5, [.int ((o_tiles_v 0).1), .int ((o_tiles_v 0).2.1), .int ((o_tiles_v 0).2.2.1), .long ((o_tiles_v 0).2.2.2.1), .long ((o_tiles_v 0).2.2.2.2)])), ((h_o_tiles_e 1), .inr (5, [.int ((o_tiles_v 1).1), .int ((o_tiles_v 1).2.1), .int ((o_tiles_v 1).2.2.1), .long ((o_tiles_v 1).2.2.2.1), .long ((o_tiles_v 1).2.2.2.2)])), ((h_o_tiles_e 3), .inr (5, [.int ((o_tiles_v 3).1), .int ((o_tiles_v 3).2.1), .int ((o_tiles_v 3).2.2.1), .long ((o_tiles_v 3).2.2.2.1), .long ((o_tiles_v 3).2.2.2.2)])), ((h_o_tiles_e 4), .inr (5, [.int ((o_tiles_v 4).1), .int ((o_tiles_v 4).2.1), .int ((o_tiles_v 4).2.2.1), .long ((o_tiles_v 4).2.2.2.1), .long ((o_tiles_v 4).2.2.2.2)])), ((h_o_tiles_e 5), .inr (5, [.int ((o_tiles_v 5).1), .int ((o_tiles_v 5).2.1), .int ((o_tiles_v 5).2.2.1), .long ((o_tiles_v 5).2.2.2.1), .long ((o_tiles_v 5).2.2.2.2)])), ((h_o_tiles_e 6), .inr (5, [.int ((o_tiles_v 6).1), .int ((o_tiles_v 6).2.1), .int ((o_tiles_v 6).2.2.1), .long ((o_tiles_v 6).2.2.2.1), .long ((o_tiles_v 6).2.2.2.2)])), ((h_o_tiles_e 7), .inr (5, [.int ((o_tiles_v 7).1), .int ((o_tiles_v 7).2.1), .int ((o_tiles_v 7).2.2.1), .long ((o_tiles_v 7).2.2.2.1), .long ((o_tiles_v 7).2.2.2.2)])), ((h_o_tiles_e 2), .inr (5, [.int ((o_tiles_v 2).1), .int ((o_tiles_v 2).2.1), .int ((o_tiles_v 2).2.2.1), .long ((o_tiles_v 2).2.2.2.1), .long ((o_tiles_v 2).2.2.2.2)])), (h_p1, .inr (5, [.int q51.1, .int q51.2.1, .int q51.2.2.1, .long q51.2.2.2.1, .long q51.2.2.2.2]))] := hD
          refine lv_iconst (v := 1) hx hb dX4_giveBack_69 (by decide) ?_
          have hf := Option.some.inj hf
          subst hf
          rw [eG0] at hG
          have hG : _ = res := hG
          subst hG
          exact W.zret (v := (1 : Int32)) (ty := .boolean) hx hb hr rfl (fun t ht hW => ⟨⟨(1 : Int32), (), rfl, rfl, by rw [ht]; exact (hP.sub [0, 1, 2, 3, 9, 4, 5, 6, 7, 8, 10] rfl), (hD.sub [0, 1, 2, 3, 9, 4, 5, 6, 7, 8, 10] rfl rfl)⟩, hS.F ht⟩) hS.2.2 dX4_giveBack_70
        replace hf := ds_f c_38_2 hf
        by_cases c_38_3 : x12 = 3
        · replace hf := ds_t c_38_3 hf
          refine ds_ai (f := fun j => some (h_o_tiles_e j)) (k := 3) (by rw [c_38_3]; decide) ?_
          refine lv_ifnonnull (tgt := 44) hx hb dX4_giveBack_39 (by decide) ?_
          refine lv_aload_n hx hb dX4_giveBack_44 rfl (lv_at hl 2 rfl) ?_
          refine lv_aload_n hx hb dX4_giveBack_45 rfl (lv_at hl 1 rfl) ?_
          refine va_get (D := (dC, dI)) (ci := 3) (v := .ref h_o_tiles) (C := RX4) (T := TX4) (N := 3) hx hb hts (fun w h => List.mem_cons_of_mem _ (kc_X4 w h)) hown hK hP 0 rfl rfl 0 (by decide) (hg kw_320) (fun _ h9 => h9) rfl dX4_giveBack_46 ?_
          refine lv_iload_n hx hb dX4_giveBack_49 rfl (lv_at hl 0 rfl) ?_
          refine va_aldq hx hb hK hP 1 5 rfl rfl b_38 dX4_giveBack_50 ?_
          refine ds_ai (f := fun j => some (h_o_tiles_e j)) (k := 3) (by rw [c_38_3]; decide) ?_
          obtain ⟨q51, hq51, hf⟩ := ds_ob hf
          refine ds_callv (wr := [(h_o, .inr (3, [.ref h_o_tiles, .int o_next, .int o_size])), (h_o_tiles, .inl (ca 5, 8, .inr (.inr (.inr (.inr (fun j => some (h_o_tiles_e j))))))), ((h_o_tiles_e 0), .inr (5, [.int ((o_tiles_v 0).1), .int ((o_tiles_v 0).2.1), .int ((o_tiles_v 0).2.2.1), .long ((o_tiles_v 0).2.2.2.1), .long ((o_tiles_v 0).2.2.2.2)])), ((h_o_tiles_e 1), .inr (5, [.int ((o_tiles_v 1).1), .int ((o_tiles_v 1).2.1), .int ((o_tiles_v 1).2.2.1), .long ((o_tiles_v 1).2.2.2.1), .long ((o_tiles_v 1).2.2.2.2)])), ((h_o_tiles_e 2), .inr (5, [.int ((o_tiles_v 2).1), .int ((o_tiles_v 2).2.1), .int ((o_tiles_v 2).2.2.1), .long ((o_tiles_v 2).2.2.2.1), .long ((o_tiles_v 2).2.2.2.2)])), ((h_o_tiles_e 4), .inr (5, [.int ((o_tiles_v 4).1), .int ((o_tiles_v 4).2.1), .int ((o_tiles_v 4).2.2.1), .long ((o_tiles_v 4).2.2.2.1), .long ((o_tiles_v 4).2.2.2.2)])), ((h_o_tiles_e 5), .inr (5, [.int ((o_tiles_v 5).1), .int ((o_tiles_v 5).2.1), .int ((o_tiles_v 5).2.2.1), .long ((o_tiles_v 5).2.2.2.1), .long ((o_tiles_v 5).2.2.2.2)])), ((h_o_tiles_e 6), .inr (5, [.int ((o_tiles_v 6).1), .int ((o_tiles_v 6).2.1), .int ((o_tiles_v 6).2.2.1), .long ((o_tiles_v 6).2.2.2.1), .long ((o_tiles_v 6).2.2.2.2)])), ((h_o_tiles_e 7), .inr (5, [.int ((o_tiles_v 7).1), .int ((o_tiles_v 7).2.1), .int ((o_tiles_v 7).2.2.1), .long ((o_tiles_v 7).2.2.2.1), .long ((o_tiles_v 7).2.2.2.2)]))]) (va_runV (As := [.ref (h_o_tiles_e 3)]) (rest := []) ⟨hx, hb, hml, hown, hts⟩ (c_X6_copyFrom l dC dI ca sa (h_o_tiles_e 3) h_p1 s.heap.size ((o_tiles_v 3).1) ((o_tiles_v 3).2.1) ((o_tiles_v 3).2.2.1) ((o_tiles_v 3).2.2.2.1) ((o_tiles_v 3).2.2.2.2) p1_wide p1_high p1_hex p1_ones p1_twos  q51 hq51) (cwV 1 hts (ds_gV kw_321 kw_144 kw_145 kw_59 kw_146) rfl rfl rfl (by decide +kernel) ⟨Nat.le_of_ble_eq_true rfl, Nat.le_of_ble_eq_true rfl⟩) ⟨ds_blind, va_recv hK hP (ci := 5) (q0 := 10) rfl rfl, ds_at hP hD hK hE hS hA [5, 10] rfl rfl _⟩ rfl rfl hl.1 rfl (lv_room (Nat.le_of_ble_eq_true rfl)) dX4_giveBack_51 ⟨Nat.zero_le _, Nat.zero_le _⟩) hP hD hS hA [5, 10] [0, 1, 2, 3, 4, 6, 7, 8, 9] rfl rfl rfl (by decide) (fun H locs hP hD hS => ?_)
          have hP : va_P (dC, dI) vwCl [(h_o, .inr (3, [.ref h_o_tiles, .int o_next, .int o_size])), (h_o_tiles, .inl (ca 5, 8, .inr (.inr (.inr (.inr (fun j => some (h_o_tiles_e j))))))), ((h_o_tiles_e 0), .inr (5, [.int ((o_tiles_v 0).1), .int ((o_tiles_v 0).2.1), .int ((o_tiles_v 0).2.2.1), .long ((o_tiles_v 0).2.2.2.1), .long ((o_tiles_v 0).2.2.2.2)])), ((h_o_tiles_e 1), .inr (5, [.int ((o_tiles_v 1).1), .int ((o_tiles_v 1).2.1), .int ((o_tiles_v 1).2.2.1), .long ((o_tiles_v 1).2.2.2.1), .long ((o_tiles_v 1).2.2.2.2)])), ((h_o_tiles_e 2), .inr (5, [.int ((o_tiles_v 2).1), .int ((o_tiles_v 2).2.1), .int ((o_tiles_v 2).2.2.1), .long ((o_tiles_v 2).2.2.2.1), .long ((o_tiles_v 2).2.2.2.2)])), ((h_o_tiles_e 4), .inr (5, [.int ((o_tiles_v 4).1), .int ((o_tiles_v 4).2.1), .int ((o_tiles_v 4).2.2.1), .long ((o_tiles_v 4).2.2.2.1), .long ((o_tiles_v 4).2.2.2.2)])), ((h_o_tiles_e 5), .inr (5, [.int ((o_tiles_v 5).1), .int ((o_tiles_v 5).2.1), .int ((o_tiles_v 5).2.2.1), .long ((o_tiles_v 5).2.2.2.1), .long ((o_tiles_v 5).2.2.2.2)])), ((h_o_tiles_e 6), .inr (5, [.int ((o_tiles_v 6).1), .int ((o_tiles_v 6).2.1), .int ((o_tiles_v 6).2.2.1), .long ((o_tiles_v 6).2.2.2.1), .long ((o_tiles_v 6).2.2.2.2)])), ((h_o_tiles_e 7), .inr (5, [.int ((o_tiles_v 7).1), .int ((o_tiles_v 7).2.1), .int ((o_tiles_v 7).2.2.1), .long ((o_tiles_v 7).2.2.2.1), .long ((o_tiles_v 7).2.2.2.2)])), ((h_o_tiles_e 3), .inr (5, [.int ((o_tiles_v 3).1), .int ((o_tiles_v 3).2.1), .int ((o_tiles_v 3).2.2.1), .long ((o_tiles_v 3).2.2.2.1), .long ((o_tiles_v 3).2.2.2.2)])), (h_p1, .inr (5, [.int q51.1, .int q51.2.1, .int q51.2.2.1, .long q51.2.2.2.1, .long q51.2.2.2.2]))] H := hP
          have hD : va_D A [(h_o, .inr (3, [.ref h_o_tiles, .int o_next, .int o_size])), (h_o_tiles, .inl (ca 5, 8, .inr (.inr (.inr (.inr (fun j => some (h_o_tiles_e j))))))), ((h_o_tiles_e 0), .inr (5, [.int ((o_tiles_v 0).1), .int ((o_tiles_v 0).2.1), .int ((o_tiles_v 0).2.2.1), .long ((o_tiles_v 0).2.2.2.1), .long ((o_tiles_v 0).2.2.2.2)])), ((h_o_tiles_e 1), .inr (5, [.int ((o_tiles_v 1).1), .int ((o_tiles_v 1).2.1), .int ((o_tiles_v 1).2.2.1), .long ((o_tiles_v 1).2.2.2.1), .long ((o_tiles_v 1).2.2.2.2)])), ((h_o_tiles_e 2), .inr (5, [.int ((o_tiles_v 2).1), .int ((o_tiles_v 2).2.1), .int ((o_tiles_v 2).2.2.1), .long ((o_tiles_v 2).2.2.2.1), .long ((o_tiles_v 2).2.2.2.2)])), ((h_o_tiles_e 4), .inr (5, [.int ((o_tiles_v 4).1), .int ((o_tiles_v 4).2.1), .int ((o_tiles_v 4).2.2.1), .long ((o_tiles_v 4).2.2.2.1), .long ((o_tiles_v 4).2.2.2.2)])), ((h_o_tiles_e 5), .inr (5, [.int ((o_tiles_v 5).1), .int ((o_tiles_v 5).2.1), .int ((o_tiles_v 5).2.2.1), .long ((o_tiles_v 5).2.2.2.1), .long ((o_tiles_v 5).2.2.2.2)])), ((h_o_tiles_e 6), .inr (5, [.int ((o_tiles_v 6).1), .int ((o_tiles_v 6).2.1), .int ((o_tiles_v 6).2.2.1), .long ((o_tiles_v 6).2.2.2.1), .long ((o_tiles_v 6).2.2.2.2)])), ((h_o_tiles_e 7), .inr (5, [.int ((o_tiles_v 7).1), .int ((o_tiles_v 7).2.1), .int ((o_tiles_v 7).2.2.1), .long ((o_tiles_v 7).2.2.2.1), .long ((o_tiles_v 7).2.2.2.2)])), ((h_o_tiles_e 3), .inr (5, [.int ((o_tiles_v 3).1), .int ((o_tiles_v 3).2.1), .int ((o_tiles_v 3).2.2.1), .long ((o_tiles_v 3).2.2.2.1), .long ((o_tiles_v 3).2.2.2.2)])), (h_p1, .inr (5, [.int q51.1, .int q51.2.1, .int q51.2.2.1, .long q51.2.2.2.1, .long q51.2.2.2.2]))] := hD
          refine lv_aload_n hx hb dX4_giveBack_54 rfl (lv_at hl 1 rfl) ?_
          refine lv_iload_n hx hb dX4_giveBack_55 rfl (lv_at hl 0 rfl) ?_
          refine va_put (D := (dC, dI)) (ci := 3) (v := .int x12) (ty := tyX4 1) (C := RX4) (T := TX4) (N := 3) hx hb hts (fun w h => List.mem_cons_of_mem _ (kc_X4 w h)) tyX4 tyX4_ok nmX4 hown hK hP hD hS 0 rfl rfl 1 (by decide) (hg kw_319) (fun _ h9 => h9) rfl (by decide +kernel) rfl rfl (Nat.le_of_ble_eq_true rfl) dX4_giveBack_56 (fun H locs hP hD hS => ?_)
          have hP : va_P (dC, dI) vwCl [(h_o, .inr (3, [.ref h_o_tiles, .int x12, .int o_size])), (h_o_tiles, .inl (ca 5, 8, .inr (.inr (.inr (.inr (fun j => some (h_o_tiles_e j))))))), ((h_o_tiles_e 0), .inr (5, [.int ((o_tiles_v 0).1), .int ((o_tiles_v 0).2.1), .int ((o_tiles_v 0).2.2.1), .long ((o_tiles_v 0).2.2.2.1), .long ((o_tiles_v 0).2.2.2.2)])), ((h_o_tiles_e 1), .inr (5, [.int ((o_tiles_v 1).1), .int ((o_tiles_v 1).2.1), .int ((o_tiles_v 1).2.2.1), .long ((o_tiles_v 1).2.2.2.1), .long ((o_tiles_v 1).2.2.2.2)])), ((h_o_tiles_e 2), .inr (5, [.int ((o_tiles_v 2).1), .int ((o_tiles_v 2).2.1), .int ((o_tiles_v 2).2.2.1), .long ((o_tiles_v 2).2.2.2.1), .long ((o_tiles_v 2).2.2.2.2)])), ((h_o_tiles_e 4), .inr (5, [.int ((o_tiles_v 4).1), .int ((o_tiles_v 4).2.1), .int ((o_tiles_v 4).2.2.1), .long ((o_tiles_v 4).2.2.2.1), .long ((o_tiles_v 4).2.2.2.2)])), ((h_o_tiles_e 5), .inr (5, [.int ((o_tiles_v 5).1), .int ((o_tiles_v 5).2.1), .int ((o_tiles_v 5).2.2.1), .long ((o_tiles_v 5).2.2.2.1), .long ((o_tiles_v 5).2.2.2.2)])), ((h_o_tiles_e 6), .inr (5, [.int ((o_tiles_v 6).1), .int ((o_tiles_v 6).2.1), .int ((o_tiles_v 6).2.2.1), .long ((o_tiles_v 6).2.2.2.1), .long ((o_tiles_v 6).2.2.2.2)])), ((h_o_tiles_e 7), .inr (5, [.int ((o_tiles_v 7).1), .int ((o_tiles_v 7).2.1), .int ((o_tiles_v 7).2.2.1), .long ((o_tiles_v 7).2.2.2.1), .long ((o_tiles_v 7).2.2.2.2)])), ((h_o_tiles_e 3), .inr (5, [.int ((o_tiles_v 3).1), .int ((o_tiles_v 3).2.1), .int ((o_tiles_v 3).2.2.1), .long ((o_tiles_v 3).2.2.2.1), .long ((o_tiles_v 3).2.2.2.2)])), (h_p1, .inr (5, [.int q51.1, .int q51.2.1, .int q51.2.2.1, .long q51.2.2.2.1, .long q51.2.2.2.2]))] H := hP
          have hD : va_D A [(h_o, .inr (3, [.ref h_o_tiles, .int x12, .int o_size])), (h_o_tiles, .inl (ca 5, 8, .inr (.inr (.inr (.inr (fun j => some (h_o_tiles_e j))))))), ((h_o_tiles_e 0), .inr (5, [.int ((o_tiles_v 0).1), .int ((o_tiles_v 0).2.1), .int ((o_tiles_v 0).2.2.1), .long ((o_tiles_v 0).2.2.2.1), .long ((o_tiles_v 0).2.2.2.2)])), ((h_o_tiles_e 1), .inr (5, [.int ((o_tiles_v 1).1), .int ((o_tiles_v 1).2.1), .int ((o_tiles_v 1).2.2.1), .long ((o_tiles_v 1).2.2.2.1), .long ((o_tiles_v 1).2.2.2.2)])), ((h_o_tiles_e 2), .inr (5, [.int ((o_tiles_v 2).1), .int ((o_tiles_v 2).2.1), .int ((o_tiles_v 2).2.2.1), .long ((o_tiles_v 2).2.2.2.1), .long ((o_tiles_v 2).2.2.2.2)])), ((h_o_tiles_e 4), .inr (5, [.int ((o_tiles_v 4).1), .int ((o_tiles_v 4).2.1), .int ((o_tiles_v 4).2.2.1), .long ((o_tiles_v 4).2.2.2.1), .long ((o_tiles_v 4).2.2.2.2)])), ((h_o_tiles_e 5), .inr (5, [.int ((o_tiles_v 5).1), .int ((o_tiles_v 5).2.1), .int ((o_tiles_v 5).2.2.1), .long ((o_tiles_v 5).2.2.2.1), .long ((o_tiles_v 5).2.2.2.2)])), ((h_o_tiles_e 6), .inr (5, [.int ((o_tiles_v 6).1), .int ((o_tiles_v 6).2.1), .int ((o_tiles_v 6).2.2.1), .long ((o_tiles_v 6).2.2.2.1), .long ((o_tiles_v 6).2.2.2.2)])), ((h_o_tiles_e 7), .inr (5, [.int ((o_tiles_v 7).1), .int ((o_tiles_v 7).2.1), .int ((o_tiles_v 7).2.2.1), .long ((o_tiles_v 7).2.2.2.1), .long ((o_tiles_v 7).2.2.2.2)])), ((h_o_tiles_e 3), .inr (5, [.int ((o_tiles_v 3).1), .int ((o_tiles_v 3).2.1), .int ((o_tiles_v 3).2.2.1), .long ((o_tiles_v 3).2.2.2.1), .long ((o_tiles_v 3).2.2.2.2)])), (h_p1, .inr (5, [.int q51.1, .int q51.2.1, .int q51.2.2.1, .long q51.2.2.2.1, .long q51.2.2.2.2]))] := hD
          refine lv_aload_n hx hb dX4_giveBack_59 rfl (lv_at hl 1 rfl) ?_
          refine lv_dup hx hb dX4_giveBack_60 rfl ?_
          refine va_get (D := (dC, dI)) (ci := 3) (v := .int o_size) (C := RX4) (T := TX4) (N := 3) hx hb hts (fun w h => List.mem_cons_of_mem _ (kc_X4 w h)) hown hK hP 0 rfl rfl 2 (by decide) (hg kw_315) (fun _ h9 => h9) rfl dX4_giveBack_61 ?_
          refine lv_iconst (v := 1) hx hb dX4_giveBack_64 (by decide) ?_
          refine lv_isub hx hb dX4_giveBack_65 ?_
          refine va_put (D := (dC, dI)) (ci := 3) (v := .int (o_size - (1 : Int32))) (ty := tyX4 2) (C := RX4) (T := TX4) (N := 3) hx hb hts (fun w h => List.mem_cons_of_mem _ (kc_X4 w h)) tyX4 tyX4_ok nmX4 hown hK hP hD hS 0 rfl rfl 2 (by decide) (hg kw_315) (fun _ h9 => h9) rfl (by decide +kernel) rfl rfl (Nat.le_of_ble_eq_true rfl) dX4_giveBack_66 (fun H locs hP hD hS => ?_)
          have hP : va_P (dC, dI) vwCl [(h_o, .inr (3, [.ref h_o_tiles, .int x12, .int (o_size - (1 : Int32))])), (h_o_tiles, .inl (ca 5, 8, .inr (.inr (.inr (.inr (fun j => some (h_o_tiles_e j))))))), ((h_o_tiles_e 0), .inr (5, [.int ((o_tiles_v 0).1), .int ((o_tiles_v 0).2.1), .int ((o_tiles_v 0).2.2.1), .long ((o_tiles_v 0).2.2.2.1), .long ((o_tiles_v 0).2.2.2.2)])), ((h_o_tiles_e 1), .inr (5, [.int ((o_tiles_v 1).1), .int ((o_tiles_v 1).2.1), .int ((o_tiles_v 1).2.2.1), .long ((o_tiles_v 1).2.2.2.1), .long ((o_tiles_v 1).2.2.2.2)])), ((h_o_tiles_e 2), .inr (5, [.int ((o_tiles_v 2).1), .int ((o_tiles_v 2).2.1), .int ((o_tiles_v 2).2.2.1), .long ((o_tiles_v 2).2.2.2.1), .long ((o_tiles_v 2).2.2.2.2)])), ((h_o_tiles_e 4), .inr (5, [.int ((o_tiles_v 4).1), .int ((o_tiles_v 4).2.1), .int ((o_tiles_v 4).2.2.1), .long ((o_tiles_v 4).2.2.2.1), .long ((o_tiles_v 4).2.2.2.2)])), ((h_o_tiles_e 5), .inr (5, [.int ((o_tiles_v 5).1), .int ((o_tiles_v 5).2.1), .int ((o_tiles_v 5).2.2.1), .long ((o_tiles_v 5).2.2.2.1), .long ((o_tiles_v 5).2.2.2.2)])), ((h_o_tiles_e 6), .inr (5, [.int ((o_tiles_v 6).1), .int ((o_tiles_v 6).2.1), .int ((o_tiles_v 6).2.2.1), .long ((o_tiles_v 6).2.2.2.1), .long ((o_tiles_v 6).2.2.2.2)])), ((h_o_tiles_e 7), .inr (5, [.int ((o_tiles_v 7).1), .int ((o_tiles_v 7).2.1), .int ((o_tiles_v 7).2.2.1), .long ((o_tiles_v 7).2.2.2.1), .long ((o_tiles_v 7).2.2.2.2)])), ((h_o_tiles_e 3), .inr (5, [.int ((o_tiles_v 3).1), .int ((o_tiles_v 3).2.1), .int ((o_tiles_v 3).2.2.1), .long ((o_tiles_v 3).2.2.2.1), .long ((o_tiles_v 3).2.2.2.2)])), (h_p1, .inr (5, [.int q51.1, .int q51.2.1, .int q51.2.2.1, .long q51.2.2.2.1, .long q51.2.2.2.2]))] H := hP
          have hD : va_D A [(h_o, .inr (3, [.ref h_o_tiles, .int x12, .int (o_size - (1 : Int32))])), (h_o_tiles, .inl (ca 5, 8, .inr (.inr (.inr (.inr (fun j => some (h_o_tiles_e j))))))), ((h_o_tiles_e 0), .inr (5, [.int ((o_tiles_v 0).1), .int ((o_tiles_v 0).2.1), .int ((o_tiles_v 0).2.2.1), .long ((o_tiles_v 0).2.2.2.1), .long ((o_tiles_v 0).2.2.2.2)])), ((h_o_tiles_e 1), .inr (5, [.int ((o_tiles_v 1).1), .int ((o_tiles_v 1).2.1), .int ((o_tiles_v 1).2.2.1), .long ((o_tiles_v 1).2.2.2.1), .long ((o_tiles_v 1).2.2.2.2)])), ((h_o_tiles_e 2), .inr (5, [.int ((o_tiles_v 2).1), .int ((o_tiles_v 2).2.1), .int ((o_tiles_v 2).2.2.1), .long ((o_tiles_v 2).2.2.2.1), .long ((o_tiles_v 2).2.2.2.2)])), ((h_o_tiles_e 4), .inr (5, [.int ((o_tiles_v 4).1), .int ((o_tiles_v 4).2.1), .int ((o_tiles_v 4).2.2.1), .long ((o_tiles_v 4).2.2.2.1), .long ((o_tiles_v 4).2.2.2.2)])), ((h_o_tiles_e 5), .inr (5, [.int ((o_tiles_v 5).1), .int ((o_tiles_v 5).2.1), .int ((o_tiles_v 5).2.2.1), .long ((o_tiles_v 5).2.2.2.1), .long ((o_tiles_v 5).2.2.2.2)])), ((h_o_tiles_e 6), .inr (5, [.int ((o_tiles_v 6).1), .int ((o_tiles_v 6).2.1), .int ((o_tiles_v 6).2.2.1), .long ((o_tiles_v 6).2.2.2.1), .long ((o_tiles_v 6).2.2.2.2)])), ((h_o_tiles_e 7), .inr (5, [.int ((o_tiles_v 7).1), .int ((o_tiles_v 7).2.1), .int ((o_tiles_v 7).2.2.1), .long ((o_tiles_v 7).2.2.2.1), .long ((o_tiles_v 7).2.2.2.2)])), ((h_o_tiles_e 3), .inr (5, [.int ((o_tiles_v 3).1), .int ((o_tiles_v 3).2.1), .int ((o_tiles_v 3).2.2.1), .long ((o_tiles_v 3).2.2.2.1), .long ((o_tiles_v 3).2.2.2.2)])), (h_p1, .inr (5, [.int q51.1, .int q51.2.1, .int q51.2.2.1, .long q51.2.2.2.1, .long q51.2.2.2.2]))] := hD
          refine lv_iconst (v := 1) hx hb dX4_giveBack_69 (by decide) ?_
          have hf := Option.some.inj hf
          subst hf
          rw [eG0] at hG
          have hG : _ = res := hG
          subst hG
          exact W.zret (v := (1 : Int32)) (ty := .boolean) hx hb hr rfl (fun t ht hW => ⟨⟨(1 : Int32), (), rfl, rfl, by rw [ht]; exact (hP.sub [0, 1, 2, 3, 4, 9, 5, 6, 7, 8, 10] rfl), (hD.sub [0, 1, 2, 3, 4, 9, 5, 6, 7, 8, 10] rfl rfl)⟩, hS.F ht⟩) hS.2.2 dX4_giveBack_70
        replace hf := ds_f c_38_3 hf
        by_cases c_38_4 : x12 = 4
        · replace hf := ds_t c_38_4 hf
          refine ds_ai (f := fun j => some (h_o_tiles_e j)) (k := 4) (by rw [c_38_4]; decide) ?_
          refine lv_ifnonnull (tgt := 44) hx hb dX4_giveBack_39 (by decide) ?_
          refine lv_aload_n hx hb dX4_giveBack_44 rfl (lv_at hl 2 rfl) ?_
          refine lv_aload_n hx hb dX4_giveBack_45 rfl (lv_at hl 1 rfl) ?_
          refine va_get (D := (dC, dI)) (ci := 3) (v := .ref h_o_tiles) (C := RX4) (T := TX4) (N := 3) hx hb hts (fun w h => List.mem_cons_of_mem _ (kc_X4 w h)) hown hK hP 0 rfl rfl 0 (by decide) (hg kw_320) (fun _ h9 => h9) rfl dX4_giveBack_46 ?_
          refine lv_iload_n hx hb dX4_giveBack_49 rfl (lv_at hl 0 rfl) ?_
          refine va_aldq hx hb hK hP 1 5 rfl rfl b_38 dX4_giveBack_50 ?_
          refine ds_ai (f := fun j => some (h_o_tiles_e j)) (k := 4) (by rw [c_38_4]; decide) ?_
          obtain ⟨q51, hq51, hf⟩ := ds_ob hf
          refine ds_callv (wr := [(h_o, .inr (3, [.ref h_o_tiles, .int o_next, .int o_size])), (h_o_tiles, .inl (ca 5, 8, .inr (.inr (.inr (.inr (fun j => some (h_o_tiles_e j))))))), ((h_o_tiles_e 0), .inr (5, [.int ((o_tiles_v 0).1), .int ((o_tiles_v 0).2.1), .int ((o_tiles_v 0).2.2.1), .long ((o_tiles_v 0).2.2.2.1), .long ((o_tiles_v 0).2.2.2.2)])), ((h_o_tiles_e 1), .inr (5, [.int ((o_tiles_v 1).1), .int ((o_tiles_v 1).2.1), .int ((o_tiles_v 1).2.2.1), .long ((o_tiles_v 1).2.2.2.1), .long ((o_tiles_v 1).2.2.2.2)])), ((h_o_tiles_e 2), .inr (5, [.int ((o_tiles_v 2).1), .int ((o_tiles_v 2).2.1), .int ((o_tiles_v 2).2.2.1), .long ((o_tiles_v 2).2.2.2.1), .long ((o_tiles_v 2).2.2.2.2)])), ((h_o_tiles_e 3), .inr (5, [.int ((o_tiles_v 3).1), .int ((o_tiles_v 3).2.1), .int ((o_tiles_v 3).2.2.1), .long ((o_tiles_v 3).2.2.2.1), .long ((o_tiles_v 3).2.2.2.2)])), ((h_o_tiles_e 5), .inr (5, [.int ((o_tiles_v 5).1), .int ((o_tiles_v 5).2.1), .int ((o_tiles_v 5).2.2.1), .long ((o_tiles_v 5).2.2.2.1), .long ((o_tiles_v 5).2.2.2.2)])), ((h_o_tiles_e 6), .inr (5, [.int ((o_tiles_v 6).1), .int ((o_tiles_v 6).2.1), .int ((o_tiles_v 6).2.2.1), .long ((o_tiles_v 6).2.2.2.1), .long ((o_tiles_v 6).2.2.2.2)])), ((h_o_tiles_e 7), .inr (5, [.int ((o_tiles_v 7).1), .int ((o_tiles_v 7).2.1), .int ((o_tiles_v 7).2.2.1), .long ((o_tiles_v 7).2.2.2.1), .long ((o_tiles_v 7).2.2.2.2)]))]) (va_runV (As := [.ref (h_o_tiles_e 4)]) (rest := []) ⟨hx, hb, hml, hown, hts⟩ (c_X6_copyFrom l dC dI ca sa (h_o_tiles_e 4) h_p1 s.heap.size ((o_tiles_v 4).1) ((o_tiles_v 4).2.1) ((o_tiles_v 4).2.2.1) ((o_tiles_v 4).2.2.2.1) ((o_tiles_v 4).2.2.2.2) p1_wide p1_high p1_hex p1_ones p1_twos  q51 hq51) (cwV 1 hts (ds_gV kw_321 kw_144 kw_145 kw_59 kw_146) rfl rfl rfl (by decide +kernel) ⟨Nat.le_of_ble_eq_true rfl, Nat.le_of_ble_eq_true rfl⟩) ⟨ds_blind, va_recv hK hP (ci := 5) (q0 := 10) rfl rfl, ds_at hP hD hK hE hS hA [6, 10] rfl rfl _⟩ rfl rfl hl.1 rfl (lv_room (Nat.le_of_ble_eq_true rfl)) dX4_giveBack_51 ⟨Nat.zero_le _, Nat.zero_le _⟩) hP hD hS hA [6, 10] [0, 1, 2, 3, 4, 5, 7, 8, 9] rfl rfl rfl (by decide) (fun H locs hP hD hS => ?_)
          have hP : va_P (dC, dI) vwCl [(h_o, .inr (3, [.ref h_o_tiles, .int o_next, .int o_size])), (h_o_tiles, .inl (ca 5, 8, .inr (.inr (.inr (.inr (fun j => some (h_o_tiles_e j))))))), ((h_o_tiles_e 0), .inr (5, [.int ((o_tiles_v 0).1), .int ((o_tiles_v 0).2.1), .int ((o_tiles_v 0).2.2.1), .long ((o_tiles_v 0).2.2.2.1), .long ((o_tiles_v 0).2.2.2.2)])), ((h_o_tiles_e 1), .inr (5, [.int ((o_tiles_v 1).1), .int ((o_tiles_v 1).2.1), .int ((o_tiles_v 1).2.2.1), .long ((o_tiles_v 1).2.2.2.1), .long ((o_tiles_v 1).2.2.2.2)])), ((h_o_tiles_e 2), .inr (5, [.int ((o_tiles_v 2).1), .int ((o_tiles_v 2).2.1), .int ((o_tiles_v 2).2.2.1), .long ((o_tiles_v 2).2.2.2.1), .long ((o_tiles_v 2).2.2.2.2)])), ((h_o_tiles_e 3), .inr (5, [.int ((o_tiles_v 3).1), .int ((o_tiles_v 3).2.1), .int ((o_tiles_v 3).2.2.1), .long ((o_tiles_v 3).2.2.2.1), .long ((o_tiles_v 3).2.2.2.2)])), ((h_o_tiles_e 5), .inr (5, [.int ((o_tiles_v 5).1), .int ((o_tiles_v 5).2.1), .int ((o_tiles_v 5).2.2.1), .long ((o_tiles_v 5).2.2.2.1), .long ((o_tiles_v 5).2.2.2.2)])), ((h_o_tiles_e 6), .inr (5, [.int ((o_tiles_v 6).1), .int ((o_tiles_v 6).2.1), .int ((o_tiles_v 6).2.2.1), .long ((o_tiles_v 6).2.2.2.1), .long ((o_tiles_v 6).2.2.2.2)])), ((h_o_tiles_e 7), .inr (5, [.int ((o_tiles_v 7).1), .int ((o_tiles_v 7).2.1), .int ((o_tiles_v 7).2.2.1), .long ((o_tiles_v 7).2.2.2.1), .long ((o_tiles_v 7).2.2.2.2)])), ((h_o_tiles_e 4), .inr (5, [.int ((o_tiles_v 4).1), .int ((o_tiles_v 4).2.1), .int ((o_tiles_v 4).2.2.1), .long ((o_tiles_v 4).2.2.2.1), .long ((o_tiles_v 4).2.2.2.2)])), (h_p1, .inr (5, [.int q51.1, .int q51.2.1, .int q51.2.2.1, .long q51.2.2.2.1, .long q51.2.2.2.2]))] H := hP
          have hD : va_D A [(h_o, .inr (3, [.ref h_o_tiles, .int o_next, .int o_size])), (h_o_tiles, .inl (ca 5, 8, .inr (.inr (.inr (.inr (fun j => some (h_o_tiles_e j))))))), ((h_o_tiles_e 0), .inr (5, [.int ((o_tiles_v 0).1), .int ((o_tiles_v 0).2.1), .int ((o_tiles_v 0).2.2.1), .long ((o_tiles_v 0).2.2.2.1), .long ((o_tiles_v 0).2.2.2.2)])), ((h_o_tiles_e 1), .inr (5, [.int ((o_tiles_v 1).1), .int ((o_tiles_v 1).2.1), .int ((o_tiles_v 1).2.2.1), .long ((o_tiles_v 1).2.2.2.1), .long ((o_tiles_v 1).2.2.2.2)])), ((h_o_tiles_e 2), .inr (5, [.int ((o_tiles_v 2).1), .int ((o_tiles_v 2).2.1), .int ((o_tiles_v 2).2.2.1), .long ((o_tiles_v 2).2.2.2.1), .long ((o_tiles_v 2).2.2.2.2)])), ((h_o_tiles_e 3), .inr (5, [.int ((o_tiles_v 3).1), .int ((o_tiles_v 3).2.1), .int ((o_tiles_v 3).2.2.1), .long ((o_tiles_v 3).2.2.2.1), .long ((o_tiles_v 3).2.2.2.2)])), ((h_o_tiles_e 5), .inr (5, [.int ((o_tiles_v 5).1), .int ((o_tiles_v 5).2.1), .int ((o_tiles_v 5).2.2.1), .long ((o_tiles_v 5).2.2.2.1), .long ((o_tiles_v 5).2.2.2.2)])), ((h_o_tiles_e 6), .inr (5, [.int ((o_tiles_v 6).1), .int ((o_tiles_v 6).2.1), .int ((o_tiles_v 6).2.2.1), .long ((o_tiles_v 6).2.2.2.1), .long ((o_tiles_v 6).2.2.2.2)])), ((h_o_tiles_e 7), .inr (5, [.int ((o_tiles_v 7).1), .int ((o_tiles_v 7).2.1), .int ((o_tiles_v 7).2.2.1), .long ((o_tiles_v 7).2.2.2.1), .long ((o_tiles_v 7).2.2.2.2)])), ((h_o_tiles_e 4), .inr (5, [.int ((o_tiles_v 4).1), .int ((o_tiles_v 4).2.1), .int ((o_tiles_v 4).2.2.1), .long ((o_tiles_v 4).2.2.2.1), .long ((o_tiles_v 4).2.2.2.2)])), (h_p1, .inr (5, [.int q51.1, .int q51.2.1, .int q51.2.2.1, .long q51.2.2.2.1, .long q51.2.2.2.2]))] := hD
          refine lv_aload_n hx hb dX4_giveBack_54 rfl (lv_at hl 1 rfl) ?_
          refine lv_iload_n hx hb dX4_giveBack_55 rfl (lv_at hl 0 rfl) ?_
          refine va_put (D := (dC, dI)) (ci := 3) (v := .int x12) (ty := tyX4 1) (C := RX4) (T := TX4) (N := 3) hx hb hts (fun w h => List.mem_cons_of_mem _ (kc_X4 w h)) tyX4 tyX4_ok nmX4 hown hK hP hD hS 0 rfl rfl 1 (by decide) (hg kw_319) (fun _ h9 => h9) rfl (by decide +kernel) rfl rfl (Nat.le_of_ble_eq_true rfl) dX4_giveBack_56 (fun H locs hP hD hS => ?_)
          have hP : va_P (dC, dI) vwCl [(h_o, .inr (3, [.ref h_o_tiles, .int x12, .int o_size])), (h_o_tiles, .inl (ca 5, 8, .inr (.inr (.inr (.inr (fun j => some (h_o_tiles_e j))))))), ((h_o_tiles_e 0), .inr (5, [.int ((o_tiles_v 0).1), .int ((o_tiles_v 0).2.1), .int ((o_tiles_v 0).2.2.1), .long ((o_tiles_v 0).2.2.2.1), .long ((o_tiles_v 0).2.2.2.2)])), ((h_o_tiles_e 1), .inr (5, [.int ((o_tiles_v 1).1), .int ((o_tiles_v 1).2.1), .int ((o_tiles_v 1).2.2.1), .long ((o_tiles_v 1).2.2.2.1), .long ((o_tiles_v 1).2.2.2.2)])), ((h_o_tiles_e 2), .inr (5, [.int ((o_tiles_v 2).1), .int ((o_tiles_v 2).2.1), .int ((o_tiles_v 2).2.2.1), .long ((o_tiles_v 2).2.2.2.1), .long ((o_tiles_v 2).2.2.2.2)])), ((h_o_tiles_e 3), .inr (5, [.int ((o_tiles_v 3).1), .int ((o_tiles_v 3).2.1), .int ((o_tiles_v 3).2.2.1), .long ((o_tiles_v 3).2.2.2.1), .long ((o_tiles_v 3).2.2.2.2)])), ((h_o_tiles_e 5), .inr (5, [.int ((o_tiles_v 5).1), .int ((o_tiles_v 5).2.1), .int ((o_tiles_v 5).2.2.1), .long ((o_tiles_v 5).2.2.2.1), .long ((o_tiles_v 5).2.2.2.2)])), ((h_o_tiles_e 6), .inr (5, [.int ((o_tiles_v 6).1), .int ((o_tiles_v 6).2.1), .int ((o_tiles_v 6).2.2.1), .long ((o_tiles_v 6).2.2.2.1), .long ((o_tiles_v 6).2.2.2.2)])), ((h_o_tiles_e 7), .inr (5, [.int ((o_tiles_v 7).1), .int ((o_tiles_v 7).2.1), .int ((o_tiles_v 7).2.2.1), .long ((o_tiles_v 7).2.2.2.1), .long ((o_tiles_v 7).2.2.2.2)])), ((h_o_tiles_e 4), .inr (5, [.int ((o_tiles_v 4).1), .int ((o_tiles_v 4).2.1), .int ((o_tiles_v 4).2.2.1), .long ((o_tiles_v 4).2.2.2.1), .long ((o_tiles_v 4).2.2.2.2)])), (h_p1, .inr (5, [.int q51.1, .int q51.2.1, .int q51.2.2.1, .long q51.2.2.2.1, .long q51.2.2.2.2]))] H := hP
          have hD : va_D A [(h_o, .inr (3, [.ref h_o_tiles, .int x12, .int o_size])), (h_o_tiles, .inl (ca 5, 8, .inr (.inr (.inr (.inr (fun j => some (h_o_tiles_e j))))))), ((h_o_tiles_e 0), .inr (5, [.int ((o_tiles_v 0).1), .int ((o_tiles_v 0).2.1), .int ((o_tiles_v 0).2.2.1), .long ((o_tiles_v 0).2.2.2.1), .long ((o_tiles_v 0).2.2.2.2)])), ((h_o_tiles_e 1), .inr (5, [.int ((o_tiles_v 1).1), .int ((o_tiles_v 1).2.1), .int ((o_tiles_v 1).2.2.1), .long ((o_tiles_v 1).2.2.2.1), .long ((o_tiles_v 1).2.2.2.2)])), ((h_o_tiles_e 2), .inr (5, [.int ((o_tiles_v 2).1), .int ((o_tiles_v 2).2.1), .int ((o_tiles_v 2).2.2.1), .long ((o_tiles_v 2).2.2.2.1), .long ((o_tiles_v 2).2.2.2.2)])), ((h_o_tiles_e 3), .inr (5, [.int ((o_tiles_v 3).1), .int ((o_tiles_v 3).2.1), .int ((o_tiles_v 3).2.2.1), .long ((o_tiles_v 3).2.2.2.1), .long ((o_tiles_v 3).2.2.2.2)])), ((h_o_tiles_e 5), .inr (5, [.int ((o_tiles_v 5).1), .int ((o_tiles_v 5).2.1), .int ((o_tiles_v 5).2.2.1), .long ((o_tiles_v 5).2.2.2.1), .long ((o_tiles_v 5).2.2.2.2)])), ((h_o_tiles_e 6), .inr (5, [.int ((o_tiles_v 6).1), .int ((o_tiles_v 6).2.1), .int ((o_tiles_v 6).2.2.1), .long ((o_tiles_v 6).2.2.2.1), .long ((o_tiles_v 6).2.2.2.2)])), ((h_o_tiles_e 7), .inr (5, [.int ((o_tiles_v 7).1), .int ((o_tiles_v 7).2.1), .int ((o_tiles_v 7).2.2.1), .long ((o_tiles_v 7).2.2.2.1), .long ((o_tiles_v 7).2.2.2.2)])), ((h_o_tiles_e 4), .inr (5, [.int ((o_tiles_v 4).1), .int ((o_tiles_v 4).2.1), .int ((o_tiles_v 4).2.2.1), .long ((o_tiles_v 4).2.2.2.1), .long ((o_tiles_v 4).2.2.2.2)])), (h_p1, .inr (5, [.int q51.1, .int q51.2.1, .int q51.2.2.1, .long q51.2.2.2.1, .long q51.2.2.2.2]))] := hD
          refine lv_aload_n hx hb dX4_giveBack_59 rfl (lv_at hl 1 rfl) ?_
          refine lv_dup hx hb dX4_giveBack_60 rfl ?_
          refine va_get (D := (dC, dI)) (ci := 3) (v := .int o_size) (C := RX4) (T := TX4) (N := 3) hx hb hts (fun w h => List.mem_cons_of_mem _ (kc_X4 w h)) hown hK hP 0 rfl rfl 2 (by decide) (hg kw_315) (fun _ h9 => h9) rfl dX4_giveBack_61 ?_
          refine lv_iconst (v := 1) hx hb dX4_giveBack_64 (by decide) ?_
          refine lv_isub hx hb dX4_giveBack_65 ?_
          refine va_put (D := (dC, dI)) (ci := 3) (v := .int (o_size - (1 : Int32))) (ty := tyX4 2) (C := RX4) (T := TX4) (N := 3) hx hb hts (fun w h => List.mem_cons_of_mem _ (kc_X4 w h)) tyX4 tyX4_ok nmX4 hown hK hP hD hS 0 rfl rfl 2 (by decide) (hg kw_315) (fun _ h9 => h9) rfl (by decide +kernel) rfl rfl (Nat.le_of_ble_eq_true rfl) dX4_giveBack_66 (fun H locs hP hD hS => ?_)
          have hP : va_P (dC, dI) vwCl [(h_o, .inr (3, [.ref h_o_tiles, .int x12, .int (o_size - (1 : Int32))])), (h_o_tiles, .inl (ca 5, 8, .inr (.inr (.inr (.inr (fun j => some (h_o_tiles_e j))))))), ((h_o_tiles_e 0), .inr (5, [.int ((o_tiles_v 0).1), .int ((o_tiles_v 0).2.1), .int ((o_tiles_v 0).2.2.1), .long ((o_tiles_v 0).2.2.2.1), .long ((o_tiles_v 0).2.2.2.2)])), ((h_o_tiles_e 1), .inr (5, [.int ((o_tiles_v 1).1), .int ((o_tiles_v 1).2.1), .int ((o_tiles_v 1).2.2.1), .long ((o_tiles_v 1).2.2.2.1), .long ((o_tiles_v 1).2.2.2.2)])), ((h_o_tiles_e 2), .inr (5, [.int ((o_tiles_v 2).1), .int ((o_tiles_v 2).2.1), .int ((o_tiles_v 2).2.2.1), .long ((o_tiles_v 2).2.2.2.1), .long ((o_tiles_v 2).2.2.2.2)])), ((h_o_tiles_e 3), .inr (5, [.int ((o_tiles_v 3).1), .int ((o_tiles_v 3).2.1), .int ((o_tiles_v 3).2.2.1), .long ((o_tiles_v 3).2.2.2.1), .long ((o_tiles_v 3).2.2.2.2)])), ((h_o_tiles_e 5), .inr (5, [.int ((o_tiles_v 5).1), .int ((o_tiles_v 5).2.1), .int ((o_tiles_v 5).2.2.1), .long ((o_tiles_v 5).2.2.2.1), .long ((o_tiles_v 5).2.2.2.2)])), ((h_o_tiles_e 6), .inr (5, [.int ((o_tiles_v 6).1), .int ((o_tiles_v 6).2.1), .int ((o_tiles_v 6).2.2.1), .long ((o_tiles_v 6).2.2.2.1), .long ((o_tiles_v 6).2.2.2.2)])), ((h_o_tiles_e 7), .inr (5, [.int ((o_tiles_v 7).1), .int ((o_tiles_v 7).2.1), .int ((o_tiles_v 7).2.2.1), .long ((o_tiles_v 7).2.2.2.1), .long ((o_tiles_v 7).2.2.2.2)])), ((h_o_tiles_e 4), .inr (5, [.int ((o_tiles_v 4).1), .int ((o_tiles_v 4).2.1), .int ((o_tiles_v 4).2.2.1), .long ((o_tiles_v 4).2.2.2.1), .long ((o_tiles_v 4).2.2.2.2)])), (h_p1, .inr (5, [.int q51.1, .int q51.2.1, .int q51.2.2.1, .long q51.2.2.2.1, .long q51.2.2.2.2]))] H := hP
          have hD : va_D A [(h_o, .inr (3, [.ref h_o_tiles, .int x12, .int (o_size - (1 : Int32))])), (h_o_tiles, .inl (ca 5, 8, .inr (.inr (.inr (.inr (fun j => some (h_o_tiles_e j))))))), ((h_o_tiles_e 0), .inr (5, [.int ((o_tiles_v 0).1), .int ((o_tiles_v 0).2.1), .int ((o_tiles_v 0).2.2.1), .long ((o_tiles_v 0).2.2.2.1), .long ((o_tiles_v 0).2.2.2.2)])), ((h_o_tiles_e 1), .inr (5, [.int ((o_tiles_v 1).1), .int ((o_tiles_v 1).2.1), .int ((o_tiles_v 1).2.2.1), .long ((o_tiles_v 1).2.2.2.1), .long ((o_tiles_v 1).2.2.2.2)])), ((h_o_tiles_e 2), .inr (5, [.int ((o_tiles_v 2).1), .int ((o_tiles_v 2).2.1), .int ((o_tiles_v 2).2.2.1), .long ((o_tiles_v 2).2.2.2.1), .long ((o_tiles_v 2).2.2.2.2)])), ((h_o_tiles_e 3), .inr (5, [.int ((o_tiles_v 3).1), .int ((o_tiles_v 3).2.1), .int ((o_tiles_v 3).2.2.1), .long ((o_tiles_v 3).2.2.2.1), .long ((o_tiles_v 3).2.2.2.2)])), ((h_o_tiles_e 5), .inr (5, [.int ((o_tiles_v 5).1), .int ((o_tiles_v 5).2.1), .int ((o_tiles_v 5).2.2.1), .long ((o_tiles_v 5).2.2.2.1), .long ((o_tiles_v 5).2.2.2.2)])), ((h_o_tiles_e 6), .inr (5, [.int ((o_tiles_v 6).1), .int ((o_tiles_v 6).2.1), .int ((o_tiles_v 6).2.2.1), .long ((o_tiles_v 6).2.2.2.1), .long ((o_tiles_v 6).2.2.2.2)])), ((h_o_tiles_e 7), .inr (5, [.int ((o_tiles_v 7).1), .int ((o_tiles_v 7).2.1), .int ((o_tiles_v 7).2.2.1), .long ((o_tiles_v 7).2.2.2.1), .long ((o_tiles_v 7).2.2.2.2)])), ((h_o_tiles_e 4), .inr (5, [.int ((o_tiles_v 4).1), .int ((o_tiles_v 4).2.1), .int ((o_tiles_v 4).2.2.1), .long ((o_tiles_v 4).2.2.2.1), .long ((o_tiles_v 4).2.2.2.2)])), (h_p1, .inr (5, [.int q51.1, .int q51.2.1, .int q51.2.2.1, .long q51.2.2.2.1, .long q51.2.2.2.2]))] := hD
          refine lv_iconst (v := 1) hx hb dX4_giveBack_69 (by decide) ?_
          have hf := Option.some.inj hf
          subst hf
          rw [eG0] at hG
          have hG : _ = res := hG
          subst hG
          exact W.zret (v := (1 : Int32)) (ty := .boolean) hx hb hr rfl (fun t ht hW => ⟨⟨(1 : Int32), (), rfl, rfl, by rw [ht]; exact (hP.sub [0, 1, 2, 3, 4, 5, 9, 6, 7, 8, 10] rfl), (hD.sub [0, 1, 2, 3, 4, 5, 9, 6, 7, 8, 10] rfl rfl)⟩, hS.F ht⟩) hS.2.2 dX4_giveBack_70
        replace hf := ds_f c_38_4 hf
        by_cases c_38_5 : x12 = 5
        · replace hf := ds_t c_38_5 hf
          refine ds_ai (f := fun j => some (h_o_tiles_e j)) (k := 5) (by rw [c_38_5]; decide) ?_
          refine lv_ifnonnull (tgt := 44) hx hb dX4_giveBack_39 (by decide) ?_
          refine lv_aload_n hx hb dX4_giveBack_44 rfl (lv_at hl 2 rfl) ?_
          refine lv_aload_n hx hb dX4_giveBack_45 rfl (lv_at hl 1 rfl) ?_
          refine va_get (D := (dC, dI)) (ci := 3) (v := .ref h_o_tiles) (C := RX4) (T := TX4) (N := 3) hx hb hts (fun w h => List.mem_cons_of_mem _ (kc_X4 w h)) hown hK hP 0 rfl rfl 0 (by decide) (hg kw_320) (fun _ h9 => h9) rfl dX4_giveBack_46 ?_
          refine lv_iload_n hx hb dX4_giveBack_49 rfl (lv_at hl 0 rfl) ?_
          refine va_aldq hx hb hK hP 1 5 rfl rfl b_38 dX4_giveBack_50 ?_
          refine ds_ai (f := fun j => some (h_o_tiles_e j)) (k := 5) (by rw [c_38_5]; decide) ?_
          obtain ⟨q51, hq51, hf⟩ := ds_ob hf
          refine ds_callv (wr := [(h_o, .inr (3, [.ref h_o_tiles, .int o_next, .int o_size])), (h_o_tiles, .inl (ca 5, 8, .inr (.inr (.inr (.inr (fun j => some (h_o_tiles_e j))))))), ((h_o_tiles_e 0), .inr (5, [.int ((o_tiles_v 0).1), .int ((o_tiles_v 0).2.1), .int ((o_tiles_v 0).2.2.1), .long ((o_tiles_v 0).2.2.2.1), .long ((o_tiles_v 0).2.2.2.2)])), ((h_o_tiles_e 1), .inr (5, [.int ((o_tiles_v 1).1), .int ((o_tiles_v 1).2.1), .int ((o_tiles_v 1).2.2.1), .long ((o_tiles_v 1).2.2.2.1), .long ((o_tiles_v 1).2.2.2.2)])), ((h_o_tiles_e 2), .inr (5, [.int ((o_tiles_v 2).1), .int ((o_tiles_v 2).2.1), .int ((o_tiles_v 2).2.2.1), .long ((o_tiles_v 2).2.2.2.1), .long ((o_tiles_v 2).2.2.2.2)])), ((h_o_tiles_e 3), .inr (5, [.int ((o_tiles_v 3).1), .int ((o_tiles_v 3).2.1), .int ((o_tiles_v 3).2.2.1), .long ((o_tiles_v 3).2.2.2.1), .long ((o_tiles_v 3).2.2.2.2)])), ((h_o_tiles_e 4), .inr (5, [.int ((o_tiles_v 4).1), .int ((o_tiles_v 4).2.1), .int ((o_tiles_v 4).2.2.1), .long ((o_tiles_v 4).2.2.2.1), .long ((o_tiles_v 4).2.2.2.2)])), ((h_o_tiles_e 6), .inr (5, [.int ((o_tiles_v 6).1), .int ((o_tiles_v 6).2.1), .int ((o_tiles_v 6).2.2.1), .long ((o_tiles_v 6).2.2.2.1), .long ((o_tiles_v 6).2.2.2.2)])), ((h_o_tiles_e 7), .inr (5, [.int ((o_tiles_v 7).1), .int ((o_tiles_v 7).2.1), .int ((o_tiles_v 7).2.2.1), .long ((o_tiles_v 7).2.2.2.1), .long ((o_tiles_v 7).2.2.2.2)]))]) (va_runV (As := [.ref (h_o_tiles_e 5)]) (rest := []) ⟨hx, hb, hml, hown, hts⟩ (c_X6_copyFrom l dC dI ca sa (h_o_tiles_e 5) h_p1 s.heap.size ((o_tiles_v 5).1) ((o_tiles_v 5).2.1) ((o_tiles_v 5).2.2.1) ((o_tiles_v 5).2.2.2.1) ((o_tiles_v 5).2.2.2.2) p1_wide p1_high p1_hex p1_ones p1_twos  q51 hq51) (cwV 1 hts (ds_gV kw_321 kw_144 kw_145 kw_59 kw_146) rfl rfl rfl (by decide +kernel) ⟨Nat.le_of_ble_eq_true rfl, Nat.le_of_ble_eq_true rfl⟩) ⟨ds_blind, va_recv hK hP (ci := 5) (q0 := 10) rfl rfl, ds_at hP hD hK hE hS hA [7, 10] rfl rfl _⟩ rfl rfl hl.1 rfl (lv_room (Nat.le_of_ble_eq_true rfl)) dX4_giveBack_51 ⟨Nat.zero_le _, Nat.zero_le _⟩) hP hD hS hA [7, 10] [0, 1, 2, 3, 4, 5, 6, 8, 9] rfl rfl rfl (by decide) (fun H locs hP hD hS => ?_)
          have hP : va_P (dC, dI) vwCl [(h_o, .inr (3, [.ref h_o_tiles, .int o_next, .int o_size])), (h_o_tiles, .inl (ca 5, 8, .inr (.inr (.inr (.inr (fun j => some (h_o_tiles_e j))))))), ((h_o_tiles_e 0), .inr (5, [.int ((o_tiles_v 0).1), .int ((o_tiles_v 0).2.1), .int ((o_tiles_v 0).2.2.1), .long ((o_tiles_v 0).2.2.2.1), .long ((o_tiles_v 0).2.2.2.2)])), ((h_o_tiles_e 1), .inr (5, [.int ((o_tiles_v 1).1), .int ((o_tiles_v 1).2.1), .int ((o_tiles_v 1).2.2.1), .long ((o_tiles_v 1).2.2.2.1), .long ((o_tiles_v 1).2.2.2.2)])), ((h_o_tiles_e 2), .inr (5, [.int ((o_tiles_v 2).1), .int ((o_tiles_v 2).2.1), .int ((o_tiles_v 2).2.2.1), .long ((o_tiles_v 2).2.2.2.1), .long ((o_tiles_v 2).2.2.2.2)])), ((h_o_tiles_e 3), .inr (5, [.int ((o_tiles_v 3).1), .int ((o_tiles_v 3).2.1), .int ((o_tiles_v 3).2.2.1), .long ((o_tiles_v 3).2.2.2.1), .long ((o_tiles_v 3).2.2.2.2)])), ((h_o_tiles_e 4), .inr (5, [.int ((o_tiles_v 4).1), .int ((o_tiles_v 4).2.1), .int ((o_tiles_v 4).2.2.1), .long ((o_tiles_v 4).2.2.2.1), .long ((o_tiles_v 4).2.2.2.2)])), ((h_o_tiles_e 6), .inr (5, [.int ((o_tiles_v 6).1), .int ((o_tiles_v 6).2.1), .int ((o_tiles_v 6).2.2.1), .long ((o_tiles_v 6).2.2.2.1), .long ((o_tiles_v 6).2.2.2.2)])), ((h_o_tiles_e 7), .inr (5, [.int ((o_tiles_v 7).1), .int ((o_tiles_v 7).2.1), .int ((o_tiles_v 7).2.2.1), .long ((o_tiles_v 7).2.2.2.1), .long ((o_tiles_v 7).2.2.2.2)])), ((h_o_tiles_e 5), .inr (5, [.int ((o_tiles_v 5).1), .int ((o_tiles_v 5).2.1), .int ((o_tiles_v 5).2.2.1), .long ((o_tiles_v 5).2.2.2.1), .long ((o_tiles_v 5).2.2.2.2)])), (h_p1, .inr (5, [.int q51.1, .int q51.2.1, .int q51.2.2.1, .long q51.2.2.2.1, .long q51.2.2.2.2]))] H := hP
          have hD : va_D A [(h_o, .inr (3, [.ref h_o_tiles, .int o_next, .int o_size])), (h_o_tiles, .inl (ca 5, 8, .inr (.inr (.inr (.inr (fun j => some (h_o_tiles_e j))))))), ((h_o_tiles_e 0), .inr (5, [.int ((o_tiles_v 0).1), .int ((o_tiles_v 0).2.1), .int ((o_tiles_v 0).2.2.1), .long ((o_tiles_v 0).2.2.2.1), .long ((o_tiles_v 0).2.2.2.2)])), ((h_o_tiles_e 1), .inr (5, [.int ((o_tiles_v 1).1), .int ((o_tiles_v 1).2.1), .int ((o_tiles_v 1).2.2.1), .long ((o_tiles_v 1).2.2.2.1), .long ((o_tiles_v 1).2.2.2.2)])), ((h_o_tiles_e 2), .inr (5, [.int ((o_tiles_v 2).1), .int ((o_tiles_v 2).2.1), .int ((o_tiles_v 2).2.2.1), .long ((o_tiles_v 2).2.2.2.1), .long ((o_tiles_v 2).2.2.2.2)])), ((h_o_tiles_e 3), .inr (5, [.int ((o_tiles_v 3).1), .int ((o_tiles_v 3).2.1), .int ((o_tiles_v 3).2.2.1), .long ((o_tiles_v 3).2.2.2.1), .long ((o_tiles_v 3).2.2.2.2)])), ((h_o_tiles_e 4), .inr (5, [.int ((o_tiles_v 4).1), .int ((o_tiles_v 4).2.1), .int ((o_tiles_v 4).2.2.1), .long ((o_tiles_v 4).2.2.2.1), .long ((o_tiles_v 4).2.2.2.2)])), ((h_o_tiles_e 6), .inr (5, [.int ((o_tiles_v 6).1), .int ((o_tiles_v 6).2.1), .int ((o_tiles_v 6).2.2.1), .long ((o_tiles_v 6).2.2.2.1), .long ((o_tiles_v 6).2.2.2.2)])), ((h_o_tiles_e 7), .inr (5, [.int ((o_tiles_v 7).1), .int ((o_tiles_v 7).2.1), .int ((o_tiles_v 7).2.2.1), .long ((o_tiles_v 7).2.2.2.1), .long ((o_tiles_v 7).2.2.2.2)])), ((h_o_tiles_e 5), .inr (5, [.int ((o_tiles_v 5).1), .int ((o_tiles_v 5).2.1), .int ((o_tiles_v 5).2.2.1), .long ((o_tiles_v 5).2.2.2.1), .long ((o_tiles_v 5).2.2.2.2)])), (h_p1, .inr (5, [.int q51.1, .int q51.2.1, .int q51.2.2.1, .long q51.2.2.2.1, .long q51.2.2.2.2]))] := hD
          refine lv_aload_n hx hb dX4_giveBack_54 rfl (lv_at hl 1 rfl) ?_
          refine lv_iload_n hx hb dX4_giveBack_55 rfl (lv_at hl 0 rfl) ?_
          refine va_put (D := (dC, dI)) (ci := 3) (v := .int x12) (ty := tyX4 1) (C := RX4) (T := TX4) (N := 3) hx hb hts (fun w h => List.mem_cons_of_mem _ (kc_X4 w h)) tyX4 tyX4_ok nmX4 hown hK hP hD hS 0 rfl rfl 1 (by decide) (hg kw_319) (fun _ h9 => h9) rfl (by decide +kernel) rfl rfl (Nat.le_of_ble_eq_true rfl) dX4_giveBack_56 (fun H locs hP hD hS => ?_)
          have hP : va_P (dC, dI) vwCl [(h_o, .inr (3, [.ref h_o_tiles, .int x12, .int o_size])), (h_o_tiles, .inl (ca 5, 8, .inr (.inr (.inr (.inr (fun j => some (h_o_tiles_e j))))))), ((h_o_tiles_e 0), .inr (5, [.int ((o_tiles_v 0).1), .int ((o_tiles_v 0).2.1), .int ((o_tiles_v 0).2.2.1), .long ((o_tiles_v 0).2.2.2.1), .long ((o_tiles_v 0).2.2.2.2)])), ((h_o_tiles_e 1), .inr (5, [.int ((o_tiles_v 1).1), .int ((o_tiles_v 1).2.1), .int ((o_tiles_v 1).2.2.1), .long ((o_tiles_v 1).2.2.2.1), .long ((o_tiles_v 1).2.2.2.2)])), ((h_o_tiles_e 2), .inr (5, [.int ((o_tiles_v 2).1), .int ((o_tiles_v 2).2.1), .int ((o_tiles_v 2).2.2.1), .long ((o_tiles_v 2).2.2.2.1), .long ((o_tiles_v 2).2.2.2.2)])), ((h_o_tiles_e 3), .inr (5, [.int ((o_tiles_v 3).1), .int ((o_tiles_v 3).2.1), .int ((o_tiles_v 3).2.2.1), .long ((o_tiles_v 3).2.2.2.1), .long ((o_tiles_v 3).2.2.2.2)])), ((h_o_tiles_e 4), .inr (5, [.int ((o_tiles_v 4).1), .int ((o_tiles_v 4).2.1), .int ((o_tiles_v 4).2.2.1), .long ((o_tiles_v 4).2.2.2.1), .long ((o_tiles_v 4).2.2.2.2)])), ((h_o_tiles_e 6), .inr (5, [.int ((o_tiles_v 6).1), .int ((o_tiles_v 6).2.1), .int ((o_tiles_v 6).2.2.1), .long ((o_tiles_v 6).2.2.2.1), .long ((o_tiles_v 6).2.2.2.2)])), ((h_o_tiles_e 7), .inr (5, [.int ((o_tiles_v 7).1), .int ((o_tiles_v 7).2.1), .int ((o_tiles_v 7).2.2.1), .long ((o_tiles_v 7).2.2.2.1), .long ((o_tiles_v 7).2.2.2.2)])), ((h_o_tiles_e 5), .inr (5, [.int ((o_tiles_v 5).1), .int ((o_tiles_v 5).2.1), .int ((o_tiles_v 5).2.2.1), .long ((o_tiles_v 5).2.2.2.1), .long ((o_tiles_v 5).2.2.2.2)])), (h_p1, .inr (5, [.int q51.1, .int q51.2.1, .int q51.2.2.1, .long q51.2.2.2.1, .long q51.2.2.2.2]))] H := hP
          have hD : va_D A [(h_o, .inr (3, [.ref h_o_tiles, .int x12, .int o_size])), (h_o_tiles, .inl (ca 5, 8, .inr (.inr (.inr (.inr (fun j => some (h_o_tiles_e j))))))), ((h_o_tiles_e 0), .inr (5, [.int ((o_tiles_v 0).1), .int ((o_tiles_v 0).2.1), .int ((o_tiles_v 0).2.2.1), .long ((o_tiles_v 0).2.2.2.1), .long ((o_tiles_v 0).2.2.2.2)])), ((h_o_tiles_e 1), .inr (5, [.int ((o_tiles_v 1).1), .int ((o_tiles_v 1).2.1), .int ((o_tiles_v 1).2.2.1), .long ((o_tiles_v 1).2.2.2.1), .long ((o_tiles_v 1).2.2.2.2)])), ((h_o_tiles_e 2), .inr (5, [.int ((o_tiles_v 2).1), .int ((o_tiles_v 2).2.1), .int ((o_tiles_v 2).2.2.1), .long ((o_tiles_v 2).2.2.2.1), .long ((o_tiles_v 2).2.2.2.2)])), ((h_o_tiles_e 3), .inr (5, [.int ((o_tiles_v 3).1), .int ((o_tiles_v 3).2.1), .int ((o_tiles_v 3).2.2.1), .long ((o_tiles_v 3).2.2.2.1), .long ((o_tiles_v 3).2.2.2.2)])), ((h_o_tiles_e 4), .inr (5, [.int ((o_tiles_v 4).1), .int ((o_tiles_v 4).2.1), .int ((o_tiles_v 4).2.2.1), .long ((o_tiles_v 4).2.2.2.1), .long ((o_tiles_v 4).2.2.2.2)])), ((h_o_tiles_e 6), .inr (5, [.int ((o_tiles_v 6).1), .int ((o_tiles_v 6).2.1), .int ((o_tiles_v 6).2.2.1), .long ((o_tiles_v 6).2.2.2.1), .long ((o_tiles_v 6).2.2.2.2)])), ((h_o_tiles_e 7), .inr (5, [.int ((o_tiles_v 7).1), .int ((o_tiles_v 7).2.1), .int ((o_tiles_v 7).2.2.1), .long ((o_tiles_v 7).2.2.2.1), .long ((o_tiles_v 7).2.2.2.2)])), ((h_o_tiles_e 5), .inr (5, [.int ((o_tiles_v 5).1), .int ((o_tiles_v 5).2.1), .int ((o_tiles_v 5).2.2.1), .long ((o_tiles_v 5).2.2.2.1), .long ((o_tiles_v 5).2.2.2.2)])), (h_p1, .inr (5, [.int q51.1, .int q51.2.1, .int q51.2.2.1, .long q51.2.2.2.1, .long q51.2.2.2.2]))] := hD
          refine lv_aload_n hx hb dX4_giveBack_59 rfl (lv_at hl 1 rfl) ?_
          refine lv_dup hx hb dX4_giveBack_60 rfl ?_
          refine va_get (D := (dC, dI)) (ci := 3) (v := .int o_size) (C := RX4) (T := TX4) (N := 3) hx hb hts (fun w h => List.mem_cons_of_mem _ (kc_X4 w h)) hown hK hP 0 rfl rfl 2 (by decide) (hg kw_315) (fun _ h9 => h9) rfl dX4_giveBack_61 ?_
          refine lv_iconst (v := 1) hx hb dX4_giveBack_64 (by decide) ?_
          refine lv_isub hx hb dX4_giveBack_65 ?_
          refine va_put (D := (dC, dI)) (ci := 3) (v := .int (o_size - (1 : Int32))) (ty := tyX4 2) (C := RX4) (T := TX4) (N := 3) hx hb hts (fun w h => List.mem_cons_of_mem _ (kc_X4 w h)) tyX4 tyX4_ok nmX4 hown hK hP hD hS 0 rfl rfl 2 (by decide) (hg kw_315) (fun _ h9 => h9) rfl (by decide +kernel) rfl rfl (Nat.le_of_ble_eq_true rfl) dX4_giveBack_66 (fun H locs hP hD hS => ?_)
          have hP : va_P (dC, dI) vwCl [(h_o, .inr (3, [.ref h_o_tiles, .int x12, .int (o_size - (1 : Int32))])), (h_o_tiles, .inl (ca 5, 8, .inr (.inr (.inr (.inr (fun j => some (h_o_tiles_e j))))))), ((h_o_tiles_e 0), .inr (5, [.int ((o_tiles_v 0).1), .int ((o_tiles_v 0).2.1), .int ((o_tiles_v 0).2.2.1), .long ((o_tiles_v 0).2.2.2.1), .long ((o_tiles_v 0).2.2.2.2)])), ((h_o_tiles_e 1), .inr (5, [.int ((o_tiles_v 1).1), .int ((o_tiles_v 1).2.1), .int ((o_tiles_v 1).2.2.1), .long ((o_tiles_v 1).2.2.2.1), .long ((o_tiles_v 1).2.2.2.2)])), ((h_o_tiles_e 2), .inr (5, [.int ((o_tiles_v 2).1), .int ((o_tiles_v 2).2.1), .int ((o_tiles_v 2).2.2.1), .long ((o_tiles_v 2).2.2.2.1), .long ((o_tiles_v 2).2.2.2.2)])), ((h_o_tiles_e 3), .inr (5, [.int ((o_tiles_v 3).1), .int ((o_tiles_v 3).2.1), .int ((o_tiles_v 3).2.2.1), .long ((o_tiles_v 3).2.2.2.1), .long ((o_tiles_v 3).2.2.2.2)])), ((h_o_tiles_e 4), .inr (5, [.int ((o_tiles_v 4).1), .int ((o_tiles_v 4).2.1), .int ((o_tiles_v 4).2.2.1), .long ((o_tiles_v 4).2.2.2.1), .long ((o_tiles_v 4).2.2.2.2)])), ((h_o_tiles_e 6), .inr (5, [.int ((o_tiles_v 6).1), .int ((o_tiles_v 6).2.1), .int ((o_tiles_v 6).2.2.1), .long ((o_tiles_v 6).2.2.2.1), .long ((o_tiles_v 6).2.2.2.2)])), ((h_o_tiles_e 7), .inr (5, [.int ((o_tiles_v 7).1), .int ((o_tiles_v 7).2.1), .int ((o_tiles_v 7).2.2.1), .long ((o_tiles_v 7).2.2.2.1), .long ((o_tiles_v 7).2.2.2.2)])), ((h_o_tiles_e 5), .inr (5, [.int ((o_tiles_v 5).1), .int ((o_tiles_v 5).2.1), .int ((o_tiles_v 5).2.2.1), .long ((o_tiles_v 5).2.2.2.1), .long ((o_tiles_v 5).2.2.2.2)])), (h_p1, .inr (5, [.int q51.1, .int q51.2.1, .int q51.2.2.1, .long q51.2.2.2.1, .long q51.2.2.2.2]))] H := hP
          have hD : va_D A [(h_o, .inr (3, [.ref h_o_tiles, .int x12, .int (o_size - (1 : Int32))])), (h_o_tiles, .inl (ca 5, 8, .inr (.inr (.inr (.inr (fun j => some (h_o_tiles_e j))))))), ((h_o_tiles_e 0), .inr (5, [.int ((o_tiles_v 0).1), .int ((o_tiles_v 0).2.1), .int ((o_tiles_v 0).2.2.1), .long ((o_tiles_v 0).2.2.2.1), .long ((o_tiles_v 0).2.2.2.2)])), ((h_o_tiles_e 1), .inr (5, [.int ((o_tiles_v 1).1), .int ((o_tiles_v 1).2.1), .int ((o_tiles_v 1).2.2.1), .long ((o_tiles_v 1).2.2.2.1), .long ((o_tiles_v 1).2.2.2.2)])), ((h_o_tiles_e 2), .inr (5, [.int ((o_tiles_v 2).1), .int ((o_tiles_v 2).2.1), .int ((o_tiles_v 2).2.2.1), .long ((o_tiles_v 2).2.2.2.1), .long ((o_tiles_v 2).2.2.2.2)])), ((h_o_tiles_e 3), .inr (5, [.int ((o_tiles_v 3).1), .int ((o_tiles_v 3).2.1), .int ((o_tiles_v 3).2.2.1), .long ((o_tiles_v 3).2.2.2.1), .long ((o_tiles_v 3).2.2.2.2)])), ((h_o_tiles_e 4), .inr (5, [.int ((o_tiles_v 4).1), .int ((o_tiles_v 4).2.1), .int ((o_tiles_v 4).2.2.1), .long ((o_tiles_v 4).2.2.2.1), .long ((o_tiles_v 4).2.2.2.2)])), ((h_o_tiles_e 6), .inr (5, [.int ((o_tiles_v 6).1), .int ((o_tiles_v 6).2.1), .int ((o_tiles_v 6).2.2.1), .long ((o_tiles_v 6).2.2.2.1), .long ((o_tiles_v 6).2.2.2.2)])), ((h_o_tiles_e 7), .inr (5, [.int ((o_tiles_v 7).1), .int ((o_tiles_v 7).2.1), .int ((o_tiles_v 7).2.2.1), .long ((o_tiles_v 7).2.2.2.1), .long ((o_tiles_v 7).2.2.2.2)])), ((h_o_tiles_e 5), .inr (5, [.int ((o_tiles_v 5).1), .int ((o_tiles_v 5).2.1), .int ((o_tiles_v 5).2.2.1), .long ((o_tiles_v 5).2.2.2.1), .long ((o_tiles_v 5).2.2.2.2)])), (h_p1, .inr (5, [.int q51.1, .int q51.2.1, .int q51.2.2.1, .long q51.2.2.2.1, .long q51.2.2.2.2]))] := hD
          refine lv_iconst (v := 1) hx hb dX4_giveBack_69 (by decide) ?_
          have hf := Option.some.inj hf
          subst hf
          rw [eG0] at hG
          have hG : _ = res := hG
          subst hG
          exact W.zret (v := (1 : Int32)) (ty := .boolean) hx hb hr rfl (fun t ht hW => ⟨⟨(1 : Int32), (), rfl, rfl, by rw [ht]; exact (hP.sub [0, 1, 2, 3, 4, 5, 6, 9, 7, 8, 10] rfl), (hD.sub [0, 1, 2, 3, 4, 5, 6, 9, 7, 8, 10] rfl rfl)⟩, hS.F ht⟩) hS.2.2 dX4_giveBack_70
        replace hf := ds_f c_38_5 hf
        by_cases c_38_6 : x12 = 6
        · replace hf := ds_t c_38_6 hf
          refine ds_ai (f := fun j => some (h_o_tiles_e j)) (k := 6) (by rw [c_38_6]; decide) ?_
          refine lv_ifnonnull (tgt := 44) hx hb dX4_giveBack_39 (by decide) ?_
          refine lv_aload_n hx hb dX4_giveBack_44 rfl (lv_at hl 2 rfl) ?_
          refine lv_aload_n hx hb dX4_giveBack_45 rfl (lv_at hl 1 rfl) ?_
          refine va_get (D := (dC, dI)) (ci := 3) (v := .ref h_o_tiles) (C := RX4) (T := TX4) (N := 3) hx hb hts (fun w h => List.mem_cons_of_mem _ (kc_X4 w h)) hown hK hP 0 rfl rfl 0 (by decide) (hg kw_320) (fun _ h9 => h9) rfl dX4_giveBack_46 ?_
          refine lv_iload_n hx hb dX4_giveBack_49 rfl (lv_at hl 0 rfl) ?_
          refine va_aldq hx hb hK hP 1 5 rfl rfl b_38 dX4_giveBack_50 ?_
          refine ds_ai (f := fun j => some (h_o_tiles_e j)) (k := 6) (by rw [c_38_6]; decide) ?_
          obtain ⟨q51, hq51, hf⟩ := ds_ob hf
          refine ds_callv (wr := [(h_o, .inr (3, [.ref h_o_tiles, .int o_next, .int o_size])), (h_o_tiles, .inl (ca 5, 8, .inr (.inr (.inr (.inr (fun j => some (h_o_tiles_e j))))))), ((h_o_tiles_e 0), .inr (5, [.int ((o_tiles_v 0).1), .int ((o_tiles_v 0).2.1), .int ((o_tiles_v 0).2.2.1), .long ((o_tiles_v 0).2.2.2.1), .long ((o_tiles_v 0).2.2.2.2)])), ((h_o_tiles_e 1), .inr (5, [.int ((o_tiles_v 1).1), .int ((o_tiles_v 1).2.1), .int ((o_tiles_v 1).2.2.1), .long ((o_tiles_v 1).2.2.2.1), .long ((o_tiles_v 1).2.2.2.2)])), ((h_o_tiles_e 2), .inr (5, [.int ((o_tiles_v 2).1), .int ((o_tiles_v 2).2.1), .int ((o_tiles_v 2).2.2.1), .long ((o_tiles_v 2).2.2.2.1), .long ((o_tiles_v 2).2.2.2.2)])), ((h_o_tiles_e 3), .inr (5, [.int ((o_tiles_v 3).1), .int ((o_tiles_v 3).2.1), .int ((o_tiles_v 3).2.2.1), .long ((o_tiles_v 3).2.2.2.1), .long ((o_tiles_v 3).2.2.2.2)])), ((h_o_tiles_e 4), .inr (5, [.int ((o_tiles_v 4).1), .int ((o_tiles_v 4).2.1), .int ((o_tiles_v 4).2.2.1), .long ((o_tiles_v 4).2.2.2.1), .long ((o_tiles_v 4).2.2.2.2)])), ((h_o_tiles_e 5), .inr (5, [.int ((o_tiles_v 5).1), .int ((o_tiles_v 5).2.1), .int ((o_tiles_v 5).2.2.1), .long ((o_tiles_v 5).2.2.2.1), .long ((o_tiles_v 5).2.2.2.2)])), ((h_o_tiles_e 7), .inr (5, [.int ((o_tiles_v 7).1), .int ((o_tiles_v 7).2.1), .int ((o_tiles_v 7).2.2.1), .long ((o_tiles_v 7).2.2.2.1), .long ((o_tiles_v 7).2.2.2.2)]))]) (va_runV (As := [.ref (h_o_tiles_e 6)]) (rest := []) ⟨hx, hb, hml, hown, hts⟩ (c_X6_copyFrom l dC dI ca sa (h_o_tiles_e 6) h_p1 s.heap.size ((o_tiles_v 6).1) ((o_tiles_v 6).2.1) ((o_tiles_v 6).2.2.1) ((o_tiles_v 6).2.2.2.1) ((o_tiles_v 6).2.2.2.2) p1_wide p1_high p1_hex p1_ones p1_twos  q51 hq51) (cwV 1 hts (ds_gV kw_321 kw_144 kw_145 kw_59 kw_146) rfl rfl rfl (by decide +kernel) ⟨Nat.le_of_ble_eq_true rfl, Nat.le_of_ble_eq_true rfl⟩) ⟨ds_blind, va_recv hK hP (ci := 5) (q0 := 10) rfl rfl, ds_at hP hD hK hE hS hA [8, 10] rfl rfl _⟩ rfl rfl hl.1 rfl (lv_room (Nat.le_of_ble_eq_true rfl)) dX4_giveBack_51 ⟨Nat.zero_le _, Nat.zero_le _⟩) hP hD hS hA [8, 10] [0, 1, 2, 3, 4, 5, 6, 7, 9] rfl rfl rfl (by decide) (fun H locs hP hD hS => ?_)
          have hP : va_P (dC, dI) vwCl [(h_o, .inr (3, [.ref h_o_tiles, .int o_next, .int o_size])), (h_o_tiles, .inl (ca 5, 8, .inr (.inr (.inr (.inr (fun j => some (h_o_tiles_e j))))))), ((h_o_tiles_e 0), .inr (5, [.int ((o_tiles_v 0).1), .int ((o_tiles_v 0).2.1), .int ((o_tiles_v 0).2.2.1), .long ((o_tiles_v 0).2.2.2.1), .long ((o_tiles_v 0).2.2.2.2)])), ((h_o_tiles_e 1), .inr (5, [.int ((o_tiles_v 1).1), .int ((o_tiles_v 1).2.1), .int ((o_tiles_v 1).2.2.1), .long ((o_tiles_v 1).2.2.2.1), .long ((o_tiles_v 1).2.2.2.2)])), ((h_o_tiles_e 2), .inr (5, [.int ((o_tiles_v 2).1), .int ((o_tiles_v 2).2.1), .int ((o_tiles_v 2).2.2.1), .long ((o_tiles_v 2).2.2.2.1), .long ((o_tiles_v 2).2.2.2.2)])), ((h_o_tiles_e 3), .inr (5, [.int ((o_tiles_v 3).1), .int ((o_tiles_v 3).2.1), .int ((o_tiles_v 3).2.2.1), .long ((o_tiles_v 3).2.2.2.1), .long ((o_tiles_v 3).2.2.2.2)])), ((h_o_tiles_e 4), .inr (5, [.int ((o_tiles_v 4).1), .int ((o_tiles_v 4).2.1), .int ((o_tiles_v 4).2.2.1), .long ((o_tiles_v 4).2.2.2.1), .long ((o_tiles_v 4).2.2.2.2)])), ((h_o_tiles_e 5), .inr (5, [.int ((o_tiles_v 5).1), .int ((o_tiles_v 5).2.1), .int ((o_tiles_v 5).2.2.1), .long ((o_tiles_v 5).2.2.2.1), .long ((o_tiles_v 5).2.2.2.2)])), ((h_o_tiles_e 7), .inr (5, [.int ((o_tiles_v 7).1), .int ((o_tiles_v 7).2.1), .int ((o_tiles_v 7).2.2.1), .long ((o_tiles_v 7).2.2.2.1), .long ((o_tiles_v 7).2.2.2.2)])), ((h_o_tiles_e 6), .inr (5, [.int ((o_tiles_v 6).1), .int ((o_tiles_v 6).2.1), .int ((o_tiles_v 6).2.2.1), .long ((o_tiles_v 6).2.2.2.1), .long ((o_tiles_v 6).2.2.2.2)])), (h_p1, .inr (5, [.int q51.1, .int q51.2.1, .int q51.2.2.1, .long q51.2.2.2.1, .long q51.2.2.2.2]))] H := hP
          have hD : va_D A [(h_o, .inr (3, [.ref h_o_tiles, .int o_next, .int o_size])), (h_o_tiles, .inl (ca 5, 8, .inr (.inr (.inr (.inr (fun j => some (h_o_tiles_e j))))))), ((h_o_tiles_e 0), .inr (5, [.int ((o_tiles_v 0).1), .int ((o_tiles_v 0).2.1), .int ((o_tiles_v 0).2.2.1), .long ((o_tiles_v 0).2.2.2.1), .long ((o_tiles_v 0).2.2.2.2)])), ((h_o_tiles_e 1), .inr (5, [.int ((o_tiles_v 1).1), .int ((o_tiles_v 1).2.1), .int ((o_tiles_v 1).2.2.1), .long ((o_tiles_v 1).2.2.2.1), .long ((o_tiles_v 1).2.2.2.2)])), ((h_o_tiles_e 2), .inr (5, [.int ((o_tiles_v 2).1), .int ((o_tiles_v 2).2.1), .int ((o_tiles_v 2).2.2.1), .long ((o_tiles_v 2).2.2.2.1), .long ((o_tiles_v 2).2.2.2.2)])), ((h_o_tiles_e 3), .inr (5, [.int ((o_tiles_v 3).1), .int ((o_tiles_v 3).2.1), .int ((o_tiles_v 3).2.2.1), .long ((o_tiles_v 3).2.2.2.1), .long ((o_tiles_v 3).2.2.2.2)])), ((h_o_tiles_e 4), .inr (5, [.int ((o_tiles_v 4).1), .int ((o_tiles_v 4).2.1), .int ((o_tiles_v 4).2.2.1), .long ((o_tiles_v 4).2.2.2.1), .long ((o_tiles_v 4).2.2.2.2)])), ((h_o_tiles_e 5), .inr (5, [.int ((o_tiles_v 5).1), .int ((o_tiles_v 5).2.1), .int ((o_tiles_v 5).2.2.1), .long ((o_tiles_v 5).2.2.2.1), .long ((o_tiles_v 5).2.2.2.2)])), ((h_o_tiles_e 7), .inr (5, [.int ((o_tiles_v 7).1), .int ((o_tiles_v 7).2.1), .int ((o_tiles_v 7).2.2.1), .long ((o_tiles_v 7).2.2.2.1), .long ((o_tiles_v 7).2.2.2.2)])), ((h_o_tiles_e 6), .inr (5, [.int ((o_tiles_v 6).1), .int ((o_tiles_v 6).2.1), .int ((o_tiles_v 6).2.2.1), .long ((o_tiles_v 6).2.2.2.1), .long ((o_tiles_v 6).2.2.2.2)])), (h_p1, .inr (5, [.int q51.1, .int q51.2.1, .int q51.2.2.1, .long q51.2.2.2.1, .long q51.2.2.2.2]))] := hD
          refine lv_aload_n hx hb dX4_giveBack_54 rfl (lv_at hl 1 rfl) ?_
          refine lv_iload_n hx hb dX4_giveBack_55 rfl (lv_at hl 0 rfl) ?_
          refine va_put (D := (dC, dI)) (ci := 3) (v := .int x12) (ty := tyX4 1) (C := RX4) (T := TX4) (N := 3) hx hb hts (fun w h => List.mem_cons_of_mem _ (kc_X4 w h)) tyX4 tyX4_ok nmX4 hown hK hP hD hS 0 rfl rfl 1 (by decide) (hg kw_319) (fun _ h9 => h9) rfl (by decide +kernel) rfl rfl (Nat.le_of_ble_eq_true rfl) dX4_giveBack_56 (fun H locs hP hD hS => ?_)
          have hP : va_P (dC, dI) vwCl [(h_o, .inr (3, [.ref h_o_tiles, .int x12, .int o_size])), (h_o_tiles, .inl (ca 5, 8, .inr (.inr (.inr (.inr (fun j => some (h_o_tiles_e j))))))), ((h_o_tiles_e 0), .inr (5, [.int ((o_tiles_v 0).1), .int ((o_tiles_v 0).2.1), .int ((o_tiles_v 0).2.2.1), .long ((o_tiles_v 0).2.2.2.1), .long ((o_tiles_v 0).2.2.2.2)])), ((h_o_tiles_e 1), .inr (5, [.int ((o_tiles_v 1).1), .int ((o_tiles_v 1).2.1), .int ((o_tiles_v 1).2.2.1), .long ((o_tiles_v 1).2.2.2.1), .long ((o_tiles_v 1).2.2.2.2)])), ((h_o_tiles_e 2), .inr (5, [.int ((o_tiles_v 2).1), .int ((o_tiles_v 2).2.1), .int ((o_tiles_v 2).2.2.1), .long ((o_tiles_v 2).2.2.2.1), .long ((o_tiles_v 2).2.2.2.2)])), ((h_o_tiles_e 3), .inr (5, [.int ((o_tiles_v 3).1), .int ((o_tiles_v 3).2.1), .int ((o_tiles_v 3).2.2.1), .long ((o_tiles_v 3).2.2.2.1), .long ((o_tiles_v 3).2.2.2.2)])), ((h_o_tiles_e 4), .inr (5, [.int ((o_tiles_v 4).1), .int ((o_tiles_v 4).2.1), .int ((o_tiles_v 4).2.2.1), .long ((o_tiles_v 4).2.2.2.1), .long ((o_tiles_v 4).2.2.2.2)])), ((h_o_tiles_e 5), .inr (5, [.int ((o_tiles_v 5).1), .int ((o_tiles_v 5).2.1), .int ((o_tiles_v 5).2.2.1), .long ((o_tiles_v 5).2.2.2.1), .long ((o_tiles_v 5).2.2.2.2)])), ((h_o_tiles_e 7), .inr (5, [.int ((o_tiles_v 7).1), .int ((o_tiles_v 7).2.1), .int ((o_tiles_v 7).2.2.1), .long ((o_tiles_v 7).2.2.2.1), .long ((o_tiles_v 7).2.2.2.2)])), ((h_o_tiles_e 6), .inr (5, [.int ((o_tiles_v 6).1), .int ((o_tiles_v 6).2.1), .int ((o_tiles_v 6).2.2.1), .long ((o_tiles_v 6).2.2.2.1), .long ((o_tiles_v 6).2.2.2.2)])), (h_p1, .inr (5, [.int q51.1, .int q51.2.1, .int q51.2.2.1, .long q51.2.2.2.1, .long q51.2.2.2.2]))] H := hP
          have hD : va_D A [(h_o, .inr (3, [.ref h_o_tiles, .int x12, .int o_size])), (h_o_tiles, .inl (ca 5, 8, .inr (.inr (.inr (.inr (fun j => some (h_o_tiles_e j))))))), ((h_o_tiles_e 0), .inr (5, [.int ((o_tiles_v 0).1), .int ((o_tiles_v 0).2.1), .int ((o_tiles_v 0).2.2.1), .long ((o_tiles_v 0).2.2.2.1), .long ((o_tiles_v 0).2.2.2.2)])), ((h_o_tiles_e 1), .inr (5, [.int ((o_tiles_v 1).1), .int ((o_tiles_v 1).2.1), .int ((o_tiles_v 1).2.2.1), .long ((o_tiles_v 1).2.2.2.1), .long ((o_tiles_v 1).2.2.2.2)])), ((h_o_tiles_e 2), .inr (5, [.int ((o_tiles_v 2).1), .int ((o_tiles_v 2).2.1), .int ((o_tiles_v 2).2.2.1), .long ((o_tiles_v 2).2.2.2.1), .long ((o_tiles_v 2).2.2.2.2)])), ((h_o_tiles_e 3), .inr (5, [.int ((o_tiles_v 3).1), .int ((o_tiles_v 3).2.1), .int ((o_tiles_v 3).2.2.1), .long ((o_tiles_v 3).2.2.2.1), .long ((o_tiles_v 3).2.2.2.2)])), ((h_o_tiles_e 4), .inr (5, [.int ((o_tiles_v 4).1), .int ((o_tiles_v 4).2.1), .int ((o_tiles_v 4).2.2.1), .long ((o_tiles_v 4).2.2.2.1), .long ((o_tiles_v 4).2.2.2.2)])), ((h_o_tiles_e 5), .inr (5, [.int ((o_tiles_v 5).1), .int ((o_tiles_v 5).2.1), .int ((o_tiles_v 5).2.2.1), .long ((o_tiles_v 5).2.2.2.1), .long ((o_tiles_v 5).2.2.2.2)])), ((h_o_tiles_e 7), .inr (5, [.int ((o_tiles_v 7).1), .int ((o_tiles_v 7).2.1), .int ((o_tiles_v 7).2.2.1), .long ((o_tiles_v 7).2.2.2.1), .long ((o_tiles_v 7).2.2.2.2)])), ((h_o_tiles_e 6), .inr (5, [.int ((o_tiles_v 6).1), .int ((o_tiles_v 6).2.1), .int ((o_tiles_v 6).2.2.1), .long ((o_tiles_v 6).2.2.2.1), .long ((o_tiles_v 6).2.2.2.2)])), (h_p1, .inr (5, [.int q51.1, .int q51.2.1, .int q51.2.2.1, .long q51.2.2.2.1, .long q51.2.2.2.2]))] := hD
          refine lv_aload_n hx hb dX4_giveBack_59 rfl (lv_at hl 1 rfl) ?_
          refine lv_dup hx hb dX4_giveBack_60 rfl ?_
          refine va_get (D := (dC, dI)) (ci := 3) (v := .int o_size) (C := RX4) (T := TX4) (N := 3) hx hb hts (fun w h => List.mem_cons_of_mem _ (kc_X4 w h)) hown hK hP 0 rfl rfl 2 (by decide) (hg kw_315) (fun _ h9 => h9) rfl dX4_giveBack_61 ?_
          refine lv_iconst (v := 1) hx hb dX4_giveBack_64 (by decide) ?_
          refine lv_isub hx hb dX4_giveBack_65 ?_
          refine va_put (D := (dC, dI)) (ci := 3) (v := .int (o_size - (1 : Int32))) (ty := tyX4 2) (C := RX4) (T := TX4) (N := 3) hx hb hts (fun w h => List.mem_cons_of_mem _ (kc_X4 w h)) tyX4 tyX4_ok nmX4 hown hK hP hD hS 0 rfl rfl 2 (by decide) (hg kw_315) (fun _ h9 => h9) rfl (by decide +kernel) rfl rfl (Nat.le_of_ble_eq_true rfl) dX4_giveBack_66 (fun H locs hP hD hS => ?_)
          have hP : va_P (dC, dI) vwCl [(h_o, .inr (3, [.ref h_o_tiles, .int x12, .int (o_size - (1 : Int32))])), (h_o_tiles, .inl (ca 5, 8, .inr (.inr (.inr (.inr (fun j => some (h_o_tiles_e j))))))), ((h_o_tiles_e 0), .inr (5, [.int ((o_tiles_v 0).1), .int ((o_tiles_v 0).2.1), .int ((o_tiles_v 0).2.2.1), .long ((o_tiles_v 0).2.2.2.1), .long ((o_tiles_v 0).2.2.2.2)])), ((h_o_tiles_e 1), .inr (5, [.int ((o_tiles_v 1).1), .int ((o_tiles_v 1).2.1), .int ((o_tiles_v 1).2.2.1), .long ((o_tiles_v 1).2.2.2.1), .long ((o_tiles_v 1).2.2.2.2)])), ((h_o_tiles_e 2), .inr (5, [.int ((o_tiles_v 2).1), .int ((o_tiles_v 2).2.1), .int ((o_tiles_v 2).2.2.1), .long ((o_tiles_v 2).2.2.2.1), .long ((o_tiles_v 2).2.2.2.2)])), ((h_o_tiles_e 3), .inr (5, [.int ((o_tiles_v 3).1), .int ((o_tiles_v 3).2.1), .int ((o_tiles_v 3).2.2.1), .long ((o_tiles_v 3).2.2.2.1), .long ((o_tiles_v 3).2.2.2.2)])), ((h_o_tiles_e 4), .inr (5, [.int ((o_tiles_v 4).1), .int ((o_tiles_v 4).2.1), .int ((o_tiles_v 4).2.2.1), .long ((o_tiles_v 4).2.2.2.1), .long ((o_tiles_v 4).2.2.2.2)])), ((h_o_tiles_e 5), .inr (5, [.int ((o_tiles_v 5).1), .int ((o_tiles_v 5).2.1), .int ((o_tiles_v 5).2.2.1), .long ((o_tiles_v 5).2.2.2.1), .long ((o_tiles_v 5).2.2.2.2)])), ((h_o_tiles_e 7), .inr (5, [.int ((o_tiles_v 7).1), .int ((o_tiles_v 7).2.1), .int ((o_tiles_v 7).2.2.1), .long ((o_tiles_v 7).2.2.2.1), .long ((o_tiles_v 7).2.2.2.2)])), ((h_o_tiles_e 6), .inr (5, [.int ((o_tiles_v 6).1), .int ((o_tiles_v 6).2.1), .int ((o_tiles_v 6).2.2.1), .long ((o_tiles_v 6).2.2.2.1), .long ((o_tiles_v 6).2.2.2.2)])), (h_p1, .inr (5, [.int q51.1, .int q51.2.1, .int q51.2.2.1, .long q51.2.2.2.1, .long q51.2.2.2.2]))] H := hP
          have hD : va_D A [(h_o, .inr (3, [.ref h_o_tiles, .int x12, .int (o_size - (1 : Int32))])), (h_o_tiles, .inl (ca 5, 8, .inr (.inr (.inr (.inr (fun j => some (h_o_tiles_e j))))))), ((h_o_tiles_e 0), .inr (5, [.int ((o_tiles_v 0).1), .int ((o_tiles_v 0).2.1), .int ((o_tiles_v 0).2.2.1), .long ((o_tiles_v 0).2.2.2.1), .long ((o_tiles_v 0).2.2.2.2)])), ((h_o_tiles_e 1), .inr (5, [.int ((o_tiles_v 1).1), .int ((o_tiles_v 1).2.1), .int ((o_tiles_v 1).2.2.1), .long ((o_tiles_v 1).2.2.2.1), .long ((o_tiles_v 1).2.2.2.2)])), ((h_o_tiles_e 2), .inr (5, [.int ((o_tiles_v 2).1), .int ((o_tiles_v 2).2.1), .int ((o_tiles_v 2).2.2.1), .long ((o_tiles_v 2).2.2.2.1), .long ((o_tiles_v 2).2.2.2.2)])), ((h_o_tiles_e 3), .inr (5, [.int ((o_tiles_v 3).1), .int ((o_tiles_v 3).2.1), .int ((o_tiles_v 3).2.2.1), .long ((o_tiles_v 3).2.2.2.1), .long ((o_tiles_v 3).2.2.2.2)])), ((h_o_tiles_e 4), .inr (5, [.int ((o_tiles_v 4).1), .int ((o_tiles_v 4).2.1), .int ((o_tiles_v 4).2.2.1), .long ((o_tiles_v 4).2.2.2.1), .long ((o_tiles_v 4).2.2.2.2)])), ((h_o_tiles_e 5), .inr (5, [.int ((o_tiles_v 5).1), .int ((o_tiles_v 5).2.1), .int ((o_tiles_v 5).2.2.1), .long ((o_tiles_v 5).2.2.2.1), .long ((o_tiles_v 5).2.2.2.2)])), ((h_o_tiles_e 7), .inr (5, [.int ((o_tiles_v 7).1), .int ((o_tiles_v 7).2.1), .int ((o_tiles_v 7).2.2.1), .long ((o_tiles_v 7).2.2.2.1), .long ((o_tiles_v 7).2.2.2.2)])), ((h_o_tiles_e 6), .inr (5, [.int ((o_tiles_v 6).1), .int ((o_tiles_v 6).2.1), .int ((o_tiles_v 6).2.2.1), .long ((o_tiles_v 6).2.2.2.1), .long ((o_tiles_v 6).2.2.2.2)])), (h_p1, .inr (5, [.int q51.1, .int q51.2.1, .int q51.2.2.1, .long q51.2.2.2.1, .long q51.2.2.2.2]))] := hD
          refine lv_iconst (v := 1) hx hb dX4_giveBack_69 (by decide) ?_
          have hf := Option.some.inj hf
          subst hf
          rw [eG0] at hG
          have hG : _ = res := hG
          subst hG
          exact W.zret (v := (1 : Int32)) (ty := .boolean) hx hb hr rfl (fun t ht hW => ⟨⟨(1 : Int32), (), rfl, rfl, by rw [ht]; exact (hP.sub [0, 1, 2, 3, 4, 5, 6, 7, 9, 8, 10] rfl), (hD.sub [0, 1, 2, 3, 4, 5, 6, 7, 9, 8, 10] rfl rfl)⟩, hS.F ht⟩) hS.2.2 dX4_giveBack_70
        replace hf := ds_f c_38_6 hf
        refine ds_ai (f := fun j => some (h_o_tiles_e j)) (k := 7) (ds_last8 b_38 c_38_0 c_38_1 c_38_2 c_38_3 c_38_4 c_38_5 c_38_6) ?_
        refine lv_ifnonnull (tgt := 44) hx hb dX4_giveBack_39 (by decide) ?_
        refine lv_aload_n hx hb dX4_giveBack_44 rfl (lv_at hl 2 rfl) ?_
        refine lv_aload_n hx hb dX4_giveBack_45 rfl (lv_at hl 1 rfl) ?_
        refine va_get (D := (dC, dI)) (ci := 3) (v := .ref h_o_tiles) (C := RX4) (T := TX4) (N := 3) hx hb hts (fun w h => List.mem_cons_of_mem _ (kc_X4 w h)) hown hK hP 0 rfl rfl 0 (by decide) (hg kw_320) (fun _ h9 => h9) rfl dX4_giveBack_46 ?_
        refine lv_iload_n hx hb dX4_giveBack_49 rfl (lv_at hl 0 rfl) ?_
        refine va_aldq hx hb hK hP 1 5 rfl rfl b_38 dX4_giveBack_50 ?_
        refine ds_ai (f := fun j => some (h_o_tiles_e j)) (k := 7) (ds_last8 b_38 c_38_0 c_38_1 c_38_2 c_38_3 c_38_4 c_38_5 c_38_6) ?_
        obtain ⟨q51, hq51, hf⟩ := ds_ob hf
        refine ds_callv (wr := [(h_o, .inr (3, [.ref h_o_tiles, .int o_next, .int o_size])), (h_o_tiles, .inl (ca 5, 8, .inr (.inr (.inr (.inr (fun j => some (h_o_tiles_e j))))))), ((h_o_tiles_e 0), .inr (5, [.int ((o_tiles_v 0).1), .int ((o_tiles_v 0).2.1), .int ((o_tiles_v 0).2.2.1), .long ((o_tiles_v 0).2.2.2.1), .long ((o_tiles_v 0).2.2.2.2)])), ((h_o_tiles_e 1), .inr (5, [.int ((o_tiles_v 1).1), .int ((o_tiles_v 1).2.1), .int ((o_tiles_v 1).2.2.1), .long ((o_tiles_v 1).2.2.2.1), .long ((o_tiles_v 1).2.2.2.2)])), ((h_o_tiles_e 2), .inr (5, [.int ((o_tiles_v 2).1), .int ((o_tiles_v 2).2.1), .int ((o_tiles_v 2).2.2.1), .long ((o_tiles_v 2).2.2.2.1), .long ((o_tiles_v 2).2.2.2.2)])), ((h_o_tiles_e 3), .inr (5, [.int ((o_tiles_v 3).1), .int ((o_tiles_v 3).2.1), .int ((o_tiles_v 3).2.2.1), .long ((o_tiles_v 3).2.2.2.1), .long ((o_tiles_v 3).2.2.2.2)])), ((h_o_tiles_e 4), .inr (5, [.int ((o_tiles_v 4).1), .int ((o_tiles_v 4).2.1), .int ((o_tiles_v 4).2.2.1), .long ((o_tiles_v 4).2.2.2.1), .long ((o_tiles_v 4).2.2.2.2)])), ((h_o_tiles_e 5), .inr (5, [.int ((o_tiles_v 5).1), .int ((o_tiles_v 5).2.1), .int ((o_tiles_v 5).2.2.1), .long ((o_tiles_v 5).2.2.2.1), .long ((o_tiles_v 5).2.2.2.2)])), ((h_o_tiles_e 6), .inr (5, [.int ((o_tiles_v 6).1), .int ((o_tiles_v 6).2.1), .int ((o_tiles_v 6).2.2.1), .long ((o_tiles_v 6).2.2.2.1), .long ((o_tiles_v 6).2.2.2.2)]))]) (va_runV (As := [.ref (h_o_tiles_e 7)]) (rest := []) ⟨hx, hb, hml, hown, hts⟩ (c_X6_copyFrom l dC dI ca sa (h_o_tiles_e 7) h_p1 s.heap.size ((o_tiles_v 7).1) ((o_tiles_v 7).2.1) ((o_tiles_v 7).2.2.1) ((o_tiles_v 7).2.2.2.1) ((o_tiles_v 7).2.2.2.2) p1_wide p1_high p1_hex p1_ones p1_twos  q51 hq51) (cwV 1 hts (ds_gV kw_321 kw_144 kw_145 kw_59 kw_146) rfl rfl rfl (by decide +kernel) ⟨Nat.le_of_ble_eq_true rfl, Nat.le_of_ble_eq_true rfl⟩) ⟨ds_blind, va_recv hK hP (ci := 5) (q0 := 10) rfl rfl, ds_at hP hD hK hE hS hA [9, 10] rfl rfl _⟩ rfl rfl hl.1 rfl (lv_room (Nat.le_of_ble_eq_true rfl)) dX4_giveBack_51 ⟨Nat.zero_le _, Nat.zero_le _⟩) hP hD hS hA [9, 10] [0, 1, 2, 3, 4, 5, 6, 7, 8] rfl rfl rfl (by decide) (fun H locs hP hD hS => ?_)
        have hP : va_P (dC, dI) vwCl [(h_o, .inr (3, [.ref h_o_tiles, .int o_next, .int o_size])), (h_o_tiles, .inl (ca 5, 8, .inr (.inr (.inr (.inr (fun j => some (h_o_tiles_e j))))))), ((h_o_tiles_e 0), .inr (5, [.int ((o_tiles_v 0).1), .int ((o_tiles_v 0).2.1), .int ((o_tiles_v 0).2.2.1), .long ((o_tiles_v 0).2.2.2.1), .long ((o_tiles_v 0).2.2.2.2)])), ((h_o_tiles_e 1), .inr (5, [.int ((o_tiles_v 1).1), .int ((o_tiles_v 1).2.1), .int ((o_tiles_v 1).2.2.1), .long ((o_tiles_v 1).2.2.2.1), .long ((o_tiles_v 1).2.2.2.2)])), ((h_o_tiles_e 2), .inr (5, [.int ((o_tiles_v 2).1), .int ((o_tiles_v 2).2.1), .int ((o_tiles_v 2).2.2.1), .long ((o_tiles_v 2).2.2.2.1), .long ((o_tiles_v 2).2.2.2.2)])), ((h_o_tiles_e 3), .inr (5, [.int ((o_tiles_v 3).1), .int ((o_tiles_v 3).2.1), .int ((o_tiles_v 3).2.2.1), .long ((o_tiles_v 3).2.2.2.1), .long ((o_tiles_v 3).2.2.2.2)])), ((h_o_tiles_e 4), .inr (5, [.int ((o_tiles_v 4).1), .int ((o_tiles_v 4).2.1), .int ((o_tiles_v 4).2.2.1), .long ((o_tiles_v 4).2.2.2.1), .long ((o_tiles_v 4).2.2.2.2)])), ((h_o_tiles_e 5), .inr (5, [.int ((o_tiles_v 5).1), .int ((o_tiles_v 5).2.1), .int ((o_tiles_v 5).2.2.1), .long ((o_tiles_v 5).2.2.2.1), .long ((o_tiles_v 5).2.2.2.2)])), ((h_o_tiles_e 6), .inr (5, [.int ((o_tiles_v 6).1), .int ((o_tiles_v 6).2.1), .int ((o_tiles_v 6).2.2.1), .long ((o_tiles_v 6).2.2.2.1), .long ((o_tiles_v 6).2.2.2.2)])), ((h_o_tiles_e 7), .inr (5, [.int ((o_tiles_v 7).1), .int ((o_tiles_v 7).2.1), .int ((o_tiles_v 7).2.2.1), .long ((o_tiles_v 7).2.2.2.1), .long ((o_tiles_v 7).2.2.2.2)])), (h_p1, .inr (5, [.int q51.1, .int q51.2.1, .int q51.2.2.1, .long q51.2.2.2.1, .long q51.2.2.2.2]))] H := hP
        have hD : va_D A [(h_o, .inr (3, [.ref h_o_tiles, .int o_next, .int o_size])), (h_o_tiles, .inl (ca 5, 8, .inr (.inr (.inr (.inr (fun j => some (h_o_tiles_e j))))))), ((h_o_tiles_e 0), .inr (5, [.int ((o_tiles_v 0).1), .int ((o_tiles_v 0).2.1), .int ((o_tiles_v 0).2.2.1), .long ((o_tiles_v 0).2.2.2.1), .long ((o_tiles_v 0).2.2.2.2)])), ((h_o_tiles_e 1), .inr (5, [.int ((o_tiles_v 1).1), .int ((o_tiles_v 1).2.1), .int ((o_tiles_v 1).2.2.1), .long ((o_tiles_v 1).2.2.2.1), .long ((o_tiles_v 1).2.2.2.2)])), ((h_o_tiles_e 2), .inr (5, [.int ((o_tiles_v 2).1), .int ((o_tiles_v 2).2.1), .int ((o_tiles_v 2).2.2.1), .long ((o_tiles_v 2).2.2.2.1), .long ((o_tiles_v 2).2.2.2.2)])), ((h_o_tiles_e 3), .inr (5, [.int ((o_tiles_v 3).1), .int ((o_tiles_v 3).2.1), .int ((o_tiles_v 3).2.2.1), .long ((o_tiles_v 3).2.2.2.1), .long ((o_tiles_v 3).2.2.2.2)])), ((h_o_tiles_e 4), .inr (5, [.int ((o_tiles_v 4).1), .int ((o_tiles_v 4).2.1), .int ((o_tiles_v 4).2.2.1), .long ((o_tiles_v 4).2.2.2.1), .long ((o_tiles_v 4).2.2.2.2)])), ((h_o_tiles_e 5), .inr (5, [.int ((o_tiles_v 5).1), .int ((o_tiles_v 5).2.1), .int ((o_tiles_v 5).2.2.1), .long ((o_tiles_v 5).2.2.2.1), .long ((o_tiles_v 5).2.2.2.2)])), ((h_o_tiles_e 6), .inr (5, [.int ((o_tiles_v 6).1), .int ((o_tiles_v 6).2.1), .int ((o_tiles_v 6).2.2.1), .long ((o_tiles_v 6).2.2.2.1), .long ((o_tiles_v 6).2.2.2.2)])), ((h_o_tiles_e 7), .inr (5, [.int ((o_tiles_v 7).1), .int ((o_tiles_v 7).2.1), .int ((o_tiles_v 7).2.2.1), .long ((o_tiles_v 7).2.2.2.1), .long ((o_tiles_v 7).2.2.2.2)])), (h_p1, .inr (5, [.int q51.1, .int q51.2.1, .int q51.2.2.1, .long q51.2.2.2.1, .long q51.2.2.2.2]))] := hD
        refine lv_aload_n hx hb dX4_giveBack_54 rfl (lv_at hl 1 rfl) ?_
        refine lv_iload_n hx hb dX4_giveBack_55 rfl (lv_at hl 0 rfl) ?_
        refine va_put (D := (dC, dI)) (ci := 3) (v := .int x12) (ty := tyX4 1) (C := RX4) (T := TX4) (N := 3) hx hb hts (fun w h => List.mem_cons_of_mem _ (kc_X4 w h)) tyX4 tyX4_ok nmX4 hown hK hP hD hS 0 rfl rfl 1 (by decide) (hg kw_319) (fun _ h9 => h9) rfl (by decide +kernel) rfl rfl (Nat.le_of_ble_eq_true rfl) dX4_giveBack_56 (fun H locs hP hD hS => ?_)
        have hP : va_P (dC, dI) vwCl [(h_o, .inr (3, [.ref h_o_tiles, .int x12, .int o_size])), (h_o_tiles, .inl (ca 5, 8, .inr (.inr (.inr (.inr (fun j => some (h_o_tiles_e j))))))), ((h_o_tiles_e 0), .inr (5, [.int ((o_tiles_v 0).1), .int ((o_tiles_v 0).2.1), .int ((o_tiles_v 0).2.2.1), .long ((o_tiles_v 0).2.2.2.1), .long ((o_tiles_v 0).2.2.2.2)])), ((h_o_tiles_e 1), .inr (5, [.int ((o_tiles_v 1).1), .int ((o_tiles_v 1).2.1), .int ((o_tiles_v 1).2.2.1), .long ((o_tiles_v 1).2.2.2.1), .long ((o_tiles_v 1).2.2.2.2)])), ((h_o_tiles_e 2), .inr (5, [.int ((o_tiles_v 2).1), .int ((o_tiles_v 2).2.1), .int ((o_tiles_v 2).2.2.1), .long ((o_tiles_v 2).2.2.2.1), .long ((o_tiles_v 2).2.2.2.2)])), ((h_o_tiles_e 3), .inr (5, [.int ((o_tiles_v 3).1), .int ((o_tiles_v 3).2.1), .int ((o_tiles_v 3).2.2.1), .long ((o_tiles_v 3).2.2.2.1), .long ((o_tiles_v 3).2.2.2.2)])), ((h_o_tiles_e 4), .inr (5, [.int ((o_tiles_v 4).1), .int ((o_tiles_v 4).2.1), .int ((o_tiles_v 4).2.2.1), .long ((o_tiles_v 4).2.2.2.1), .long ((o_tiles_v 4).2.2.2.2)])), ((h_o_tiles_e 5), .inr (5, [.int ((o_tiles_v 5).1), .int ((o_tiles_v 5).2.1), .int ((o_tiles_v 5).2.2.1), .long ((o_tiles_v 5).2.2.2.1), .long ((o_tiles_v 5).2.2.2.2)])), ((h_o_tiles_e 6), .inr (5, [.int ((o_tiles_v 6).1), .int ((o_tiles_v 6).2.1), .int ((o_tiles_v 6).2.2.1), .long ((o_tiles_v 6).2.2.2.1), .long ((o_tiles_v 6).2.2.2.2)])), ((h_o_tiles_e 7), .inr (5, [.int ((o_tiles_v 7).1), .int ((o_tiles_v 7).2.1), .int ((o_tiles_v 7).2.2.1), .long ((o_tiles_v 7).2.2.2.1), .long ((o_tiles_v 7).2.2.2.2)])), (h_p1, .inr (5, [.int q51.1, .int q51.2.1, .int q51.2.2.1, .long q51.2.2.2.1, .long q51.2.2.2.2]))] H := hP
        have hD : va_D A [(h_o, .inr (3, [.ref h_o_tiles, .int x12, .int o_size])), (h_o_tiles, .inl (ca 5, 8, .inr (.inr (.inr (.inr (fun j => some (h_o_tiles_e j))))))), ((h_o_tiles_e 0), .inr (5, [.int ((o_tiles_v 0).1), .int ((o_tiles_v 0).2.1), .int ((o_tiles_v 0).2.2.1), .long ((o_tiles_v 0).2.2.2.1), .long ((o_tiles_v 0).2.2.2.2)])), ((h_o_tiles_e 1), .inr (5, [.int ((o_tiles_v 1).1), .int ((o_tiles_v 1).2.1), .int ((o_tiles_v 1).2.2.1), .long ((o_tiles_v 1).2.2.2.1), .long ((o_tiles_v 1).2.2.2.2)])), ((h_o_tiles_e 2), .inr (5, [.int ((o_tiles_v 2).1), .int ((o_tiles_v 2).2.1), .int ((o_tiles_v 2).2.2.1), .long ((o_tiles_v 2).2.2.2.1), .long ((o_tiles_v 2).2.2.2.2)])), ((h_o_tiles_e 3), .inr (5, [.int ((o_tiles_v 3).1), .int ((o_tiles_v 3).2.1), .int ((o_tiles_v 3).2.2.1), .long ((o_tiles_v 3).2.2.2.1), .long ((o_tiles_v 3).2.2.2.2)])), ((h_o_tiles_e 4), .inr (5, [.int ((o_tiles_v 4).1), .int ((o_tiles_v 4).2.1), .int ((o_tiles_v 4).2.2.1), .long ((o_tiles_v 4).2.2.2.1), .long ((o_tiles_v 4).2.2.2.2)])), ((h_o_tiles_e 5), .inr (5, [.int ((o_tiles_v 5).1), .int ((o_tiles_v 5).2.1), .int ((o_tiles_v 5).2.2.1), .long ((o_tiles_v 5).2.2.2.1), .long ((o_tiles_v 5).2.2.2.2)])), ((h_o_tiles_e 6), .inr (5, [.int ((o_tiles_v 6).1), .int ((o_tiles_v 6).2.1), .int ((o_tiles_v 6).2.2.1), .long ((o_tiles_v 6).2.2.2.1), .long ((o_tiles_v 6).2.2.2.2)])), ((h_o_tiles_e 7), .inr (5, [.int ((o_tiles_v 7).1), .int ((o_tiles_v 7).2.1), .int ((o_tiles_v 7).2.2.1), .long ((o_tiles_v 7).2.2.2.1), .long ((o_tiles_v 7).2.2.2.2)])), (h_p1, .inr (5, [.int q51.1, .int q51.2.1, .int q51.2.2.1, .long q51.2.2.2.1, .long q51.2.2.2.2]))] := hD
        refine lv_aload_n hx hb dX4_giveBack_59 rfl (lv_at hl 1 rfl) ?_
        refine lv_dup hx hb dX4_giveBack_60 rfl ?_
        refine va_get (D := (dC, dI)) (ci := 3) (v := .int o_size) (C := RX4) (T := TX4) (N := 3) hx hb hts (fun w h => List.mem_cons_of_mem _ (kc_X4 w h)) hown hK hP 0 rfl rfl 2 (by decide) (hg kw_315) (fun _ h9 => h9) rfl dX4_giveBack_61 ?_
        refine lv_iconst (v := 1) hx hb dX4_giveBack_64 (by decide) ?_
        refine lv_isub hx hb dX4_giveBack_65 ?_
        refine va_put (D := (dC, dI)) (ci := 3) (v := .int (o_size - (1 : Int32))) (ty := tyX4 2) (C := RX4) (T := TX4) (N := 3) hx hb hts (fun w h => List.mem_cons_of_mem _ (kc_X4 w h)) tyX4 tyX4_ok nmX4 hown hK hP hD hS 0 rfl rfl 2 (by decide) (hg kw_315) (fun _ h9 => h9) rfl (by decide +kernel) rfl rfl (Nat.le_of_ble_eq_true rfl) dX4_giveBack_66 (fun H locs hP hD hS => ?_)
        have hP : va_P (dC, dI) vwCl [(h_o, .inr (3, [.ref h_o_tiles, .int x12, .int (o_size - (1 : Int32))])), (h_o_tiles, .inl (ca 5, 8, .inr (.inr (.inr (.inr (fun j => some (h_o_tiles_e j))))))), ((h_o_tiles_e 0), .inr (5, [.int ((o_tiles_v 0).1), .int ((o_tiles_v 0).2.1), .int ((o_tiles_v 0).2.2.1), .long ((o_tiles_v 0).2.2.2.1), .long ((o_tiles_v 0).2.2.2.2)])), ((h_o_tiles_e 1), .inr (5, [.int ((o_tiles_v 1).1), .int ((o_tiles_v 1).2.1), .int ((o_tiles_v 1).2.2.1), .long ((o_tiles_v 1).2.2.2.1), .long ((o_tiles_v 1).2.2.2.2)])), ((h_o_tiles_e 2), .inr (5, [.int ((o_tiles_v 2).1), .int ((o_tiles_v 2).2.1), .int ((o_tiles_v 2).2.2.1), .long ((o_tiles_v 2).2.2.2.1), .long ((o_tiles_v 2).2.2.2.2)])), ((h_o_tiles_e 3), .inr (5, [.int ((o_tiles_v 3).1), .int ((o_tiles_v 3).2.1), .int ((o_tiles_v 3).2.2.1), .long ((o_tiles_v 3).2.2.2.1), .long ((o_tiles_v 3).2.2.2.2)])), ((h_o_tiles_e 4), .inr (5, [.int ((o_tiles_v 4).1), .int ((o_tiles_v 4).2.1), .int ((o_tiles_v 4).2.2.1), .long ((o_tiles_v 4).2.2.2.1), .long ((o_tiles_v 4).2.2.2.2)])), ((h_o_tiles_e 5), .inr (5, [.int ((o_tiles_v 5).1), .int ((o_tiles_v 5).2.1), .int ((o_tiles_v 5).2.2.1), .long ((o_tiles_v 5).2.2.2.1), .long ((o_tiles_v 5).2.2.2.2)])), ((h_o_tiles_e 6), .inr (5, [.int ((o_tiles_v 6).1), .int ((o_tiles_v 6).2.1), .int ((o_tiles_v 6).2.2.1), .long ((o_tiles_v 6).2.2.2.1), .long ((o_tiles_v 6).2.2.2.2)])), ((h_o_tiles_e 7), .inr (5, [.int ((o_tiles_v 7).1), .int ((o_tiles_v 7).2.1), .int ((o_tiles_v 7).2.2.1), .long ((o_tiles_v 7).2.2.2.1), .long ((o_tiles_v 7).2.2.2.2)])), (h_p1, .inr (5, [.int q51.1, .int q51.2.1, .int q51.2.2.1, .long q51.2.2.2.1, .long q51.2.2.2.2]))] H := hP
        have hD : va_D A [(h_o, .inr (3, [.ref h_o_tiles, .int x12, .int (o_size - (1 : Int32))])), (h_o_tiles, .inl (ca 5, 8, .inr (.inr (.inr (.inr (fun j => some (h_o_tiles_e j))))))), ((h_o_tiles_e 0), .inr (5, [.int ((o_tiles_v 0).1), .int ((o_tiles_v 0).2.1), .int ((o_tiles_v 0).2.2.1), .long ((o_tiles_v 0).2.2.2.1), .long ((o_tiles_v 0).2.2.2.2)])), ((h_o_tiles_e 1), .inr (5, [.int ((o_tiles_v 1).1), .int ((o_tiles_v 1).2.1), .int ((o_tiles_v 1).2.2.1), .long ((o_tiles_v 1).2.2.2.1), .long ((o_tiles_v 1).2.2.2.2)])), ((h_o_tiles_e 2), .inr (5, [.int ((o_tiles_v 2).1), .int ((o_tiles_v 2).2.1), .int ((o_tiles_v 2).2.2.1), .long ((o_tiles_v 2).2.2.2.1), .long ((o_tiles_v 2).2.2.2.2)])), ((h_o_tiles_e 3), .inr (5, [.int ((o_tiles_v 3).1), .int ((o_tiles_v 3).2.1), .int ((o_tiles_v 3).2.2.1), .long ((o_tiles_v 3).2.2.2.1), .long ((o_tiles_v 3).2.2.2.2)])), ((h_o_tiles_e 4), .inr (5, [.int ((o_tiles_v 4).1), .int ((o_tiles_v 4).2.1), .int ((o_tiles_v 4).2.2.1), .long ((o_tiles_v 4).2.2.2.1), .long ((o_tiles_v 4).2.2.2.2)])), ((h_o_tiles_e 5), .inr (5, [.int ((o_tiles_v 5).1), .int ((o_tiles_v 5).2.1), .int ((o_tiles_v 5).2.2.1), .long ((o_tiles_v 5).2.2.2.1), .long ((o_tiles_v 5).2.2.2.2)])), ((h_o_tiles_e 6), .inr (5, [.int ((o_tiles_v 6).1), .int ((o_tiles_v 6).2.1), .int ((o_tiles_v 6).2.2.1), .long ((o_tiles_v 6).2.2.2.1), .long ((o_tiles_v 6).2.2.2.2)])), ((h_o_tiles_e 7), .inr (5, [.int ((o_tiles_v 7).1), .int ((o_tiles_v 7).2.1), .int ((o_tiles_v 7).2.2.1), .long ((o_tiles_v 7).2.2.2.1), .long ((o_tiles_v 7).2.2.2.2)])), (h_p1, .inr (5, [.int q51.1, .int q51.2.1, .int q51.2.2.1, .long q51.2.2.2.1, .long q51.2.2.2.2]))] := hD
        refine lv_iconst (v := 1) hx hb dX4_giveBack_69 (by decide) ?_
        have hf := Option.some.inj hf
        subst hf
        rw [eG0] at hG
        have hG : _ = res := hG
        subst hG
        exact W.zret (v := (1 : Int32)) (ty := .boolean) hx hb hr rfl (fun t ht hW => ⟨⟨(1 : Int32), (), rfl, rfl, by rw [ht]; exact hP, hD⟩, hS.F ht⟩) hS.2.2 dX4_giveBack_70
theorem dX5_byteOf_0 : decode cX5_byteOf 0 = .ok (.lload_n 0, 1) := by decide +kernel
theorem dX5_byteOf_1 : decode cX5_byteOf 1 = .ok (.bipush 56, 2) := by decide +kernel
theorem dX5_byteOf_3 : decode cX5_byteOf 3 = .ok (.bipush 8, 2) := by decide +kernel
theorem dX5_byteOf_5 : decode cX5_byteOf 5 = .ok (.iload_n 2, 1) := by decide +kernel
theorem dX5_byteOf_6 : decode cX5_byteOf 6 = .ok (.imul, 1) := by decide +kernel
theorem dX5_byteOf_7 : decode cX5_byteOf 7 = .ok (.isub, 1) := by decide +kernel
theorem dX5_byteOf_8 : decode cX5_byteOf 8 = .ok (.lushr, 1) := by decide +kernel
theorem dX5_byteOf_9 : decode cX5_byteOf 9 = .ok (.l2i, 1) := by decide +kernel
theorem dX5_byteOf_10 : decode cX5_byteOf 10 = .ok (.sipush 255, 3) := by decide +kernel
theorem dX5_byteOf_13 : decode cX5_byteOf 13 = .ok (.iand, 1) := by decide +kernel
theorem dX5_byteOf_14 : decode cX5_byteOf 14 = .ok (.ireturn, 1) := by decide +kernel
def fX5_byteOf (p1 : Int64) (p2 : Int32) : Option (Int32) :=
  some ((ds_lushr p1 ((56 : Int32) - ((8 : Int32) * p2))).toInt32 &&& (255 : Int32))
set_option maxHeartbeats 4000000 in
set_option maxRecDepth 100000 in
theorem c_X5_byteOf (l : Launch) (dC : Nat → ClassId) (dI : Nat → Nat → Nat) (ca : Nat → ClassId) (sa : Nat → Nat) (sz : Nat) (p1 : Int64) (p2 : Int32) (res : Int32) (hf : fX5_byteOf p1 p2 = some res) : Met l yX5_byteOf (Cond.code yX5_byteOf cX5_byteOf 3 (some .int) :: ds_gw) { frames := 0, cells := 0, slots := 0, locals := 0 } (va_Pc [.long p1, .int p2] (ds_Pre dC dI ca sa [] sz)) (va_Qi (fun r (_ : Unit) => r = res) (ds_B dC dI (va_A [] sz) []) (va_A [] sz)) 0 0 (va_A [] sz) := by
  refine Met.ofW (cc := cX5_byteOf) (maxL := 3) (ret := (some .int)) (by decide) rfl ?_
  intro p e s m args below meth c s₁ B hml hv
  obtain ⟨rfl, hsz, hP, hK, hD0, hE⟩ := hv
  have hx := B.exec
  have hb := B.bytes
  have hr := B.returns
  have hts := atoms_spec (ws := Cond.code yX5_byteOf cX5_byteOf 3 (some .int) :: ds_gw) B.pre
  have hg : ∀ {w : Cond}, w ∈ ds_gw → w.before _ s = true := fun h => hts _ (List.mem_cons_of_mem _ h)
  have hown : s.vm.findClass RX5 = some m.cls := findClass_of_methodNamed B.named
  have hlocks := B.notSynchronized
  subst hsz
  have hD := hD0.self (sz := s.heap.size)
  generalize hAe : va_A [] s.heap.size = A at hD hE ⊢
  have hA : ∀ q : Nat, s.heap.size ≤ q → A q := fun q h => by rw [← hAe]; exact Or.inr h
  have hS : va_S A s.heap s.heap [] := va_S.rf
  have hl := lv_entry ([.long p1, .int p2]) (n := 3) (Nat.le_of_ble_eq_true rfl)
  rw [lg_entry_eq]
  generalize (lg_sl ([.long p1, .int p2]) ++ List.replicate (3 - (lg_sl ([.long p1, .int p2])).length) Slot.unset).toArray = ls at hl ⊢
  have hl : lv_has ls 3 [(0, .long p1), (2, .int p2)] := hl
  obtain ⟨G0, eG0⟩ : ∃ G : Int32 → Prop, G = (fun r => r = res) := ⟨_, rfl⟩
  obtain ⟨rr, hrr⟩ : ∃ z, z = res := ⟨_, rfl⟩
  rw [← hrr] at hf
  have hG : G0 rr := by subst eG0; exact hrr
  unfold fX5_byteOf at hf
  refine lv_lload_n hx hb dX5_byteOf_0 rfl (lv_at hl 0 rfl) ?_
  refine lv_bipush (v := 56) hx hb dX5_byteOf_1 (by decide) ?_
  refine lv_bipush (v := 8) hx hb dX5_byteOf_3 (by decide) ?_
  refine lv_iload_n hx hb dX5_byteOf_5 rfl (lv_at hl 1 rfl) ?_
  refine lv_imul hx hb dX5_byteOf_6 ?_
  refine lv_isub hx hb dX5_byteOf_7 ?_
  refine lv_lushr (v := (ds_lushr p1 ((56 : Int32) - ((8 : Int32) * p2)))) hx hb dX5_byteOf_8 rfl ?_
  refine lv_l2i (v := (ds_lushr p1 ((56 : Int32) - ((8 : Int32) * p2))).toInt32) hx hb dX5_byteOf_9 rfl ?_
  refine lv_sipush (v := 255) hx hb dX5_byteOf_10 (by decide) ?_
  refine lv_iand hx hb dX5_byteOf_13 ?_
  have hf := Option.some.inj hf
  subst hf
  rw [eG0] at hG
  have hG : _ = res := hG
  subst hG
  exact W.iret (v := ((ds_lushr p1 ((56 : Int32) - ((8 : Int32) * p2))).toInt32 &&& (255 : Int32))) hx hb hr (fun t ht hW => ⟨⟨((ds_lushr p1 ((56 : Int32) - ((8 : Int32) * p2))).toInt32 &&& (255 : Int32)), (), rfl, rfl, by rw [ht]; exact hP, hD⟩, hS.F ht⟩) hS.2.2 dX5_byteOf_14
theorem dX5_append_0 : decode cX5_append 0 = .ok (.iconst 0, 1) := by decide +kernel
theorem dX5_append_1 : decode cX5_append 1 = .ok (.istore_n 3, 1) := by decide +kernel
theorem dX5_append_2 : decode cX5_append 2 = .ok (.iload_n 3, 1) := by decide +kernel
theorem dX5_append_3 : decode cX5_append 3 = .ok (.bipush 8, 2) := by decide +kernel
theorem dX5_append_5 : decode cX5_append 5 = .ok (.if_icmp .ge 17, 3) := by decide +kernel
theorem dX5_append_8 : decode cX5_append 8 = .ok (.lload_n 1, 1) := by decide +kernel
theorem dX5_append_9 : decode cX5_append 9 = .ok (.iload_n 3, 1) := by decide +kernel
theorem dX5_append_10 : decode cX5_append 10 = .ok (.invokestatic 25, 3) := by decide +kernel
theorem dX5_append_13 : decode cX5_append 13 = .ok (.ifCond .eq 9, 3) := by decide +kernel
theorem dX5_append_16 : decode cX5_append 16 = .ok (.iinc 3 1, 3) := by decide +kernel
theorem dX5_append_19 : decode cX5_append 19 = .ok (.goto (-17), 3) := by decide +kernel
theorem dX5_append_22 : decode cX5_append 22 = .ok (.aload_n 0, 1) := by decide +kernel
theorem dX5_append_23 : decode cX5_append 23 = .ok (.getfield 19, 3) := by decide +kernel
theorem dX5_append_26 : decode cX5_append 26 = .ok (.iload_n 3, 1) := by decide +kernel
theorem dX5_append_27 : decode cX5_append 27 = .ok (.iadd, 1) := by decide +kernel
theorem dX5_append_28 : decode cX5_append 28 = .ok (.sipush 200, 3) := by decide +kernel
theorem dX5_append_31 : decode cX5_append 31 = .ok (.if_icmp .le 5, 3) := by decide +kernel
theorem dX5_append_34 : decode cX5_append 34 = .ok (.iconst (-1), 1) := by decide +kernel
theorem dX5_append_35 : decode cX5_append 35 = .ok (.ireturn, 1) := by decide +kernel
theorem dX5_append_36 : decode cX5_append 36 = .ok (.iconst 0, 1) := by decide +kernel
theorem dX5_append_37 : decode cX5_append 37 = .ok (.istore 4, 2) := by decide +kernel
theorem dX5_append_39 : decode cX5_append 39 = .ok (.iload 4, 2) := by decide +kernel
theorem dX5_append_41 : decode cX5_append 41 = .ok (.iload_n 3, 1) := by decide +kernel
theorem dX5_append_42 : decode cX5_append 42 = .ok (.if_icmp .ge 46, 3) := by decide +kernel
theorem dX5_append_45 : decode cX5_append 45 = .ok (.aload_n 0, 1) := by decide +kernel
theorem dX5_append_46 : decode cX5_append 46 = .ok (.getfield 19, 3) := by decide +kernel
theorem dX5_append_49 : decode cX5_append 49 = .ok (.aload_n 0, 1) := by decide +kernel
theorem dX5_append_50 : decode cX5_append 50 = .ok (.getfield 11, 3) := by decide +kernel
theorem dX5_append_53 : decode cX5_append 53 = .ok (.arraylength, 1) := by decide +kernel
theorem dX5_append_54 : decode cX5_append 54 = .ok (.if_icmp .ge 34, 3) := by decide +kernel
theorem dX5_append_57 : decode cX5_append 57 = .ok (.aload_n 0, 1) := by decide +kernel
theorem dX5_append_58 : decode cX5_append 58 = .ok (.getfield 11, 3) := by decide +kernel
theorem dX5_append_61 : decode cX5_append 61 = .ok (.aload_n 0, 1) := by decide +kernel
theorem dX5_append_62 : decode cX5_append 62 = .ok (.getfield 19, 3) := by decide +kernel
theorem dX5_append_65 : decode cX5_append 65 = .ok (.lload_n 1, 1) := by decide +kernel
theorem dX5_append_66 : decode cX5_append 66 = .ok (.iload 4, 2) := by decide +kernel
theorem dX5_append_68 : decode cX5_append 68 = .ok (.invokestatic 25, 3) := by decide +kernel
theorem dX5_append_71 : decode cX5_append 71 = .ok (.iastore, 1) := by decide +kernel
theorem dX5_append_72 : decode cX5_append 72 = .ok (.aload_n 0, 1) := by decide +kernel
theorem dX5_append_73 : decode cX5_append 73 = .ok (.dup, 1) := by decide +kernel
theorem dX5_append_74 : decode cX5_append 74 = .ok (.getfield 19, 3) := by decide +kernel
theorem dX5_append_77 : decode cX5_append 77 = .ok (.iconst 1, 1) := by decide +kernel
theorem dX5_append_78 : decode cX5_append 78 = .ok (.iadd, 1) := by decide +kernel
theorem dX5_append_79 : decode cX5_append 79 = .ok (.putfield 19, 3) := by decide +kernel
theorem dX5_append_82 : decode cX5_append 82 = .ok (.iinc 4 1, 3) := by decide +kernel
theorem dX5_append_85 : decode cX5_append 85 = .ok (.goto (-46), 3) := by decide +kernel
theorem dX5_append_88 : decode cX5_append 88 = .ok (.aload_n 0, 1) := by decide +kernel
theorem dX5_append_89 : decode cX5_append 89 = .ok (.getfield 19, 3) := by decide +kernel
theorem dX5_append_92 : decode cX5_append 92 = .ok (.ireturn, 1) := by decide +kernel
def fX5_append_88 (o_length : Int32) (o_bytes_r : Nat → Int32) : Option (Int32 × Int32 × (Nat → Int32)) :=
  some (o_length, o_length, o_bytes_r)
def fX5_append_39_b (p1 : Int64) (v3 : Int32) (v4 : Int32) (o_length : Int32) (o_bytes_r : Nat → Int32) : Option ((Int32 × Int32 × (Nat → Int32)) ⊕ (Int32 × Int32 × (Nat → Int32))) :=
  if v3 ≤ v4 then Option.bind (fX5_append_88 o_length o_bytes_r) fun z => some (.inr z) else if (200 : Int32) ≤ o_length then Option.bind (fX5_append_88 o_length o_bytes_r) fun z => some (.inr z) else Option.bind (fX5_byteOf p1 v4) fun q68 => if ds_in o_length 200 = true then some (.inl ((v4 + 1), (o_length + (1 : Int32)), (upd o_bytes_r o_length.toNatClampNeg q68))) else none
def fX5_append_39 (p1 : Int64) (v3 : Int32) (v4 : Int32) (o_length : Int32) (o_bytes_r : Nat → Int32) : Option (Int32 × Int32 × (Nat → Int32)) := ds_it (fun s => fX5_append_39_b p1 v3 s.1 s.2.1 s.2.2) 1000 (v4, o_length, o_bytes_r)
def fX5_append_22 (o_length : Int32) (o_bytes_r : Nat → Int32) (p1 : Int64) (v3 : Int32) : Option (Int32 × Int32 × (Nat → Int32)) :=
  if (o_length + v3) ≤ (200 : Int32) then fX5_append_39 p1 v3 (0 : Int32) o_length o_bytes_r else some ((-1 : Int32), o_length, o_bytes_r)
def fX5_append_2_b (o_length : Int32) (o_bytes_r : Nat → Int32) (p1 : Int64) (v3 : Int32) : Option ((Int32) ⊕ (Int32 × Int32 × (Nat → Int32))) :=
  if (8 : Int32) ≤ v3 then Option.bind (fX5_append_22 o_length o_bytes_r p1 v3) fun z => some (.inr z) else Option.bind (fX5_byteOf p1 v3) fun q10 => if q10 = 0 then Option.bind (fX5_append_22 o_length o_bytes_r p1 v3) fun z => some (.inr z) else some (.inl (v3 + 1))
def fX5_append_2 (o_length : Int32) (o_bytes_r : Nat → Int32) (p1 : Int64) (v3 : Int32) : Option (Int32 × Int32 × (Nat → Int32)) := ds_it (fun s => fX5_append_2_b o_length o_bytes_r p1 s) 1000 v3
def fX5_append (o_length : Int32) (o_bytes_r : Nat → Int32) (p1 : Int64) : Option (Int32 × Int32 × (Nat → Int32)) :=
  fX5_append_2 o_length o_bytes_r p1 (0 : Int32)
set_option maxHeartbeats 4000000 in
set_option maxRecDepth 100000 in
theorem c_X5_append (l : Launch) (dC : Nat → ClassId) (dI : Nat → Nat → Nat) (ca : Nat → ClassId) (sa : Nat → Nat) (h_o : Nat) (h_o_bytes : Nat) (sz : Nat) (o_length : Int32) (o_fault : Int32) (o_place : Int32) (o_rows : Int32) (o_bytes_r : Nat → Int32) (p1 : Int64) (res : Int32 × Int32 × (Nat → Int32)) (hf : fX5_append o_length o_bytes_r p1 = some res) : Met l yX5_append (Cond.code yX5_append cX5_append 5 (some .int) :: ds_gw) { frames := 1, cells := 0, slots := 0, locals := 22 } (va_Pc [.ref h_o, .long p1] (ds_Pre dC dI ca sa [(h_o, .inr (4, [.ref h_o_bytes, .int o_length, .int o_fault, .int o_place, .int o_rows])), (h_o_bytes, .inl (ca 0, 200, .inl o_bytes_r))] sz)) (va_Qi (fun r (_ : Unit) => r = res.1) (ds_B dC dI (va_A [(h_o, .inr (4, [.ref h_o_bytes, .int o_length, .int o_fault, .int o_place, .int o_rows])), (h_o_bytes, .inl (ca 0, 200, .inl o_bytes_r))] sz) [(h_o, .inr (4, [.ref h_o_bytes, .int res.2.1, .int o_fault, .int o_place, .int o_rows])), (h_o_bytes, .inl (ca 0, 200, .inl res.2.2))]) (va_A [(h_o, .inr (4, [.ref h_o_bytes, .int o_length, .int o_fault, .int o_place, .int o_rows])), (h_o_bytes, .inl (ca 0, 200, .inl o_bytes_r))] sz)) 0 0 (va_A [(h_o, .inr (4, [.ref h_o_bytes, .int o_length, .int o_fault, .int o_place, .int o_rows])), (h_o_bytes, .inl (ca 0, 200, .inl o_bytes_r))] sz) := by
  refine Met.ofW (cc := cX5_append) (maxL := 5) (ret := (some .int)) (by decide) rfl ?_
  intro p e s m args below meth c s₁ B hml hv
  obtain ⟨rfl, hsz, hP, hK, hD0, hE⟩ := hv
  have hx := B.exec
  have hb := B.bytes
  have hr := B.returns
  have hts := atoms_spec (ws := Cond.code yX5_append cX5_append 5 (some .int) :: ds_gw) B.pre
  have hg : ∀ {w : Cond}, w ∈ ds_gw → w.before _ s = true := fun h => hts _ (List.mem_cons_of_mem _ h)
  have hown : s.vm.findClass RX5 = some m.cls := findClass_of_methodNamed B.named
  have hlocks := B.notSynchronized
  subst hsz
  have hD := hD0.self (sz := s.heap.size)
  generalize hAe : va_A [(h_o, .inr (4, [.ref h_o_bytes, .int o_length, .int o_fault, .int o_place, .int o_rows])), (h_o_bytes, .inl (ca 0, 200, .inl o_bytes_r))] s.heap.size = A at hD hE ⊢
  have hA : ∀ q : Nat, s.heap.size ≤ q → A q := fun q h => by rw [← hAe]; exact Or.inr h
  have hS : va_S A s.heap s.heap [] := va_S.rf
  have hl := lv_entry ([.ref h_o, .long p1]) (n := 5) (Nat.le_of_ble_eq_true rfl)
  rw [lg_entry_eq]
  generalize (lg_sl ([.ref h_o, .long p1]) ++ List.replicate (5 - (lg_sl ([.ref h_o, .long p1])).length) Slot.unset).toArray = ls at hl ⊢
  have hl : lv_has ls 5 [(0, .ref h_o), (1, .long p1)] := hl
  obtain ⟨G0, eG0⟩ : ∃ G : (Int32 × Int32 × (Nat → Int32)) → Prop, G = (fun r => r = res) := ⟨_, rfl⟩
  obtain ⟨rr, hrr⟩ : ∃ z, z = res := ⟨_, rfl⟩
  rw [← hrr] at hf
  have hG : G0 rr := by subst eG0; exact hrr
  refine ds_cap (fun WW h1 h2 => ?_)
  have J_88 : ∀ (o_length : Int32) (o_bytes_r : Nat → Int32) (rr : Int32 × Int32 × (Nat → Int32)) (hf : fX5_append_88 o_length o_bytes_r = some rr) (hG : G0 rr) (H : Heap) (locs : List Loc) (hP : va_P (dC, dI) vwCl [(h_o, .inr (4, [.ref h_o_bytes, .int o_length, .int o_fault, .int o_place, .int o_rows])), (h_o_bytes, .inl (ca 0, 200, .inl o_bytes_r))] H) (hD : va_D A [(h_o, .inr (4, [.ref h_o_bytes, .int o_length, .int o_fault, .int o_place, .int o_rows])), (h_o_bytes, .inl (ca 0, 200, .inl o_bytes_r))]) (hS : va_S A s.heap H locs) (ls : Array Slot) (hl : lv_has ls 5 [(0, .ref h_o)]), WW H locs (F0 m 88 ls []) := by
    intro o_length o_bytes_r rr hf hG H locs hP hD hS ls hl
    refine h2 ?_
    unfold fX5_append_88 at hf
    refine lv_aload_n hx hb dX5_append_88 rfl (lv_at hl 0 rfl) ?_
    refine va_get (D := (dC, dI)) (ci := 4) (v := .int o_length) (C := RX5) (T := TX5) (N := 5) hx hb hts (fun w h => List.mem_cons_of_mem _ (kc_X5 w h)) hown hK hP 0 rfl rfl 1 (by decide) (hg kw_295) (fun _ h9 => h9) rfl dX5_append_89 ?_
    have hf := Option.some.inj hf
    subst hf
    rw [eG0] at hG
    have hG : _ = res := hG
    subst hG
    exact W.iret (v := o_length) hx hb hr (fun t ht hW => ⟨⟨o_length, (), rfl, rfl, by rw [ht]; exact hP, hD⟩, hS.F ht⟩) hS.2.2 dX5_append_92
  have J_39 : ∀ (v3 : Int32) (n : Nat) (v4 : Int32) (o_length : Int32) (o_bytes_r : Nat → Int32) (rr : Int32 × Int32 × (Nat → Int32)) (hf : ds_it (fun s => fX5_append_39_b p1 v3 s.1 s.2.1 s.2.2) n (v4, o_length, o_bytes_r) = some rr) (hG : G0 rr) (H : Heap) (locs : List Loc) (hP : va_P (dC, dI) vwCl [(h_o, .inr (4, [.ref h_o_bytes, .int o_length, .int o_fault, .int o_place, .int o_rows])), (h_o_bytes, .inl (ca 0, 200, .inl o_bytes_r))] H) (hD : va_D A [(h_o, .inr (4, [.ref h_o_bytes, .int o_length, .int o_fault, .int o_place, .int o_rows])), (h_o_bytes, .inl (ca 0, 200, .inl o_bytes_r))]) (hS : va_S A s.heap H locs) (ls : Array Slot) (hl : lv_has ls 5 [(0, .ref h_o), (1, .long p1), (3, .int v3), (4, .int v4)]), WW H locs (F0 m 39 ls []) := by
    intro v3 n
    induction n with
    | zero => intro v4 o_length o_bytes_r rr hf; exact (ds_it_zero hf).elim
    | succ n ih39 =>
      intro v4 o_length o_bytes_r rr hf hG H locs hP hD hS ls hl
      refine h2 ?_
      obtain ⟨rr, hf, hG⟩ := ds_it_succ hf hG
      replace hf : fX5_append_39_b p1 v3 v4 o_length o_bytes_r = some rr := hf
      obtain ⟨G1, eG1⟩ : ∃ G : ((Int32 × Int32 × (Nat → Int32)) ⊕ (Int32 × Int32 × (Nat → Int32))) → Prop, G = ds_G (fun s' => ∃ r', ds_it (fun s => fX5_append_39_b p1 v3 s.1 s.2.1 s.2.2) n s' = some r' ∧ G0 r') G0 := ⟨_, rfl⟩
      rw [← eG1] at hG
      unfold fX5_append_39_b at hf
      refine lv_iload hx hb dX5_append_39 (lv_at hl 3 rfl) ?_
      refine lv_iload_n hx hb dX5_append_41 rfl (lv_at hl 2 rfl) ?_
      refine lv_icmp_ge (tgt := 88) hx hb dX5_append_42 (by decide) (fun c_42 => ?_) (fun c_42 => ?_)
      · replace hf := ds_t c_42 hf
        obtain ⟨rr, hr_0, hf⟩ := ds_ob hf
        have hf := Option.some.inj hf
        subst hf
        rw [eG1] at hG
        replace hG : G0 rr := hG
        have hf := hr_0
        exact h1 (J_88 o_length o_bytes_r _ hf hG _ _ hP hD hS _ (lv_sub hl [0] rfl))
      · replace hf := ds_f c_42 hf
        refine lv_aload_n hx hb dX5_append_45 rfl (lv_at hl 0 rfl) ?_
        refine va_get (D := (dC, dI)) (ci := 4) (v := .int o_length) (C := RX5) (T := TX5) (N := 5) hx hb hts (fun w h => List.mem_cons_of_mem _ (kc_X5 w h)) hown hK hP 0 rfl rfl 1 (by decide) (hg kw_295) (fun _ h9 => h9) rfl dX5_append_46 ?_
        refine lv_aload_n hx hb dX5_append_49 rfl (lv_at hl 0 rfl) ?_
        refine va_get (D := (dC, dI)) (ci := 4) (v := .ref h_o_bytes) (C := RX5) (T := TX5) (N := 5) hx hb hts (fun w h => List.mem_cons_of_mem _ (kc_X5 w h)) hown hK hP 0 rfl rfl 0 (by decide) (hg kw_303) (fun _ h9 => h9) rfl dX5_append_50 ?_
        refine va_alen (v := 200) hx hb hK hP 1 0 rfl rfl rfl dX5_append_53 ?_
        refine lv_icmp_ge (tgt := 88) hx hb dX5_append_54 (by decide) (fun c_54 => ?_) (fun c_54 => ?_)
        · replace hf := ds_t c_54 hf
          obtain ⟨rr, hr_0, hf⟩ := ds_ob hf
          have hf := Option.some.inj hf
          subst hf
          rw [eG1] at hG
          replace hG : G0 rr := hG
          have hf := hr_0
          exact h1 (J_88 o_length o_bytes_r _ hf hG _ _ hP hD hS _ (lv_sub hl [0] rfl))
        · replace hf := ds_f c_54 hf
          refine lv_aload_n hx hb dX5_append_57 rfl (lv_at hl 0 rfl) ?_
          refine va_get (D := (dC, dI)) (ci := 4) (v := .ref h_o_bytes) (C := RX5) (T := TX5) (N := 5) hx hb hts (fun w h => List.mem_cons_of_mem _ (kc_X5 w h)) hown hK hP 0 rfl rfl 0 (by decide) (hg kw_303) (fun _ h9 => h9) rfl dX5_append_58 ?_
          refine lv_aload_n hx hb dX5_append_61 rfl (lv_at hl 0 rfl) ?_
          refine va_get (D := (dC, dI)) (ci := 4) (v := .int o_length) (C := RX5) (T := TX5) (N := 5) hx hb hts (fun w h => List.mem_cons_of_mem _ (kc_X5 w h)) hown hK hP 0 rfl rfl 1 (by decide) (hg kw_295) (fun _ h9 => h9) rfl dX5_append_62 ?_
          refine lv_lload_n hx hb dX5_append_65 rfl (lv_at hl 1 rfl) ?_
          refine lv_iload hx hb dX5_append_66 (lv_at hl 3 rfl) ?_
          obtain ⟨q68, hq68, hf⟩ := ds_ob hf
          refine ds_calli (wr := [(h_o, .inr (4, [.ref h_o_bytes, .int o_length, .int o_fault, .int o_place, .int o_rows])), (h_o_bytes, .inl (ca 0, 200, .inl o_bytes_r))]) (va_runS (As := [.long p1, .int v4]) (rest := [.int o_length, .ref h_o_bytes]) ⟨hx, hb, hml, hown, hts⟩ (c_X5_byteOf l dC dI ca sa  H.size  p1 v4 q68 hq68) (va_cwS 2 hts (ds_gS kw_326 kw_327 kw_313 kw_328) rfl rfl rfl (by decide +kernel) ⟨Nat.le_of_ble_eq_true rfl, Nat.le_of_ble_eq_true rfl⟩) ⟨ds_blind, ds_at hP hD hK hE hS hA [] rfl rfl _⟩ rfl rfl hl.1 rfl (lv_room (Nat.le_of_ble_eq_true rfl)) dX5_append_68 ⟨Nat.zero_le _, Nat.zero_le _⟩) hP hD hS hA [] [0, 1] rfl rfl rfl (by decide) (fun H locs hP hD hS => ?_)
          have hP : va_P (dC, dI) vwCl [(h_o, .inr (4, [.ref h_o_bytes, .int o_length, .int o_fault, .int o_place, .int o_rows])), (h_o_bytes, .inl (ca 0, 200, .inl o_bytes_r))] H := hP
          have hD : va_D A [(h_o, .inr (4, [.ref h_o_bytes, .int o_length, .int o_fault, .int o_place, .int o_rows])), (h_o_bytes, .inl (ca 0, 200, .inl o_bytes_r))] := hD
          obtain ⟨i_71, hf⟩ := ds_ci hf
          refine va_iast hx hb hK hP hD hS 1 0 rfl rfl i_71 dX5_append_71 (fun H locs hP hD hS => ?_)
          have hP : va_P (dC, dI) vwCl [(h_o, .inr (4, [.ref h_o_bytes, .int o_length, .int o_fault, .int o_place, .int o_rows])), (h_o_bytes, .inl (ca 0, 200, .inl (upd o_bytes_r o_length.toNatClampNeg q68)))] H := hP
          have hD : va_D A [(h_o, .inr (4, [.ref h_o_bytes, .int o_length, .int o_fault, .int o_place, .int o_rows])), (h_o_bytes, .inl (ca 0, 200, .inl (upd o_bytes_r o_length.toNatClampNeg q68)))] := hD
          refine lv_aload_n hx hb dX5_append_72 rfl (lv_at hl 0 rfl) ?_
          refine lv_dup hx hb dX5_append_73 rfl ?_
          refine va_get (D := (dC, dI)) (ci := 4) (v := .int o_length) (C := RX5) (T := TX5) (N := 5) hx hb hts (fun w h => List.mem_cons_of_mem _ (kc_X5 w h)) hown hK hP 0 rfl rfl 1 (by decide) (hg kw_295) (fun _ h9 => h9) rfl dX5_append_74 ?_
          refine lv_iconst (v := 1) hx hb dX5_append_77 (by decide) ?_
          refine lv_iadd hx hb dX5_append_78 ?_
          refine va_put (D := (dC, dI)) (ci := 4) (v := .int (o_length + (1 : Int32))) (ty := tyX5 1) (C := RX5) (T := TX5) (N := 5) hx hb hts (fun w h => List.mem_cons_of_mem _ (kc_X5 w h)) tyX5 tyX5_ok nmX5 hown hK hP hD hS 0 rfl rfl 1 (by decide) (hg kw_295) (fun _ h9 => h9) rfl (by decide +kernel) rfl rfl (Nat.le_of_ble_eq_true rfl) dX5_append_79 (fun H locs hP hD hS => ?_)
          have hP : va_P (dC, dI) vwCl [(h_o, .inr (4, [.ref h_o_bytes, .int (o_length + (1 : Int32)), .int o_fault, .int o_place, .int o_rows])), (h_o_bytes, .inl (ca 0, 200, .inl (upd o_bytes_r o_length.toNatClampNeg q68)))] H := hP
          have hD : va_D A [(h_o, .inr (4, [.ref h_o_bytes, .int (o_length + (1 : Int32)), .int o_fault, .int o_place, .int o_rows])), (h_o_bytes, .inl (ca 0, 200, .inl (upd o_bytes_r o_length.toNatClampNeg q68)))] := hD
          refine lv_iinc (v := (v4 + 1)) (lv' := [(4, .int (v4 + 1)), (0, .ref h_o), (1, .long p1), (3, .int v3)]) hx hb dX5_append_82 hl (k := 3) rfl rfl (by decide) rfl (fun ls hl => ?_)
          refine lv_goto (tgt := 39) hx hb dX5_append_85 (by decide) ?_
          have hf := Option.some.inj hf
          subst hf
          rw [eG1] at hG
          obtain ⟨rr, hf, hG⟩ := hG
          exact h1 (ih39 (v4 + 1) (o_length + (1 : Int32)) (upd o_bytes_r o_length.toNatClampNeg q68) rr hf hG _ _ hP hD hS _ (lv_sub hl [1, 2, 3, 0] rfl))
  have J_22 : ∀ (v3 : Int32) (o_length : Int32) (o_bytes_r : Nat → Int32) (rr : Int32 × Int32 × (Nat → Int32)) (hf : fX5_append_22 o_length o_bytes_r p1 v3 = some rr) (hG : G0 rr) (H : Heap) (locs : List Loc) (hP : va_P (dC, dI) vwCl [(h_o, .inr (4, [.ref h_o_bytes, .int o_length, .int o_fault, .int o_place, .int o_rows])), (h_o_bytes, .inl (ca 0, 200, .inl o_bytes_r))] H) (hD : va_D A [(h_o, .inr (4, [.ref h_o_bytes, .int o_length, .int o_fault, .int o_place, .int o_rows])), (h_o_bytes, .inl (ca 0, 200, .inl o_bytes_r))]) (hS : va_S A s.heap H locs) (ls : Array Slot) (hl : lv_has ls 5 [(0, .ref h_o), (1, .long p1), (3, .int v3)]), WW H locs (F0 m 22 ls []) := by
    intro v3 o_length o_bytes_r rr hf hG H locs hP hD hS ls hl
    refine h2 ?_
    unfold fX5_append_22 at hf
    refine lv_aload_n hx hb dX5_append_22 rfl (lv_at hl 0 rfl) ?_
    refine va_get (D := (dC, dI)) (ci := 4) (v := .int o_length) (C := RX5) (T := TX5) (N := 5) hx hb hts (fun w h => List.mem_cons_of_mem _ (kc_X5 w h)) hown hK hP 0 rfl rfl 1 (by decide) (hg kw_295) (fun _ h9 => h9) rfl dX5_append_23 ?_
    refine lv_iload_n hx hb dX5_append_26 rfl (lv_at hl 2 rfl) ?_
    refine lv_iadd hx hb dX5_append_27 ?_
    refine lv_sipush (v := 200) hx hb dX5_append_28 (by decide) ?_
    refine lv_icmp_le (tgt := 36) hx hb dX5_append_31 (by decide) (fun c_31 => ?_) (fun c_31 => ?_)
    · replace hf := ds_t c_31 hf
      refine lv_iconst (v := 0) hx hb dX5_append_36 (by decide) ?_
      refine lv_istore (lv' := [(4, .int (0 : Int32)), (0, .ref h_o), (1, .long p1), (3, .int v3)]) hx hb dX5_append_37 hl (by decide) rfl (fun ls hl => ?_)
      exact h1 (J_39 v3 1000 (0 : Int32) o_length o_bytes_r _ hf hG _ _ hP hD hS _ (lv_sub hl [1, 2, 3, 0] rfl))
    · replace hf := ds_f c_31 hf
      refine lv_iconst (v := -1) hx hb dX5_append_34 (by decide) ?_
      have hf := Option.some.inj hf
      subst hf
      rw [eG0] at hG
      have hG : _ = res := hG
      subst hG
      exact W.iret (v := (-1 : Int32)) hx hb hr (fun t ht hW => ⟨⟨(-1 : Int32), (), rfl, rfl, by rw [ht]; exact hP, hD⟩, hS.F ht⟩) hS.2.2 dX5_append_35
  have J_2 : ∀ (o_length : Int32) (o_bytes_r : Nat → Int32) (n : Nat) (v3 : Int32) (rr : Int32 × Int32 × (Nat → Int32)) (hf : ds_it (fun s => fX5_append_2_b o_length o_bytes_r p1 s) n v3 = some rr) (hG : G0 rr) (H : Heap) (locs : List Loc) (hP : va_P (dC, dI) vwCl [(h_o, .inr (4, [.ref h_o_bytes, .int o_length, .int o_fault, .int o_place, .int o_rows])), (h_o_bytes, .inl (ca 0, 200, .inl o_bytes_r))] H) (hD : va_D A [(h_o, .inr (4, [.ref h_o_bytes, .int o_length, .int o_fault, .int o_place, .int o_rows])), (h_o_bytes, .inl (ca 0, 200, .inl o_bytes_r))]) (hS : va_S A s.heap H locs) (ls : Array Slot) (hl : lv_has ls 5 [(0, .ref h_o), (1, .long p1), (3, .int v3)]), WW H locs (F0 m 2 ls []) := by
    intro o_length o_bytes_r n
    induction n with
    | zero => intro v3 rr hf; exact (ds_it_zero hf).elim
    | succ n ih2 =>
      intro v3 rr hf hG H locs hP hD hS ls hl
      refine h2 ?_
      obtain ⟨rr, hf, hG⟩ := ds_it_succ hf hG
      replace hf : fX5_append_2_b o_length o_bytes_r p1 v3 = some rr := hf
      obtain ⟨G1, eG1⟩ : ∃ G : ((Int32) ⊕ (Int32 × Int32 × (Nat → Int32))) → Prop, G = ds_G (fun s' => ∃ r', ds_it (fun s => fX5_append_2_b o_length o_bytes_r p1 s) n s' = some r' ∧ G0 r') G0 := ⟨_, rfl⟩
      rw [← eG1] at hG
      unfold fX5_append_2_b at hf
      refine lv_iload_n hx hb dX5_append_2 rfl (lv_at hl 2 rfl) ?_
      refine lv_bipush (v := 8) hx hb dX5_append_3 (by decide) ?_
      refine lv_icmp_ge (tgt := 22) hx hb dX5_append_5 (by decide) (fun c_5 => ?_) (fun c_5 => ?_)
      · replace hf := ds_t c_5 hf
        obtain ⟨rr, hr_0, hf⟩ := ds_ob hf
        have hf := Option.some.inj hf
        subst hf
        rw [eG1] at hG
        replace hG : G0 rr := hG
        have hf := hr_0
        exact h1 (J_22 v3 o_length o_bytes_r _ hf hG _ _ hP hD hS _ (lv_sub hl [0, 1, 2] rfl))
      · replace hf := ds_f c_5 hf
        refine lv_lload_n hx hb dX5_append_8 rfl (lv_at hl 1 rfl) ?_
        refine lv_iload_n hx hb dX5_append_9 rfl (lv_at hl 2 rfl) ?_
        obtain ⟨q10, hq10, hf⟩ := ds_ob hf
        refine ds_calli (wr := [(h_o, .inr (4, [.ref h_o_bytes, .int o_length, .int o_fault, .int o_place, .int o_rows])), (h_o_bytes, .inl (ca 0, 200, .inl o_bytes_r))]) (va_runS (As := [.long p1, .int v3]) (rest := []) ⟨hx, hb, hml, hown, hts⟩ (c_X5_byteOf l dC dI ca sa  H.size  p1 v3 q10 hq10) (va_cwS 2 hts (ds_gS kw_326 kw_327 kw_313 kw_328) rfl rfl rfl (by decide +kernel) ⟨Nat.le_of_ble_eq_true rfl, Nat.le_of_ble_eq_true rfl⟩) ⟨ds_blind, ds_at hP hD hK hE hS hA [] rfl rfl _⟩ rfl rfl hl.1 rfl (lv_room (Nat.le_of_ble_eq_true rfl)) dX5_append_10 ⟨Nat.zero_le _, Nat.zero_le _⟩) hP hD hS hA [] [0, 1] rfl rfl rfl (by decide) (fun H locs hP hD hS => ?_)
        have hP : va_P (dC, dI) vwCl [(h_o, .inr (4, [.ref h_o_bytes, .int o_length, .int o_fault, .int o_place, .int o_rows])), (h_o_bytes, .inl (ca 0, 200, .inl o_bytes_r))] H := hP
        have hD : va_D A [(h_o, .inr (4, [.ref h_o_bytes, .int o_length, .int o_fault, .int o_place, .int o_rows])), (h_o_bytes, .inl (ca 0, 200, .inl o_bytes_r))] := hD
        refine lv_if_eq (tgt := 22) hx hb dX5_append_13 (by decide) (fun c_13 => ?_) (fun c_13 => ?_)
        · replace hf := ds_t c_13 hf
          obtain ⟨rr, hr_0, hf⟩ := ds_ob hf
          have hf := Option.some.inj hf
          subst hf
          rw [eG1] at hG
          replace hG : G0 rr := hG
          have hf := hr_0
          exact h1 (J_22 v3 o_length o_bytes_r _ hf hG _ _ hP hD hS _ (lv_sub hl [0, 1, 2] rfl))
        · replace hf := ds_f c_13 hf
          refine lv_iinc (v := (v3 + 1)) (lv' := [(3, .int (v3 + 1)), (0, .ref h_o), (1, .long p1)]) hx hb dX5_append_16 hl (k := 2) rfl rfl (by decide) rfl (fun ls hl => ?_)
          refine lv_goto (tgt := 2) hx hb dX5_append_19 (by decide) ?_
          have hf := Option.some.inj hf
          subst hf
          rw [eG1] at hG
          obtain ⟨rr, hf, hG⟩ := hG
          exact h1 (ih2 (v3 + 1) rr hf hG _ _ hP hD hS _ (lv_sub hl [1, 2, 0] rfl))
  unfold fX5_append at hf
  refine lv_iconst (v := 0) hx hb dX5_append_0 (by decide) ?_
  refine lv_istore_n (lv' := [(3, .int (0 : Int32)), (0, .ref h_o), (1, .long p1)]) hx hb dX5_append_1 rfl hl (by decide) rfl (fun ls hl => ?_)
  exact h1 (J_2 o_length o_bytes_r 1000 (0 : Int32) _ hf hG _ _ hP hD hS _ (lv_sub hl [1, 2, 0] rfl))
theorem dX5_byteAt_0 : decode cX5_byteAt 0 = .ok (.iload_n 1, 1) := by decide +kernel
theorem dX5_byteAt_1 : decode cX5_byteAt 1 = .ok (.ifCond .lt 29, 3) := by decide +kernel
theorem dX5_byteAt_4 : decode cX5_byteAt 4 = .ok (.iload_n 1, 1) := by decide +kernel
theorem dX5_byteAt_5 : decode cX5_byteAt 5 = .ok (.aload_n 0, 1) := by decide +kernel
theorem dX5_byteAt_6 : decode cX5_byteAt 6 = .ok (.getfield 19, 3) := by decide +kernel
theorem dX5_byteAt_9 : decode cX5_byteAt 9 = .ok (.if_icmp .ge 21, 3) := by decide +kernel
theorem dX5_byteAt_12 : decode cX5_byteAt 12 = .ok (.iload_n 1, 1) := by decide +kernel
theorem dX5_byteAt_13 : decode cX5_byteAt 13 = .ok (.aload_n 0, 1) := by decide +kernel
theorem dX5_byteAt_14 : decode cX5_byteAt 14 = .ok (.getfield 11, 3) := by decide +kernel
theorem dX5_byteAt_17 : decode cX5_byteAt 17 = .ok (.arraylength, 1) := by decide +kernel
theorem dX5_byteAt_18 : decode cX5_byteAt 18 = .ok (.if_icmp .ge 12, 3) := by decide +kernel
theorem dX5_byteAt_21 : decode cX5_byteAt 21 = .ok (.aload_n 0, 1) := by decide +kernel
theorem dX5_byteAt_22 : decode cX5_byteAt 22 = .ok (.getfield 11, 3) := by decide +kernel
theorem dX5_byteAt_25 : decode cX5_byteAt 25 = .ok (.iload_n 1, 1) := by decide +kernel
theorem dX5_byteAt_26 : decode cX5_byteAt 26 = .ok (.iaload, 1) := by decide +kernel
theorem dX5_byteAt_27 : decode cX5_byteAt 27 = .ok (.goto 4, 3) := by decide +kernel
theorem dX5_byteAt_30 : decode cX5_byteAt 30 = .ok (.iconst 0, 1) := by decide +kernel
theorem dX5_byteAt_31 : decode cX5_byteAt 31 = .ok (.ireturn, 1) := by decide +kernel
def fX5_byteAt (o_length : Int32) (o_bytes_r : Nat → Int32) (p1 : Int32) : Option (Int32) :=
  if p1 < 0 then some (0 : Int32) else if o_length ≤ p1 then some (0 : Int32) else if (200 : Int32) ≤ p1 then some (0 : Int32) else if ds_in p1 200 = true then some (o_bytes_r p1.toNatClampNeg) else none
set_option maxHeartbeats 4000000 in
set_option maxRecDepth 100000 in
theorem c_X5_byteAt (l : Launch) (dC : Nat → ClassId) (dI : Nat → Nat → Nat) (ca : Nat → ClassId) (sa : Nat → Nat) (h_o : Nat) (h_o_bytes : Nat) (sz : Nat) (o_length : Int32) (o_fault : Int32) (o_place : Int32) (o_rows : Int32) (o_bytes_r : Nat → Int32) (p1 : Int32) (res : Int32) (hf : fX5_byteAt o_length o_bytes_r p1 = some res) : Met l yX5_byteAt (Cond.code yX5_byteAt cX5_byteAt 2 (some .int) :: ds_gw) { frames := 0, cells := 0, slots := 0, locals := 0 } (va_Pc [.ref h_o, .int p1] (ds_Pre dC dI ca sa [(h_o, .inr (4, [.ref h_o_bytes, .int o_length, .int o_fault, .int o_place, .int o_rows])), (h_o_bytes, .inl (ca 0, 200, .inl o_bytes_r))] sz)) (va_Qi (fun r (_ : Unit) => r = res) (ds_B dC dI (va_A [(h_o, .inr (4, [.ref h_o_bytes, .int o_length, .int o_fault, .int o_place, .int o_rows])), (h_o_bytes, .inl (ca 0, 200, .inl o_bytes_r))] sz) [(h_o, .inr (4, [.ref h_o_bytes, .int o_length, .int o_fault, .int o_place, .int o_rows])), (h_o_bytes, .inl (ca 0, 200, .inl o_bytes_r))]) (va_A [(h_o, .inr (4, [.ref h_o_bytes, .int o_length, .int o_fault, .int o_place, .int o_rows])), (h_o_bytes, .inl (ca 0, 200, .inl o_bytes_r))] sz)) 0 0 (va_A [(h_o, .inr (4, [.ref h_o_bytes, .int o_length, .int o_fault, .int o_place, .int o_rows])), (h_o_bytes, .inl (ca 0, 200, .inl o_bytes_r))] sz) := by
  refine Met.ofW (cc := cX5_byteAt) (maxL := 2) (ret := (some .int)) (by decide) rfl ?_
  intro p e s m args below meth c s₁ B hml hv
  obtain ⟨rfl, hsz, hP, hK, hD0, hE⟩ := hv
  have hx := B.exec
  have hb := B.bytes
  have hr := B.returns
  have hts := atoms_spec (ws := Cond.code yX5_byteAt cX5_byteAt 2 (some .int) :: ds_gw) B.pre
  have hg : ∀ {w : Cond}, w ∈ ds_gw → w.before _ s = true := fun h => hts _ (List.mem_cons_of_mem _ h)
  have hown : s.vm.findClass RX5 = some m.cls := findClass_of_methodNamed B.named
  have hlocks := B.notSynchronized
  subst hsz
  have hD := hD0.self (sz := s.heap.size)
  generalize hAe : va_A [(h_o, .inr (4, [.ref h_o_bytes, .int o_length, .int o_fault, .int o_place, .int o_rows])), (h_o_bytes, .inl (ca 0, 200, .inl o_bytes_r))] s.heap.size = A at hD hE ⊢
  have hA : ∀ q : Nat, s.heap.size ≤ q → A q := fun q h => by rw [← hAe]; exact Or.inr h
  have hS : va_S A s.heap s.heap [] := va_S.rf
  have hl := lv_entry ([.ref h_o, .int p1]) (n := 2) (Nat.le_of_ble_eq_true rfl)
  rw [lg_entry_eq]
  generalize (lg_sl ([.ref h_o, .int p1]) ++ List.replicate (2 - (lg_sl ([.ref h_o, .int p1])).length) Slot.unset).toArray = ls at hl ⊢
  have hl : lv_has ls 2 [(0, .ref h_o), (1, .int p1)] := hl
  obtain ⟨G0, eG0⟩ : ∃ G : Int32 → Prop, G = (fun r => r = res) := ⟨_, rfl⟩
  obtain ⟨rr, hrr⟩ : ∃ z, z = res := ⟨_, rfl⟩
  rw [← hrr] at hf
  have hG : G0 rr := by subst eG0; exact hrr
  unfold fX5_byteAt at hf
  refine lv_iload_n hx hb dX5_byteAt_0 rfl (lv_at hl 1 rfl) ?_
  refine lv_if_lt (tgt := 30) hx hb dX5_byteAt_1 (by decide) (fun c_1 => ?_) (fun c_1 => ?_)
  · replace hf := ds_t c_1 hf
    refine lv_iconst (v := 0) hx hb dX5_byteAt_30 (by decide) ?_
    have hf := Option.some.inj hf
    subst hf
    rw [eG0] at hG
    have hG : _ = res := hG
    subst hG
    exact W.iret (v := (0 : Int32)) hx hb hr (fun t ht hW => ⟨⟨(0 : Int32), (), rfl, rfl, by rw [ht]; exact hP, hD⟩, hS.F ht⟩) hS.2.2 dX5_byteAt_31
  · replace hf := ds_f c_1 hf
    refine lv_iload_n hx hb dX5_byteAt_4 rfl (lv_at hl 1 rfl) ?_
    refine lv_aload_n hx hb dX5_byteAt_5 rfl (lv_at hl 0 rfl) ?_
    refine va_get (D := (dC, dI)) (ci := 4) (v := .int o_length) (C := RX5) (T := TX5) (N := 5) hx hb hts (fun w h => List.mem_cons_of_mem _ (kc_X5 w h)) hown hK hP 0 rfl rfl 1 (by decide) (hg kw_295) (fun _ h9 => h9) rfl dX5_byteAt_6 ?_
    refine lv_icmp_ge (tgt := 30) hx hb dX5_byteAt_9 (by decide) (fun c_9 => ?_) (fun c_9 => ?_)
    · replace hf := ds_t c_9 hf
      refine lv_iconst (v := 0) hx hb dX5_byteAt_30 (by decide) ?_
      have hf := Option.some.inj hf
      subst hf
      rw [eG0] at hG
      have hG : _ = res := hG
      subst hG
      exact W.iret (v := (0 : Int32)) hx hb hr (fun t ht hW => ⟨⟨(0 : Int32), (), rfl, rfl, by rw [ht]; exact hP, hD⟩, hS.F ht⟩) hS.2.2 dX5_byteAt_31
    · replace hf := ds_f c_9 hf
      refine lv_iload_n hx hb dX5_byteAt_12 rfl (lv_at hl 1 rfl) ?_
      refine lv_aload_n hx hb dX5_byteAt_13 rfl (lv_at hl 0 rfl) ?_
      refine va_get (D := (dC, dI)) (ci := 4) (v := .ref h_o_bytes) (C := RX5) (T := TX5) (N := 5) hx hb hts (fun w h => List.mem_cons_of_mem _ (kc_X5 w h)) hown hK hP 0 rfl rfl 0 (by decide) (hg kw_303) (fun _ h9 => h9) rfl dX5_byteAt_14 ?_
      refine va_alen (v := 200) hx hb hK hP 1 0 rfl rfl rfl dX5_byteAt_17 ?_
      refine lv_icmp_ge (tgt := 30) hx hb dX5_byteAt_18 (by decide) (fun c_18 => ?_) (fun c_18 => ?_)
      · replace hf := ds_t c_18 hf
        refine lv_iconst (v := 0) hx hb dX5_byteAt_30 (by decide) ?_
        have hf := Option.some.inj hf
        subst hf
        rw [eG0] at hG
        have hG : _ = res := hG
        subst hG
        exact W.iret (v := (0 : Int32)) hx hb hr (fun t ht hW => ⟨⟨(0 : Int32), (), rfl, rfl, by rw [ht]; exact hP, hD⟩, hS.F ht⟩) hS.2.2 dX5_byteAt_31
      · replace hf := ds_f c_18 hf
        refine lv_aload_n hx hb dX5_byteAt_21 rfl (lv_at hl 0 rfl) ?_
        refine va_get (D := (dC, dI)) (ci := 4) (v := .ref h_o_bytes) (C := RX5) (T := TX5) (N := 5) hx hb hts (fun w h => List.mem_cons_of_mem _ (kc_X5 w h)) hown hK hP 0 rfl rfl 0 (by decide) (hg kw_303) (fun _ h9 => h9) rfl dX5_byteAt_22 ?_
        refine lv_iload_n hx hb dX5_byteAt_25 rfl (lv_at hl 1 rfl) ?_
        obtain ⟨i_26, hf⟩ := ds_ci hf
        refine va_iald hx hb hK hP 1 0 rfl rfl i_26 dX5_byteAt_26 ?_
        refine lv_goto (tgt := 31) hx hb dX5_byteAt_27 (by decide) ?_
        have hf := Option.some.inj hf
        subst hf
        rw [eG0] at hG
        have hG : _ = res := hG
        subst hG
        exact W.iret (v := (o_bytes_r p1.toNatClampNeg)) hx hb hr (fun t ht hW => ⟨⟨(o_bytes_r p1.toNatClampNeg), (), rfl, rfl, by rw [ht]; exact hP, hD⟩, hS.F ht⟩) hS.2.2 dX5_byteAt_31
theorem dX5_isLetter_0 : decode cX5_isLetter 0 = .ok (.iload_n 0, 1) := by decide +kernel
theorem dX5_isLetter_1 : decode cX5_isLetter 1 = .ok (.bipush 97, 2) := by decide +kernel
theorem dX5_isLetter_3 : decode cX5_isLetter 3 = .ok (.if_icmp .lt 13, 3) := by decide +kernel
theorem dX5_isLetter_6 : decode cX5_isLetter 6 = .ok (.iload_n 0, 1) := by decide +kernel
theorem dX5_isLetter_7 : decode cX5_isLetter 7 = .ok (.bipush 122, 2) := by decide +kernel
theorem dX5_isLetter_9 : decode cX5_isLetter 9 = .ok (.if_icmp .gt 7, 3) := by decide +kernel
theorem dX5_isLetter_12 : decode cX5_isLetter 12 = .ok (.iconst 1, 1) := by decide +kernel
theorem dX5_isLetter_13 : decode cX5_isLetter 13 = .ok (.goto 4, 3) := by decide +kernel
theorem dX5_isLetter_16 : decode cX5_isLetter 16 = .ok (.iconst 0, 1) := by decide +kernel
theorem dX5_isLetter_17 : decode cX5_isLetter 17 = .ok (.ireturn, 1) := by decide +kernel
def fX5_isLetter (p1 : Int32) : Option (Int32) :=
  if p1 < (97 : Int32) then some (0 : Int32) else if (122 : Int32) < p1 then some (0 : Int32) else some (1 : Int32)
set_option maxHeartbeats 4000000 in
set_option maxRecDepth 100000 in
theorem c_X5_isLetter (l : Launch) (dC : Nat → ClassId) (dI : Nat → Nat → Nat) (ca : Nat → ClassId) (sa : Nat → Nat) (sz : Nat) (p1 : Int32) (res : Int32) (hf : fX5_isLetter p1 = some res) : Met l yX5_isLetter (Cond.code yX5_isLetter cX5_isLetter 1 (some .boolean) :: ds_gw) { frames := 0, cells := 0, slots := 0, locals := 0 } (va_Pc [.int p1] (ds_Pre dC dI ca sa [] sz)) (va_Qi (fun r (_ : Unit) => r = res) (ds_B dC dI (va_A [] sz) []) (va_A [] sz)) 0 0 (va_A [] sz) := by
  refine Met.ofW (cc := cX5_isLetter) (maxL := 1) (ret := (some .boolean)) (by decide) rfl ?_
  intro p e s m args below meth c s₁ B hml hv
  obtain ⟨rfl, hsz, hP, hK, hD0, hE⟩ := hv
  have hx := B.exec
  have hb := B.bytes
  have hr := B.returns
  have hts := atoms_spec (ws := Cond.code yX5_isLetter cX5_isLetter 1 (some .boolean) :: ds_gw) B.pre
  have hg : ∀ {w : Cond}, w ∈ ds_gw → w.before _ s = true := fun h => hts _ (List.mem_cons_of_mem _ h)
  have hown : s.vm.findClass RX5 = some m.cls := findClass_of_methodNamed B.named
  have hlocks := B.notSynchronized
  subst hsz
  have hD := hD0.self (sz := s.heap.size)
  generalize hAe : va_A [] s.heap.size = A at hD hE ⊢
  have hA : ∀ q : Nat, s.heap.size ≤ q → A q := fun q h => by rw [← hAe]; exact Or.inr h
  have hS : va_S A s.heap s.heap [] := va_S.rf
  have hl := lv_entry ([.int p1]) (n := 1) (Nat.le_of_ble_eq_true rfl)
  rw [lg_entry_eq]
  generalize (lg_sl ([.int p1]) ++ List.replicate (1 - (lg_sl ([.int p1])).length) Slot.unset).toArray = ls at hl ⊢
  have hl : lv_has ls 1 [(0, .int p1)] := hl
  obtain ⟨G0, eG0⟩ : ∃ G : Int32 → Prop, G = (fun r => r = res) := ⟨_, rfl⟩
  obtain ⟨rr, hrr⟩ : ∃ z, z = res := ⟨_, rfl⟩
  rw [← hrr] at hf
  have hG : G0 rr := by subst eG0; exact hrr
  unfold fX5_isLetter at hf
  refine lv_iload_n hx hb dX5_isLetter_0 rfl (lv_at hl 0 rfl) ?_
  refine lv_bipush (v := 97) hx hb dX5_isLetter_1 (by decide) ?_
  refine lv_icmp_lt (tgt := 16) hx hb dX5_isLetter_3 (by decide) (fun c_3 => ?_) (fun c_3 => ?_)
  · replace hf := ds_t c_3 hf
    refine lv_iconst (v := 0) hx hb dX5_isLetter_16 (by decide) ?_
    have hf := Option.some.inj hf
    subst hf
    rw [eG0] at hG
    have hG : _ = res := hG
    subst hG
    exact W.zret (v := (0 : Int32)) (ty := .boolean) hx hb hr rfl (fun t ht hW => ⟨⟨(0 : Int32), (), rfl, rfl, by rw [ht]; exact hP, hD⟩, hS.F ht⟩) hS.2.2 dX5_isLetter_17
  · replace hf := ds_f c_3 hf
    refine lv_iload_n hx hb dX5_isLetter_6 rfl (lv_at hl 0 rfl) ?_
    refine lv_bipush (v := 122) hx hb dX5_isLetter_7 (by decide) ?_
    refine lv_icmp_gt (tgt := 16) hx hb dX5_isLetter_9 (by decide) (fun c_9 => ?_) (fun c_9 => ?_)
    · replace hf := ds_t c_9 hf
      refine lv_iconst (v := 0) hx hb dX5_isLetter_16 (by decide) ?_
      have hf := Option.some.inj hf
      subst hf
      rw [eG0] at hG
      have hG : _ = res := hG
      subst hG
      exact W.zret (v := (0 : Int32)) (ty := .boolean) hx hb hr rfl (fun t ht hW => ⟨⟨(0 : Int32), (), rfl, rfl, by rw [ht]; exact hP, hD⟩, hS.F ht⟩) hS.2.2 dX5_isLetter_17
    · replace hf := ds_f c_9 hf
      refine lv_iconst (v := 1) hx hb dX5_isLetter_12 (by decide) ?_
      refine lv_goto (tgt := 17) hx hb dX5_isLetter_13 (by decide) ?_
      have hf := Option.some.inj hf
      subst hf
      rw [eG0] at hG
      have hG : _ = res := hG
      subst hG
      exact W.zret (v := (1 : Int32)) (ty := .boolean) hx hb hr rfl (fun t ht hW => ⟨⟨(1 : Int32), (), rfl, rfl, by rw [ht]; exact hP, hD⟩, hS.F ht⟩) hS.2.2 dX5_isLetter_17
theorem dX5_wordEnd_0 : decode cX5_wordEnd 0 = .ok (.iload_n 1, 1) := by decide +kernel
theorem dX5_wordEnd_1 : decode cX5_wordEnd 1 = .ok (.istore_n 2, 1) := by decide +kernel
theorem dX5_wordEnd_2 : decode cX5_wordEnd 2 = .ok (.iload_n 2, 1) := by decide +kernel
theorem dX5_wordEnd_3 : decode cX5_wordEnd 3 = .ok (.aload_n 0, 1) := by decide +kernel
theorem dX5_wordEnd_4 : decode cX5_wordEnd 4 = .ok (.getfield 19, 3) := by decide +kernel
theorem dX5_wordEnd_7 : decode cX5_wordEnd 7 = .ok (.if_icmp .ge 20, 3) := by decide +kernel
theorem dX5_wordEnd_10 : decode cX5_wordEnd 10 = .ok (.aload_n 0, 1) := by decide +kernel
theorem dX5_wordEnd_11 : decode cX5_wordEnd 11 = .ok (.iload_n 2, 1) := by decide +kernel
theorem dX5_wordEnd_12 : decode cX5_wordEnd 12 = .ok (.invokevirtual 42, 3) := by decide +kernel
theorem dX5_wordEnd_15 : decode cX5_wordEnd 15 = .ok (.invokestatic 46, 3) := by decide +kernel
theorem dX5_wordEnd_18 : decode cX5_wordEnd 18 = .ok (.ifCond .eq 9, 3) := by decide +kernel
theorem dX5_wordEnd_21 : decode cX5_wordEnd 21 = .ok (.iinc 2 1, 3) := by decide +kernel
theorem dX5_wordEnd_24 : decode cX5_wordEnd 24 = .ok (.goto (-22), 3) := by decide +kernel
theorem dX5_wordEnd_27 : decode cX5_wordEnd 27 = .ok (.iload_n 2, 1) := by decide +kernel
theorem dX5_wordEnd_28 : decode cX5_wordEnd 28 = .ok (.ireturn, 1) := by decide +kernel
def fX5_wordEnd_2_b (o_length : Int32) (o_bytes_r : Nat → Int32) (v2 : Int32) : Option ((Int32) ⊕ (Int32)) :=
  if o_length ≤ v2 then some (.inr v2) else Option.bind (fX5_byteAt o_length o_bytes_r v2) fun q12 => Option.bind (fX5_isLetter q12) fun q15 => if q15 = 0 then some (.inr v2) else some (.inl (v2 + 1))
def fX5_wordEnd_2 (o_length : Int32) (o_bytes_r : Nat → Int32) (v2 : Int32) : Option (Int32) := ds_it (fun s => fX5_wordEnd_2_b o_length o_bytes_r s) 1000 v2
def fX5_wordEnd (o_length : Int32) (o_bytes_r : Nat → Int32) (p1 : Int32) : Option (Int32) :=
  fX5_wordEnd_2 o_length o_bytes_r p1
set_option maxHeartbeats 4000000 in
set_option maxRecDepth 100000 in
theorem c_X5_wordEnd (l : Launch) (dC : Nat → ClassId) (dI : Nat → Nat → Nat) (ca : Nat → ClassId) (sa : Nat → Nat) (h_o : Nat) (h_o_bytes : Nat) (sz : Nat) (o_length : Int32) (o_fault : Int32) (o_place : Int32) (o_rows : Int32) (o_bytes_r : Nat → Int32) (p1 : Int32) (res : Int32) (hf : fX5_wordEnd o_length o_bytes_r p1 = some res) : Met l yX5_wordEnd (Cond.code yX5_wordEnd cX5_wordEnd 3 (some .int) :: ds_gw) { frames := 1, cells := 0, slots := 0, locals := 21 } (va_Pc [.ref h_o, .int p1] (ds_Pre dC dI ca sa [(h_o, .inr (4, [.ref h_o_bytes, .int o_length, .int o_fault, .int o_place, .int o_rows])), (h_o_bytes, .inl (ca 0, 200, .inl o_bytes_r))] sz)) (va_Qi (fun r (_ : Unit) => r = res) (ds_B dC dI (va_A [(h_o, .inr (4, [.ref h_o_bytes, .int o_length, .int o_fault, .int o_place, .int o_rows])), (h_o_bytes, .inl (ca 0, 200, .inl o_bytes_r))] sz) [(h_o, .inr (4, [.ref h_o_bytes, .int o_length, .int o_fault, .int o_place, .int o_rows])), (h_o_bytes, .inl (ca 0, 200, .inl o_bytes_r))]) (va_A [(h_o, .inr (4, [.ref h_o_bytes, .int o_length, .int o_fault, .int o_place, .int o_rows])), (h_o_bytes, .inl (ca 0, 200, .inl o_bytes_r))] sz)) 0 0 (va_A [(h_o, .inr (4, [.ref h_o_bytes, .int o_length, .int o_fault, .int o_place, .int o_rows])), (h_o_bytes, .inl (ca 0, 200, .inl o_bytes_r))] sz) := by
  refine Met.ofW (cc := cX5_wordEnd) (maxL := 3) (ret := (some .int)) (by decide) rfl ?_
  intro p e s m args below meth c s₁ B hml hv
  obtain ⟨rfl, hsz, hP, hK, hD0, hE⟩ := hv
  have hx := B.exec
  have hb := B.bytes
  have hr := B.returns
  have hts := atoms_spec (ws := Cond.code yX5_wordEnd cX5_wordEnd 3 (some .int) :: ds_gw) B.pre
  have hg : ∀ {w : Cond}, w ∈ ds_gw → w.before _ s = true := fun h => hts _ (List.mem_cons_of_mem _ h)
  have hown : s.vm.findClass RX5 = some m.cls := findClass_of_methodNamed B.named
  have hlocks := B.notSynchronized
  subst hsz
  have hD := hD0.self (sz := s.heap.size)
  generalize hAe : va_A [(h_o, .inr (4, [.ref h_o_bytes, .int o_length, .int o_fault, .int o_place, .int o_rows])), (h_o_bytes, .inl (ca 0, 200, .inl o_bytes_r))] s.heap.size = A at hD hE ⊢
  have hA : ∀ q : Nat, s.heap.size ≤ q → A q := fun q h => by rw [← hAe]; exact Or.inr h
  have hS : va_S A s.heap s.heap [] := va_S.rf
  have hl := lv_entry ([.ref h_o, .int p1]) (n := 3) (Nat.le_of_ble_eq_true rfl)
  rw [lg_entry_eq]
  generalize (lg_sl ([.ref h_o, .int p1]) ++ List.replicate (3 - (lg_sl ([.ref h_o, .int p1])).length) Slot.unset).toArray = ls at hl ⊢
  have hl : lv_has ls 3 [(0, .ref h_o), (1, .int p1)] := hl
  obtain ⟨G0, eG0⟩ : ∃ G : Int32 → Prop, G = (fun r => r = res) := ⟨_, rfl⟩
  obtain ⟨rr, hrr⟩ : ∃ z, z = res := ⟨_, rfl⟩
  rw [← hrr] at hf
  have hG : G0 rr := by subst eG0; exact hrr
  refine ds_cap (fun WW h1 h2 => ?_)
  have J_2 : ∀ (n : Nat) (v2 : Int32) (rr : Int32) (hf : ds_it (fun s => fX5_wordEnd_2_b o_length o_bytes_r s) n v2 = some rr) (hG : G0 rr) (H : Heap) (locs : List Loc) (hP : va_P (dC, dI) vwCl [(h_o, .inr (4, [.ref h_o_bytes, .int o_length, .int o_fault, .int o_place, .int o_rows])), (h_o_bytes, .inl (ca 0, 200, .inl o_bytes_r))] H) (hD : va_D A [(h_o, .inr (4, [.ref h_o_bytes, .int o_length, .int o_fault, .int o_place, .int o_rows])), (h_o_bytes, .inl (ca 0, 200, .inl o_bytes_r))]) (hS : va_S A s.heap H locs) (ls : Array Slot) (hl : lv_has ls 3 [(0, .ref h_o), (2, .int v2)]), WW H locs (F0 m 2 ls []) := by
    intro  n
    induction n with
    | zero => intro v2 rr hf; exact (ds_it_zero hf).elim
    | succ n ih2 =>
      intro v2 rr hf hG H locs hP hD hS ls hl
      refine h2 ?_
      obtain ⟨rr, hf, hG⟩ := ds_it_succ hf hG
      replace hf : fX5_wordEnd_2_b o_length o_bytes_r v2 = some rr := hf
      obtain ⟨G1, eG1⟩ : ∃ G : ((Int32) ⊕ (Int32)) → Prop, G = ds_G (fun s' => ∃ r', ds_it (fun s => fX5_wordEnd_2_b o_length o_bytes_r s) n s' = some r' ∧ G0 r') G0 := ⟨_, rfl⟩
      rw [← eG1] at hG
      unfold fX5_wordEnd_2_b at hf
      refine lv_iload_n hx hb dX5_wordEnd_2 rfl (lv_at hl 1 rfl) ?_
      refine lv_aload_n hx hb dX5_wordEnd_3 rfl (lv_at hl 0 rfl) ?_
      refine va_get (D := (dC, dI)) (ci := 4) (v := .int o_length) (C := RX5) (T := TX5) (N := 5) hx hb hts (fun w h => List.mem_cons_of_mem _ (kc_X5 w h)) hown hK hP 0 rfl rfl 1 (by decide) (hg kw_295) (fun _ h9 => h9) rfl dX5_wordEnd_4 ?_
      refine lv_icmp_ge (tgt := 27) hx hb dX5_wordEnd_7 (by decide) (fun c_7 => ?_) (fun c_7 => ?_)
      · replace hf := ds_t c_7 hf
        refine lv_iload_n hx hb dX5_wordEnd_27 rfl (lv_at hl 1 rfl) ?_
        have hf := Option.some.inj hf
        subst hf
        rw [eG1] at hG
        replace hG : G0 _ := hG
        rw [eG0] at hG
        have hG : _ = res := hG
        subst hG
        exact W.iret (v := v2) hx hb hr (fun t ht hW => ⟨⟨v2, (), rfl, rfl, by rw [ht]; exact hP, hD⟩, hS.F ht⟩) hS.2.2 dX5_wordEnd_28
      · replace hf := ds_f c_7 hf
        refine lv_aload_n hx hb dX5_wordEnd_10 rfl (lv_at hl 0 rfl) ?_
        refine lv_iload_n hx hb dX5_wordEnd_11 rfl (lv_at hl 1 rfl) ?_
        obtain ⟨q12, hq12, hf⟩ := ds_ob hf
        refine ds_calli (wr := []) (va_runV (As := [.int v2]) (rest := []) ⟨hx, hb, hml, hown, hts⟩ (c_X5_byteAt l dC dI ca sa h_o h_o_bytes H.size o_length o_fault o_place o_rows o_bytes_r v2 q12 hq12) (cwV 1 hts (ds_gV kw_329 kw_330 kw_331 kw_313 kw_332) rfl rfl rfl (by decide +kernel) ⟨Nat.le_of_ble_eq_true rfl, Nat.le_of_ble_eq_true rfl⟩) ⟨ds_blind, va_recv hK hP (ci := 4) (q0 := 0) rfl rfl, ds_at hP hD hK hE hS hA [0, 1] rfl rfl _⟩ rfl rfl hl.1 rfl (lv_room (Nat.le_of_ble_eq_true rfl)) dX5_wordEnd_12 ⟨Nat.zero_le _, Nat.zero_le _⟩) hP hD hS hA [0, 1] [] rfl rfl rfl (by decide) (fun H locs hP hD hS => ?_)
        have hP : va_P (dC, dI) vwCl [(h_o, .inr (4, [.ref h_o_bytes, .int o_length, .int o_fault, .int o_place, .int o_rows])), (h_o_bytes, .inl (ca 0, 200, .inl o_bytes_r))] H := hP
        have hD : va_D A [(h_o, .inr (4, [.ref h_o_bytes, .int o_length, .int o_fault, .int o_place, .int o_rows])), (h_o_bytes, .inl (ca 0, 200, .inl o_bytes_r))] := hD
        obtain ⟨q15, hq15, hf⟩ := ds_ob hf
        refine ds_calli (wr := [(h_o, .inr (4, [.ref h_o_bytes, .int o_length, .int o_fault, .int o_place, .int o_rows])), (h_o_bytes, .inl (ca 0, 200, .inl o_bytes_r))]) (va_runS (As := [.int q12]) (rest := []) ⟨hx, hb, hml, hown, hts⟩ (c_X5_isLetter l dC dI ca sa  H.size  q12 q15 hq15) (va_cwS 1 hts (ds_gS kw_333 kw_334 kw_313 kw_335) rfl rfl rfl (by decide +kernel) ⟨Nat.le_of_ble_eq_true rfl, Nat.le_of_ble_eq_true rfl⟩) ⟨ds_blind, ds_at hP hD hK hE hS hA [] rfl rfl _⟩ rfl rfl hl.1 rfl (lv_room (Nat.le_of_ble_eq_true rfl)) dX5_wordEnd_15 ⟨Nat.zero_le _, Nat.zero_le _⟩) hP hD hS hA [] [0, 1] rfl rfl rfl (by decide) (fun H locs hP hD hS => ?_)
        have hP : va_P (dC, dI) vwCl [(h_o, .inr (4, [.ref h_o_bytes, .int o_length, .int o_fault, .int o_place, .int o_rows])), (h_o_bytes, .inl (ca 0, 200, .inl o_bytes_r))] H := hP
        have hD : va_D A [(h_o, .inr (4, [.ref h_o_bytes, .int o_length, .int o_fault, .int o_place, .int o_rows])), (h_o_bytes, .inl (ca 0, 200, .inl o_bytes_r))] := hD
        refine lv_if_eq (tgt := 27) hx hb dX5_wordEnd_18 (by decide) (fun c_18 => ?_) (fun c_18 => ?_)
        · replace hf := ds_t c_18 hf
          refine lv_iload_n hx hb dX5_wordEnd_27 rfl (lv_at hl 1 rfl) ?_
          have hf := Option.some.inj hf
          subst hf
          rw [eG1] at hG
          replace hG : G0 _ := hG
          rw [eG0] at hG
          have hG : _ = res := hG
          subst hG
          exact W.iret (v := v2) hx hb hr (fun t ht hW => ⟨⟨v2, (), rfl, rfl, by rw [ht]; exact hP, hD⟩, hS.F ht⟩) hS.2.2 dX5_wordEnd_28
        · replace hf := ds_f c_18 hf
          refine lv_iinc (v := (v2 + 1)) (lv' := [(2, .int (v2 + 1)), (0, .ref h_o)]) hx hb dX5_wordEnd_21 hl (k := 1) rfl rfl (by decide) rfl (fun ls hl => ?_)
          refine lv_goto (tgt := 2) hx hb dX5_wordEnd_24 (by decide) ?_
          have hf := Option.some.inj hf
          subst hf
          rw [eG1] at hG
          obtain ⟨rr, hf, hG⟩ := hG
          exact h1 (ih2 (v2 + 1) rr hf hG _ _ hP hD hS _ (lv_sub hl [1, 0] rfl))
  unfold fX5_wordEnd at hf
  refine lv_iload_n hx hb dX5_wordEnd_0 rfl (lv_at hl 1 rfl) ?_
  refine lv_istore_n (lv' := [(2, .int p1), (0, .ref h_o), (1, .int p1)]) hx hb dX5_wordEnd_1 rfl hl (by decide) rfl (fun ls hl => ?_)
  exact h1 (J_2  1000 p1 _ hf hG _ _ hP hD hS _ (lv_sub hl [1, 0] rfl))
theorem dX5_isWord_0 : decode cX5_isWord 0 = .ok (.iload_n 3, 1) := by decide +kernel
theorem dX5_isWord_1 : decode cX5_isWord 1 = .ok (.iload_n 2, 1) := by decide +kernel
theorem dX5_isWord_2 : decode cX5_isWord 2 = .ok (.isub, 1) := by decide +kernel
theorem dX5_isWord_3 : decode cX5_isWord 3 = .ok (.aload_n 1, 1) := by decide +kernel
theorem dX5_isWord_4 : decode cX5_isWord 4 = .ok (.invokevirtual 82, 3) := by decide +kernel
theorem dX5_isWord_7 : decode cX5_isWord 7 = .ok (.if_icmp .eq 5, 3) := by decide +kernel
theorem dX5_isWord_10 : decode cX5_isWord 10 = .ok (.iconst 0, 1) := by decide +kernel
theorem dX5_isWord_11 : decode cX5_isWord 11 = .ok (.ireturn, 1) := by decide +kernel
theorem dX5_isWord_12 : decode cX5_isWord 12 = .ok (.iconst 0, 1) := by decide +kernel
theorem dX5_isWord_13 : decode cX5_isWord 13 = .ok (.istore 4, 2) := by decide +kernel
theorem dX5_isWord_15 : decode cX5_isWord 15 = .ok (.iload 4, 2) := by decide +kernel
theorem dX5_isWord_17 : decode cX5_isWord 17 = .ok (.aload_n 1, 1) := by decide +kernel
theorem dX5_isWord_18 : decode cX5_isWord 18 = .ok (.invokevirtual 82, 3) := by decide +kernel
theorem dX5_isWord_21 : decode cX5_isWord 21 = .ok (.if_icmp .ge 28, 3) := by decide +kernel
theorem dX5_isWord_24 : decode cX5_isWord 24 = .ok (.aload_n 0, 1) := by decide +kernel
theorem dX5_isWord_25 : decode cX5_isWord 25 = .ok (.iload_n 2, 1) := by decide +kernel
theorem dX5_isWord_26 : decode cX5_isWord 26 = .ok (.iload 4, 2) := by decide +kernel
theorem dX5_isWord_28 : decode cX5_isWord 28 = .ok (.iadd, 1) := by decide +kernel
theorem dX5_isWord_29 : decode cX5_isWord 29 = .ok (.invokevirtual 42, 3) := by decide +kernel
theorem dX5_isWord_32 : decode cX5_isWord 32 = .ok (.aload_n 1, 1) := by decide +kernel
theorem dX5_isWord_33 : decode cX5_isWord 33 = .ok (.iload 4, 2) := by decide +kernel
theorem dX5_isWord_35 : decode cX5_isWord 35 = .ok (.invokevirtual 87, 3) := by decide +kernel
theorem dX5_isWord_38 : decode cX5_isWord 38 = .ok (.if_icmp .eq 5, 3) := by decide +kernel
theorem dX5_isWord_41 : decode cX5_isWord 41 = .ok (.iconst 0, 1) := by decide +kernel
theorem dX5_isWord_42 : decode cX5_isWord 42 = .ok (.ireturn, 1) := by decide +kernel
theorem dX5_isWord_43 : decode cX5_isWord 43 = .ok (.iinc 4 1, 3) := by decide +kernel
theorem dX5_isWord_46 : decode cX5_isWord 46 = .ok (.goto (-31), 3) := by decide +kernel
theorem dX5_isWord_49 : decode cX5_isWord 49 = .ok (.iconst 1, 1) := by decide +kernel
theorem dX5_isWord_50 : decode cX5_isWord 50 = .ok (.ireturn, 1) := by decide +kernel
def fX5_isWord_ts0_15_b (o_length : Int32) (o_bytes_r : Nat → Int32) (p2 : Int32) (v4 : Int32) : Option ((Int32) ⊕ (Int32)) :=
  Option.bind (fJ0_length_8abf5_s0) fun q18 => if q18 ≤ v4 then some (.inr (1 : Int32)) else Option.bind (fX5_byteAt o_length o_bytes_r (p2 + v4)) fun q29 => Option.bind (fJ0_charAt_5068e_s0 v4) fun q35 => if q29 = q35 then some (.inl (v4 + 1)) else some (.inr (0 : Int32))
def fX5_isWord_ts0_15 (o_length : Int32) (o_bytes_r : Nat → Int32) (p2 : Int32) (v4 : Int32) : Option (Int32) := ds_it (fun s => fX5_isWord_ts0_15_b o_length o_bytes_r p2 s) 1000 v4
def fX5_isWord_ts0 (o_length : Int32) (o_bytes_r : Nat → Int32) (p2 : Int32) (p3 : Int32) : Option (Int32) :=
  Option.bind (fJ0_length_8abf5_s0) fun q4 => if (p3 - p2) = q4 then fX5_isWord_ts0_15 o_length o_bytes_r p2 (0 : Int32) else some (0 : Int32)
set_option maxHeartbeats 4000000 in
set_option maxRecDepth 100000 in
theorem c_X5_isWord_ts0 (l : Launch) (dC : Nat → ClassId) (dI : Nat → Nat → Nat) (ca : Nat → ClassId) (sa : Nat → Nat) (h_o : Nat) (h_o_bytes : Nat) (sz : Nat) (o_length : Int32) (o_fault : Int32) (o_place : Int32) (o_rows : Int32) (o_bytes_r : Nat → Int32) (p2 : Int32) (p3 : Int32) (res : Int32) (hf : fX5_isWord_ts0 o_length o_bytes_r p2 p3 = some res) : Met l yX5_isWord (Cond.code yX5_isWord cX5_isWord 5 (some .boolean) :: ds_gw) { frames := 4, cells := 0, slots := 0, locals := 85 } (va_Pc [.ref h_o, .ref (sa 3), .int p2, .int p3] (ds_Pre dC dI ca sa [(h_o, .inr (4, [.ref h_o_bytes, .int o_length, .int o_fault, .int o_place, .int o_rows])), (h_o_bytes, .inl (ca 0, 200, .inl o_bytes_r))] sz)) (va_Qi (fun r (_ : Unit) => r = res) (ds_B dC dI (va_A [(h_o, .inr (4, [.ref h_o_bytes, .int o_length, .int o_fault, .int o_place, .int o_rows])), (h_o_bytes, .inl (ca 0, 200, .inl o_bytes_r))] sz) [(h_o, .inr (4, [.ref h_o_bytes, .int o_length, .int o_fault, .int o_place, .int o_rows])), (h_o_bytes, .inl (ca 0, 200, .inl o_bytes_r))]) (va_A [(h_o, .inr (4, [.ref h_o_bytes, .int o_length, .int o_fault, .int o_place, .int o_rows])), (h_o_bytes, .inl (ca 0, 200, .inl o_bytes_r))] sz)) 0 0 (va_A [(h_o, .inr (4, [.ref h_o_bytes, .int o_length, .int o_fault, .int o_place, .int o_rows])), (h_o_bytes, .inl (ca 0, 200, .inl o_bytes_r))] sz) := by
  refine Met.ofW (cc := cX5_isWord) (maxL := 5) (ret := (some .boolean)) (by decide) rfl ?_
  intro p e s m args below meth c s₁ B hml hv
  obtain ⟨rfl, hsz, hP, hK, hD0, hE⟩ := hv
  have hx := B.exec
  have hb := B.bytes
  have hr := B.returns
  have hts := atoms_spec (ws := Cond.code yX5_isWord cX5_isWord 5 (some .boolean) :: ds_gw) B.pre
  have hg : ∀ {w : Cond}, w ∈ ds_gw → w.before _ s = true := fun h => hts _ (List.mem_cons_of_mem _ h)
  have hown : s.vm.findClass RX5 = some m.cls := findClass_of_methodNamed B.named
  have hlocks := B.notSynchronized
  subst hsz
  have hD := hD0.self (sz := s.heap.size)
  generalize hAe : va_A [(h_o, .inr (4, [.ref h_o_bytes, .int o_length, .int o_fault, .int o_place, .int o_rows])), (h_o_bytes, .inl (ca 0, 200, .inl o_bytes_r))] s.heap.size = A at hD hE ⊢
  have hA : ∀ q : Nat, s.heap.size ≤ q → A q := fun q h => by rw [← hAe]; exact Or.inr h
  have hS : va_S A s.heap s.heap [] := va_S.rf
  have hl := lv_entry ([.ref h_o, .ref (sa 3), .int p2, .int p3]) (n := 5) (Nat.le_of_ble_eq_true rfl)
  rw [lg_entry_eq]
  generalize (lg_sl ([.ref h_o, .ref (sa 3), .int p2, .int p3]) ++ List.replicate (5 - (lg_sl ([.ref h_o, .ref (sa 3), .int p2, .int p3])).length) Slot.unset).toArray = ls at hl ⊢
  have hl : lv_has ls 5 [(0, .ref h_o), (1, .ref (sa 3)), (2, .int p2), (3, .int p3)] := hl
  obtain ⟨G0, eG0⟩ : ∃ G : Int32 → Prop, G = (fun r => r = res) := ⟨_, rfl⟩
  obtain ⟨rr, hrr⟩ : ∃ z, z = res := ⟨_, rfl⟩
  rw [← hrr] at hf
  have hG : G0 rr := by subst eG0; exact hrr
  refine ds_cap (fun WW h1 h2 => ?_)
  have J_15 : ∀ (n : Nat) (v4 : Int32) (rr : Int32) (hf : ds_it (fun s => fX5_isWord_ts0_15_b o_length o_bytes_r p2 s) n v4 = some rr) (hG : G0 rr) (H : Heap) (locs : List Loc) (hP : va_P (dC, dI) vwCl [(h_o, .inr (4, [.ref h_o_bytes, .int o_length, .int o_fault, .int o_place, .int o_rows])), (h_o_bytes, .inl (ca 0, 200, .inl o_bytes_r))] H) (hD : va_D A [(h_o, .inr (4, [.ref h_o_bytes, .int o_length, .int o_fault, .int o_place, .int o_rows])), (h_o_bytes, .inl (ca 0, 200, .inl o_bytes_r))]) (hS : va_S A s.heap H locs) (ls : Array Slot) (hl : lv_has ls 5 [(0, .ref h_o), (1, .ref (sa 3)), (2, .int p2), (4, .int v4)]), WW H locs (F0 m 15 ls []) := by
    intro  n
    induction n with
    | zero => intro v4 rr hf; exact (ds_it_zero hf).elim
    | succ n ih15 =>
      intro v4 rr hf hG H locs hP hD hS ls hl
      refine h2 ?_
      obtain ⟨rr, hf, hG⟩ := ds_it_succ hf hG
      replace hf : fX5_isWord_ts0_15_b o_length o_bytes_r p2 v4 = some rr := hf
      obtain ⟨G1, eG1⟩ : ∃ G : ((Int32) ⊕ (Int32)) → Prop, G = ds_G (fun s' => ∃ r', ds_it (fun s => fX5_isWord_ts0_15_b o_length o_bytes_r p2 s) n s' = some r' ∧ G0 r') G0 := ⟨_, rfl⟩
      rw [← eG1] at hG
      unfold fX5_isWord_ts0_15_b at hf
      refine lv_iload hx hb dX5_isWord_15 (lv_at hl 3 rfl) ?_
      refine lv_aload_n hx hb dX5_isWord_17 rfl (lv_at hl 1 rfl) ?_
      obtain ⟨q18, hq18, hf⟩ := ds_ob hf
      refine ds_calli (wr := [(h_o, .inr (4, [.ref h_o_bytes, .int o_length, .int o_fault, .int o_place, .int o_rows])), (h_o_bytes, .inl (ca 0, 200, .inl o_bytes_r))]) (va_runV (As := []) (rest := [.int v4]) ⟨hx, hb, hml, hown, hts⟩ (c_J0_length_8abf5_s0 l dC dI ca sa  H.size   q18 hq18) (cwV 0 hts (ds_gV kw_336 kw_337 kw_338 kw_30 kw_339) rfl rfl rfl (by decide +kernel) ⟨Nat.le_of_ble_eq_true rfl, Nat.le_of_ble_eq_true rfl⟩) ⟨ds_blind, vk_recv hE.2.2.2.2.2.2.1 (i := 0) (by decide) hS, ds_at hP hD hK hE hS hA [] rfl rfl _⟩ rfl rfl hl.1 rfl (lv_room (Nat.le_of_ble_eq_true rfl)) dX5_isWord_18 ⟨Nat.zero_le _, Nat.zero_le _⟩) hP hD hS hA [] [0, 1] rfl rfl rfl (by decide) (fun H locs hP hD hS => ?_)
      have hP : va_P (dC, dI) vwCl [(h_o, .inr (4, [.ref h_o_bytes, .int o_length, .int o_fault, .int o_place, .int o_rows])), (h_o_bytes, .inl (ca 0, 200, .inl o_bytes_r))] H := hP
      have hD : va_D A [(h_o, .inr (4, [.ref h_o_bytes, .int o_length, .int o_fault, .int o_place, .int o_rows])), (h_o_bytes, .inl (ca 0, 200, .inl o_bytes_r))] := hD
      refine lv_icmp_ge (tgt := 49) hx hb dX5_isWord_21 (by decide) (fun c_21 => ?_) (fun c_21 => ?_)
      · replace hf := ds_t c_21 hf
        refine lv_iconst (v := 1) hx hb dX5_isWord_49 (by decide) ?_
        have hf := Option.some.inj hf
        subst hf
        rw [eG1] at hG
        replace hG : G0 _ := hG
        rw [eG0] at hG
        have hG : _ = res := hG
        subst hG
        exact W.zret (v := (1 : Int32)) (ty := .boolean) hx hb hr rfl (fun t ht hW => ⟨⟨(1 : Int32), (), rfl, rfl, by rw [ht]; exact hP, hD⟩, hS.F ht⟩) hS.2.2 dX5_isWord_50
      · replace hf := ds_f c_21 hf
        refine lv_aload_n hx hb dX5_isWord_24 rfl (lv_at hl 0 rfl) ?_
        refine lv_iload_n hx hb dX5_isWord_25 rfl (lv_at hl 2 rfl) ?_
        refine lv_iload hx hb dX5_isWord_26 (lv_at hl 3 rfl) ?_
        refine lv_iadd hx hb dX5_isWord_28 ?_
        obtain ⟨q29, hq29, hf⟩ := ds_ob hf
        refine ds_calli (wr := []) (va_runV (As := [.int (p2 + v4)]) (rest := []) ⟨hx, hb, hml, hown, hts⟩ (c_X5_byteAt l dC dI ca sa h_o h_o_bytes H.size o_length o_fault o_place o_rows o_bytes_r (p2 + v4) q29 hq29) (cwV 1 hts (ds_gV kw_329 kw_330 kw_331 kw_313 kw_332) rfl rfl rfl (by decide +kernel) ⟨Nat.le_of_ble_eq_true rfl, Nat.le_of_ble_eq_true rfl⟩) ⟨ds_blind, va_recv hK hP (ci := 4) (q0 := 0) rfl rfl, ds_at hP hD hK hE hS hA [0, 1] rfl rfl _⟩ rfl rfl hl.1 rfl (lv_room (Nat.le_of_ble_eq_true rfl)) dX5_isWord_29 ⟨Nat.zero_le _, Nat.zero_le _⟩) hP hD hS hA [0, 1] [] rfl rfl rfl (by decide) (fun H locs hP hD hS => ?_)
        have hP : va_P (dC, dI) vwCl [(h_o, .inr (4, [.ref h_o_bytes, .int o_length, .int o_fault, .int o_place, .int o_rows])), (h_o_bytes, .inl (ca 0, 200, .inl o_bytes_r))] H := hP
        have hD : va_D A [(h_o, .inr (4, [.ref h_o_bytes, .int o_length, .int o_fault, .int o_place, .int o_rows])), (h_o_bytes, .inl (ca 0, 200, .inl o_bytes_r))] := hD
        refine lv_aload_n hx hb dX5_isWord_32 rfl (lv_at hl 1 rfl) ?_
        refine lv_iload hx hb dX5_isWord_33 (lv_at hl 3 rfl) ?_
        obtain ⟨q35, hq35, hf⟩ := ds_ob hf
        refine ds_calli (wr := [(h_o, .inr (4, [.ref h_o_bytes, .int o_length, .int o_fault, .int o_place, .int o_rows])), (h_o_bytes, .inl (ca 0, 200, .inl o_bytes_r))]) (va_runV (As := [.int v4]) (rest := [.int q29]) ⟨hx, hb, hml, hown, hts⟩ (c_J0_charAt_5068e_s0 l dC dI ca sa  H.size  v4 q35 hq35) (cwV 1 hts (ds_gV kw_340 kw_341 kw_342 kw_30 kw_343) rfl rfl rfl (by decide +kernel) ⟨Nat.le_of_ble_eq_true rfl, Nat.le_of_ble_eq_true rfl⟩) ⟨ds_blind, vk_recv hE.2.2.2.2.2.2.1 (i := 0) (by decide) hS, ds_at hP hD hK hE hS hA [] rfl rfl _⟩ rfl rfl hl.1 rfl (lv_room (Nat.le_of_ble_eq_true rfl)) dX5_isWord_35 ⟨Nat.zero_le _, Nat.zero_le _⟩) hP hD hS hA [] [0, 1] rfl rfl rfl (by decide) (fun H locs hP hD hS => ?_)
        have hP : va_P (dC, dI) vwCl [(h_o, .inr (4, [.ref h_o_bytes, .int o_length, .int o_fault, .int o_place, .int o_rows])), (h_o_bytes, .inl (ca 0, 200, .inl o_bytes_r))] H := hP
        have hD : va_D A [(h_o, .inr (4, [.ref h_o_bytes, .int o_length, .int o_fault, .int o_place, .int o_rows])), (h_o_bytes, .inl (ca 0, 200, .inl o_bytes_r))] := hD
        refine lv_icmp_eq (tgt := 43) hx hb dX5_isWord_38 (by decide) (fun c_38 => ?_) (fun c_38 => ?_)
        · replace hf := ds_t c_38 hf
          refine lv_iinc (v := (v4 + 1)) (lv' := [(4, .int (v4 + 1)), (0, .ref h_o), (1, .ref (sa 3)), (2, .int p2)]) hx hb dX5_isWord_43 hl (k := 3) rfl rfl (by decide) rfl (fun ls hl => ?_)
          refine lv_goto (tgt := 15) hx hb dX5_isWord_46 (by decide) ?_
          have hf := Option.some.inj hf
          subst hf
          rw [eG1] at hG
          obtain ⟨rr, hf, hG⟩ := hG
          exact h1 (ih15 (v4 + 1) rr hf hG _ _ hP hD hS _ (lv_sub hl [1, 2, 3, 0] rfl))
        · replace hf := ds_f c_38 hf
          refine lv_iconst (v := 0) hx hb dX5_isWord_41 (by decide) ?_
          have hf := Option.some.inj hf
          subst hf
          rw [eG1] at hG
          replace hG : G0 _ := hG
          rw [eG0] at hG
          have hG : _ = res := hG
          subst hG
          exact W.zret (v := (0 : Int32)) (ty := .boolean) hx hb hr rfl (fun t ht hW => ⟨⟨(0 : Int32), (), rfl, rfl, by rw [ht]; exact hP, hD⟩, hS.F ht⟩) hS.2.2 dX5_isWord_42
  unfold fX5_isWord_ts0 at hf
  refine lv_iload_n hx hb dX5_isWord_0 rfl (lv_at hl 3 rfl) ?_
  refine lv_iload_n hx hb dX5_isWord_1 rfl (lv_at hl 2 rfl) ?_
  refine lv_isub hx hb dX5_isWord_2 ?_
  refine lv_aload_n hx hb dX5_isWord_3 rfl (lv_at hl 1 rfl) ?_
  obtain ⟨q4, hq4, hf⟩ := ds_ob hf
  refine ds_calli (wr := [(h_o, .inr (4, [.ref h_o_bytes, .int o_length, .int o_fault, .int o_place, .int o_rows])), (h_o_bytes, .inl (ca 0, 200, .inl o_bytes_r))]) (va_runV (As := []) (rest := [.int (p3 - p2)]) ⟨hx, hb, hml, hown, hts⟩ (c_J0_length_8abf5_s0 l dC dI ca sa  s.heap.size   q4 hq4) (cwV 0 hts (ds_gV kw_336 kw_337 kw_338 kw_30 kw_339) rfl rfl rfl (by decide +kernel) ⟨Nat.le_of_ble_eq_true rfl, Nat.le_of_ble_eq_true rfl⟩) ⟨ds_blind, vk_recv hE.2.2.2.2.2.2.1 (i := 0) (by decide) hS, ds_at hP hD hK hE hS hA [] rfl rfl _⟩ rfl rfl hl.1 rfl (lv_room (Nat.le_of_ble_eq_true rfl)) dX5_isWord_4 ⟨Nat.zero_le _, Nat.zero_le _⟩) hP hD hS hA [] [0, 1] rfl rfl rfl (by decide) (fun H locs hP hD hS => ?_)
  have hP : va_P (dC, dI) vwCl [(h_o, .inr (4, [.ref h_o_bytes, .int o_length, .int o_fault, .int o_place, .int o_rows])), (h_o_bytes, .inl (ca 0, 200, .inl o_bytes_r))] H := hP
  have hD : va_D A [(h_o, .inr (4, [.ref h_o_bytes, .int o_length, .int o_fault, .int o_place, .int o_rows])), (h_o_bytes, .inl (ca 0, 200, .inl o_bytes_r))] := hD
  refine lv_icmp_eq (tgt := 12) hx hb dX5_isWord_7 (by decide) (fun c_7 => ?_) (fun c_7 => ?_)
  · replace hf := ds_t c_7 hf
    refine lv_iconst (v := 0) hx hb dX5_isWord_12 (by decide) ?_
    refine lv_istore (lv' := [(4, .int (0 : Int32)), (0, .ref h_o), (1, .ref (sa 3)), (2, .int p2), (3, .int p3)]) hx hb dX5_isWord_13 hl (by decide) rfl (fun ls hl => ?_)
    exact h1 (J_15  1000 (0 : Int32) _ hf hG _ _ hP hD hS _ (lv_sub hl [1, 2, 3, 0] rfl))
  · replace hf := ds_f c_7 hf
    refine lv_iconst (v := 0) hx hb dX5_isWord_10 (by decide) ?_
    have hf := Option.some.inj hf
    subst hf
    rw [eG0] at hG
    have hG : _ = res := hG
    subst hG
    exact W.zret (v := (0 : Int32)) (ty := .boolean) hx hb hr rfl (fun t ht hW => ⟨⟨(0 : Int32), (), rfl, rfl, by rw [ht]; exact hP, hD⟩, hS.F ht⟩) hS.2.2 dX5_isWord_11
def fX5_isWord_ts1_15_b (o_length : Int32) (o_bytes_r : Nat → Int32) (p2 : Int32) (v4 : Int32) : Option ((Int32) ⊕ (Int32)) :=
  Option.bind (fJ0_length_8abf5_s1) fun q18 => if q18 ≤ v4 then some (.inr (1 : Int32)) else Option.bind (fX5_byteAt o_length o_bytes_r (p2 + v4)) fun q29 => Option.bind (fJ0_charAt_5068e_s1 v4) fun q35 => if q29 = q35 then some (.inl (v4 + 1)) else some (.inr (0 : Int32))
def fX5_isWord_ts1_15 (o_length : Int32) (o_bytes_r : Nat → Int32) (p2 : Int32) (v4 : Int32) : Option (Int32) := ds_it (fun s => fX5_isWord_ts1_15_b o_length o_bytes_r p2 s) 1000 v4
def fX5_isWord_ts1 (o_length : Int32) (o_bytes_r : Nat → Int32) (p2 : Int32) (p3 : Int32) : Option (Int32) :=
  Option.bind (fJ0_length_8abf5_s1) fun q4 => if (p3 - p2) = q4 then fX5_isWord_ts1_15 o_length o_bytes_r p2 (0 : Int32) else some (0 : Int32)
set_option maxHeartbeats 4000000 in
set_option maxRecDepth 100000 in
theorem c_X5_isWord_ts1 (l : Launch) (dC : Nat → ClassId) (dI : Nat → Nat → Nat) (ca : Nat → ClassId) (sa : Nat → Nat) (h_o : Nat) (h_o_bytes : Nat) (sz : Nat) (o_length : Int32) (o_fault : Int32) (o_place : Int32) (o_rows : Int32) (o_bytes_r : Nat → Int32) (p2 : Int32) (p3 : Int32) (res : Int32) (hf : fX5_isWord_ts1 o_length o_bytes_r p2 p3 = some res) : Met l yX5_isWord (Cond.code yX5_isWord cX5_isWord 5 (some .boolean) :: ds_gw) { frames := 4, cells := 0, slots := 0, locals := 85 } (va_Pc [.ref h_o, .ref (sa 4), .int p2, .int p3] (ds_Pre dC dI ca sa [(h_o, .inr (4, [.ref h_o_bytes, .int o_length, .int o_fault, .int o_place, .int o_rows])), (h_o_bytes, .inl (ca 0, 200, .inl o_bytes_r))] sz)) (va_Qi (fun r (_ : Unit) => r = res) (ds_B dC dI (va_A [(h_o, .inr (4, [.ref h_o_bytes, .int o_length, .int o_fault, .int o_place, .int o_rows])), (h_o_bytes, .inl (ca 0, 200, .inl o_bytes_r))] sz) [(h_o, .inr (4, [.ref h_o_bytes, .int o_length, .int o_fault, .int o_place, .int o_rows])), (h_o_bytes, .inl (ca 0, 200, .inl o_bytes_r))]) (va_A [(h_o, .inr (4, [.ref h_o_bytes, .int o_length, .int o_fault, .int o_place, .int o_rows])), (h_o_bytes, .inl (ca 0, 200, .inl o_bytes_r))] sz)) 0 0 (va_A [(h_o, .inr (4, [.ref h_o_bytes, .int o_length, .int o_fault, .int o_place, .int o_rows])), (h_o_bytes, .inl (ca 0, 200, .inl o_bytes_r))] sz) := by
  refine Met.ofW (cc := cX5_isWord) (maxL := 5) (ret := (some .boolean)) (by decide) rfl ?_
  intro p e s m args below meth c s₁ B hml hv
  obtain ⟨rfl, hsz, hP, hK, hD0, hE⟩ := hv
  have hx := B.exec
  have hb := B.bytes
  have hr := B.returns
  have hts := atoms_spec (ws := Cond.code yX5_isWord cX5_isWord 5 (some .boolean) :: ds_gw) B.pre
  have hg : ∀ {w : Cond}, w ∈ ds_gw → w.before _ s = true := fun h => hts _ (List.mem_cons_of_mem _ h)
  have hown : s.vm.findClass RX5 = some m.cls := findClass_of_methodNamed B.named
  have hlocks := B.notSynchronized
  subst hsz
  have hD := hD0.self (sz := s.heap.size)
  generalize hAe : va_A [(h_o, .inr (4, [.ref h_o_bytes, .int o_length, .int o_fault, .int o_place, .int o_rows])), (h_o_bytes, .inl (ca 0, 200, .inl o_bytes_r))] s.heap.size = A at hD hE ⊢
  have hA : ∀ q : Nat, s.heap.size ≤ q → A q := fun q h => by rw [← hAe]; exact Or.inr h
  have hS : va_S A s.heap s.heap [] := va_S.rf
  have hl := lv_entry ([.ref h_o, .ref (sa 4), .int p2, .int p3]) (n := 5) (Nat.le_of_ble_eq_true rfl)
  rw [lg_entry_eq]
  generalize (lg_sl ([.ref h_o, .ref (sa 4), .int p2, .int p3]) ++ List.replicate (5 - (lg_sl ([.ref h_o, .ref (sa 4), .int p2, .int p3])).length) Slot.unset).toArray = ls at hl ⊢
  have hl : lv_has ls 5 [(0, .ref h_o), (1, .ref (sa 4)), (2, .int p2), (3, .int p3)] := hl
  obtain ⟨G0, eG0⟩ : ∃ G : Int32 → Prop, G = (fun r => r = res) := ⟨_, rfl⟩
  obtain ⟨rr, hrr⟩ : ∃ z, z = res := ⟨_, rfl⟩
  rw [← hrr] at hf
  have hG : G0 rr := by subst eG0; exact hrr
  refine ds_cap (fun WW h1 h2 => ?_)
  have J_15 : ∀ (n : Nat) (v4 : Int32) (rr : Int32) (hf : ds_it (fun s => fX5_isWord_ts1_15_b o_length o_bytes_r p2 s) n v4 = some rr) (hG : G0 rr) (H : Heap) (locs : List Loc) (hP : va_P (dC, dI) vwCl [(h_o, .inr (4, [.ref h_o_bytes, .int o_length, .int o_fault, .int o_place, .int o_rows])), (h_o_bytes, .inl (ca 0, 200, .inl o_bytes_r))] H) (hD : va_D A [(h_o, .inr (4, [.ref h_o_bytes, .int o_length, .int o_fault, .int o_place, .int o_rows])), (h_o_bytes, .inl (ca 0, 200, .inl o_bytes_r))]) (hS : va_S A s.heap H locs) (ls : Array Slot) (hl : lv_has ls 5 [(0, .ref h_o), (1, .ref (sa 4)), (2, .int p2), (4, .int v4)]), WW H locs (F0 m 15 ls []) := by
    intro  n
    induction n with
    | zero => intro v4 rr hf; exact (ds_it_zero hf).elim
    | succ n ih15 =>
      intro v4 rr hf hG H locs hP hD hS ls hl
      refine h2 ?_
      obtain ⟨rr, hf, hG⟩ := ds_it_succ hf hG
      replace hf : fX5_isWord_ts1_15_b o_length o_bytes_r p2 v4 = some rr := hf
      obtain ⟨G1, eG1⟩ : ∃ G : ((Int32) ⊕ (Int32)) → Prop, G = ds_G (fun s' => ∃ r', ds_it (fun s => fX5_isWord_ts1_15_b o_length o_bytes_r p2 s) n s' = some r' ∧ G0 r') G0 := ⟨_, rfl⟩
      rw [← eG1] at hG
      unfold fX5_isWord_ts1_15_b at hf
      refine lv_iload hx hb dX5_isWord_15 (lv_at hl 3 rfl) ?_
      refine lv_aload_n hx hb dX5_isWord_17 rfl (lv_at hl 1 rfl) ?_
      obtain ⟨q18, hq18, hf⟩ := ds_ob hf
      refine ds_calli (wr := [(h_o, .inr (4, [.ref h_o_bytes, .int o_length, .int o_fault, .int o_place, .int o_rows])), (h_o_bytes, .inl (ca 0, 200, .inl o_bytes_r))]) (va_runV (As := []) (rest := [.int v4]) ⟨hx, hb, hml, hown, hts⟩ (c_J0_length_8abf5_s1 l dC dI ca sa  H.size   q18 hq18) (cwV 0 hts (ds_gV kw_336 kw_337 kw_338 kw_30 kw_339) rfl rfl rfl (by decide +kernel) ⟨Nat.le_of_ble_eq_true rfl, Nat.le_of_ble_eq_true rfl⟩) ⟨ds_blind, vk_recv hE.2.2.2.2.2.2.1 (i := 1) (by decide) hS, ds_at hP hD hK hE hS hA [] rfl rfl _⟩ rfl rfl hl.1 rfl (lv_room (Nat.le_of_ble_eq_true rfl)) dX5_isWord_18 ⟨Nat.zero_le _, Nat.zero_le _⟩) hP hD hS hA [] [0, 1] rfl rfl rfl (by decide) (fun H locs hP hD hS => ?_)
      have hP : va_P (dC, dI) vwCl [(h_o, .inr (4, [.ref h_o_bytes, .int o_length, .int o_fault, .int o_place, .int o_rows])), (h_o_bytes, .inl (ca 0, 200, .inl o_bytes_r))] H := hP
      have hD : va_D A [(h_o, .inr (4, [.ref h_o_bytes, .int o_length, .int o_fault, .int o_place, .int o_rows])), (h_o_bytes, .inl (ca 0, 200, .inl o_bytes_r))] := hD
      refine lv_icmp_ge (tgt := 49) hx hb dX5_isWord_21 (by decide) (fun c_21 => ?_) (fun c_21 => ?_)
      · replace hf := ds_t c_21 hf
        refine lv_iconst (v := 1) hx hb dX5_isWord_49 (by decide) ?_
        have hf := Option.some.inj hf
        subst hf
        rw [eG1] at hG
        replace hG : G0 _ := hG
        rw [eG0] at hG
        have hG : _ = res := hG
        subst hG
        exact W.zret (v := (1 : Int32)) (ty := .boolean) hx hb hr rfl (fun t ht hW => ⟨⟨(1 : Int32), (), rfl, rfl, by rw [ht]; exact hP, hD⟩, hS.F ht⟩) hS.2.2 dX5_isWord_50
      · replace hf := ds_f c_21 hf
        refine lv_aload_n hx hb dX5_isWord_24 rfl (lv_at hl 0 rfl) ?_
        refine lv_iload_n hx hb dX5_isWord_25 rfl (lv_at hl 2 rfl) ?_
        refine lv_iload hx hb dX5_isWord_26 (lv_at hl 3 rfl) ?_
        refine lv_iadd hx hb dX5_isWord_28 ?_
        obtain ⟨q29, hq29, hf⟩ := ds_ob hf
        refine ds_calli (wr := []) (va_runV (As := [.int (p2 + v4)]) (rest := []) ⟨hx, hb, hml, hown, hts⟩ (c_X5_byteAt l dC dI ca sa h_o h_o_bytes H.size o_length o_fault o_place o_rows o_bytes_r (p2 + v4) q29 hq29) (cwV 1 hts (ds_gV kw_329 kw_330 kw_331 kw_313 kw_332) rfl rfl rfl (by decide +kernel) ⟨Nat.le_of_ble_eq_true rfl, Nat.le_of_ble_eq_true rfl⟩) ⟨ds_blind, va_recv hK hP (ci := 4) (q0 := 0) rfl rfl, ds_at hP hD hK hE hS hA [0, 1] rfl rfl _⟩ rfl rfl hl.1 rfl (lv_room (Nat.le_of_ble_eq_true rfl)) dX5_isWord_29 ⟨Nat.zero_le _, Nat.zero_le _⟩) hP hD hS hA [0, 1] [] rfl rfl rfl (by decide) (fun H locs hP hD hS => ?_)
        have hP : va_P (dC, dI) vwCl [(h_o, .inr (4, [.ref h_o_bytes, .int o_length, .int o_fault, .int o_place, .int o_rows])), (h_o_bytes, .inl (ca 0, 200, .inl o_bytes_r))] H := hP
        have hD : va_D A [(h_o, .inr (4, [.ref h_o_bytes, .int o_length, .int o_fault, .int o_place, .int o_rows])), (h_o_bytes, .inl (ca 0, 200, .inl o_bytes_r))] := hD
        refine lv_aload_n hx hb dX5_isWord_32 rfl (lv_at hl 1 rfl) ?_
        refine lv_iload hx hb dX5_isWord_33 (lv_at hl 3 rfl) ?_
        obtain ⟨q35, hq35, hf⟩ := ds_ob hf
        refine ds_calli (wr := [(h_o, .inr (4, [.ref h_o_bytes, .int o_length, .int o_fault, .int o_place, .int o_rows])), (h_o_bytes, .inl (ca 0, 200, .inl o_bytes_r))]) (va_runV (As := [.int v4]) (rest := [.int q29]) ⟨hx, hb, hml, hown, hts⟩ (c_J0_charAt_5068e_s1 l dC dI ca sa  H.size  v4 q35 hq35) (cwV 1 hts (ds_gV kw_340 kw_341 kw_342 kw_30 kw_343) rfl rfl rfl (by decide +kernel) ⟨Nat.le_of_ble_eq_true rfl, Nat.le_of_ble_eq_true rfl⟩) ⟨ds_blind, vk_recv hE.2.2.2.2.2.2.1 (i := 1) (by decide) hS, ds_at hP hD hK hE hS hA [] rfl rfl _⟩ rfl rfl hl.1 rfl (lv_room (Nat.le_of_ble_eq_true rfl)) dX5_isWord_35 ⟨Nat.zero_le _, Nat.zero_le _⟩) hP hD hS hA [] [0, 1] rfl rfl rfl (by decide) (fun H locs hP hD hS => ?_)
        have hP : va_P (dC, dI) vwCl [(h_o, .inr (4, [.ref h_o_bytes, .int o_length, .int o_fault, .int o_place, .int o_rows])), (h_o_bytes, .inl (ca 0, 200, .inl o_bytes_r))] H := hP
        have hD : va_D A [(h_o, .inr (4, [.ref h_o_bytes, .int o_length, .int o_fault, .int o_place, .int o_rows])), (h_o_bytes, .inl (ca 0, 200, .inl o_bytes_r))] := hD
        refine lv_icmp_eq (tgt := 43) hx hb dX5_isWord_38 (by decide) (fun c_38 => ?_) (fun c_38 => ?_)
        · replace hf := ds_t c_38 hf
          refine lv_iinc (v := (v4 + 1)) (lv' := [(4, .int (v4 + 1)), (0, .ref h_o), (1, .ref (sa 4)), (2, .int p2)]) hx hb dX5_isWord_43 hl (k := 3) rfl rfl (by decide) rfl (fun ls hl => ?_)
          refine lv_goto (tgt := 15) hx hb dX5_isWord_46 (by decide) ?_
          have hf := Option.some.inj hf
          subst hf
          rw [eG1] at hG
          obtain ⟨rr, hf, hG⟩ := hG
          exact h1 (ih15 (v4 + 1) rr hf hG _ _ hP hD hS _ (lv_sub hl [1, 2, 3, 0] rfl))
        · replace hf := ds_f c_38 hf
          refine lv_iconst (v := 0) hx hb dX5_isWord_41 (by decide) ?_
          have hf := Option.some.inj hf
          subst hf
          rw [eG1] at hG
          replace hG : G0 _ := hG
          rw [eG0] at hG
          have hG : _ = res := hG
          subst hG
          exact W.zret (v := (0 : Int32)) (ty := .boolean) hx hb hr rfl (fun t ht hW => ⟨⟨(0 : Int32), (), rfl, rfl, by rw [ht]; exact hP, hD⟩, hS.F ht⟩) hS.2.2 dX5_isWord_42
  unfold fX5_isWord_ts1 at hf
  refine lv_iload_n hx hb dX5_isWord_0 rfl (lv_at hl 3 rfl) ?_
  refine lv_iload_n hx hb dX5_isWord_1 rfl (lv_at hl 2 rfl) ?_
  refine lv_isub hx hb dX5_isWord_2 ?_
  refine lv_aload_n hx hb dX5_isWord_3 rfl (lv_at hl 1 rfl) ?_
  obtain ⟨q4, hq4, hf⟩ := ds_ob hf
  refine ds_calli (wr := [(h_o, .inr (4, [.ref h_o_bytes, .int o_length, .int o_fault, .int o_place, .int o_rows])), (h_o_bytes, .inl (ca 0, 200, .inl o_bytes_r))]) (va_runV (As := []) (rest := [.int (p3 - p2)]) ⟨hx, hb, hml, hown, hts⟩ (c_J0_length_8abf5_s1 l dC dI ca sa  s.heap.size   q4 hq4) (cwV 0 hts (ds_gV kw_336 kw_337 kw_338 kw_30 kw_339) rfl rfl rfl (by decide +kernel) ⟨Nat.le_of_ble_eq_true rfl, Nat.le_of_ble_eq_true rfl⟩) ⟨ds_blind, vk_recv hE.2.2.2.2.2.2.1 (i := 1) (by decide) hS, ds_at hP hD hK hE hS hA [] rfl rfl _⟩ rfl rfl hl.1 rfl (lv_room (Nat.le_of_ble_eq_true rfl)) dX5_isWord_4 ⟨Nat.zero_le _, Nat.zero_le _⟩) hP hD hS hA [] [0, 1] rfl rfl rfl (by decide) (fun H locs hP hD hS => ?_)
  have hP : va_P (dC, dI) vwCl [(h_o, .inr (4, [.ref h_o_bytes, .int o_length, .int o_fault, .int o_place, .int o_rows])), (h_o_bytes, .inl (ca 0, 200, .inl o_bytes_r))] H := hP
  have hD : va_D A [(h_o, .inr (4, [.ref h_o_bytes, .int o_length, .int o_fault, .int o_place, .int o_rows])), (h_o_bytes, .inl (ca 0, 200, .inl o_bytes_r))] := hD
  refine lv_icmp_eq (tgt := 12) hx hb dX5_isWord_7 (by decide) (fun c_7 => ?_) (fun c_7 => ?_)
  · replace hf := ds_t c_7 hf
    refine lv_iconst (v := 0) hx hb dX5_isWord_12 (by decide) ?_
    refine lv_istore (lv' := [(4, .int (0 : Int32)), (0, .ref h_o), (1, .ref (sa 4)), (2, .int p2), (3, .int p3)]) hx hb dX5_isWord_13 hl (by decide) rfl (fun ls hl => ?_)
    exact h1 (J_15  1000 (0 : Int32) _ hf hG _ _ hP hD hS _ (lv_sub hl [1, 2, 3, 0] rfl))
  · replace hf := ds_f c_7 hf
    refine lv_iconst (v := 0) hx hb dX5_isWord_10 (by decide) ?_
    have hf := Option.some.inj hf
    subst hf
    rw [eG0] at hG
    have hG : _ = res := hG
    subst hG
    exact W.zret (v := (0 : Int32)) (ty := .boolean) hx hb hr rfl (fun t ht hW => ⟨⟨(0 : Int32), (), rfl, rfl, by rw [ht]; exact hP, hD⟩, hS.F ht⟩) hS.2.2 dX5_isWord_11
theorem dX5_isRow_0 : decode cX5_isRow 0 = .ok (.iload_n 1, 1) := by decide +kernel
theorem dX5_isRow_1 : decode cX5_isRow 1 = .ok (.istore_n 3, 1) := by decide +kernel
theorem dX5_isRow_2 : decode cX5_isRow 2 = .ok (.iload_n 3, 1) := by decide +kernel
theorem dX5_isRow_3 : decode cX5_isRow 3 = .ok (.iload_n 2, 1) := by decide +kernel
theorem dX5_isRow_4 : decode cX5_isRow 4 = .ok (.if_icmp .ge 21, 3) := by decide +kernel
theorem dX5_isRow_7 : decode cX5_isRow 7 = .ok (.aload_n 0, 1) := by decide +kernel
theorem dX5_isRow_8 : decode cX5_isRow 8 = .ok (.iload_n 3, 1) := by decide +kernel
theorem dX5_isRow_9 : decode cX5_isRow 9 = .ok (.invokevirtual 42, 3) := by decide +kernel
theorem dX5_isRow_12 : decode cX5_isRow 12 = .ok (.bipush 100, 2) := by decide +kernel
theorem dX5_isRow_14 : decode cX5_isRow 14 = .ok (.if_icmp .le 5, 3) := by decide +kernel
theorem dX5_isRow_17 : decode cX5_isRow 17 = .ok (.iconst 0, 1) := by decide +kernel
theorem dX5_isRow_18 : decode cX5_isRow 18 = .ok (.ireturn, 1) := by decide +kernel
theorem dX5_isRow_19 : decode cX5_isRow 19 = .ok (.iinc 3 1, 3) := by decide +kernel
theorem dX5_isRow_22 : decode cX5_isRow 22 = .ok (.goto (-20), 3) := by decide +kernel
theorem dX5_isRow_25 : decode cX5_isRow 25 = .ok (.iload_n 2, 1) := by decide +kernel
theorem dX5_isRow_26 : decode cX5_isRow 26 = .ok (.iload_n 1, 1) := by decide +kernel
theorem dX5_isRow_27 : decode cX5_isRow 27 = .ok (.isub, 1) := by decide +kernel
theorem dX5_isRow_28 : decode cX5_isRow 28 = .ok (.bipush 8, 2) := by decide +kernel
theorem dX5_isRow_30 : decode cX5_isRow 30 = .ok (.if_icmp .gt 7, 3) := by decide +kernel
theorem dX5_isRow_33 : decode cX5_isRow 33 = .ok (.iconst 1, 1) := by decide +kernel
theorem dX5_isRow_34 : decode cX5_isRow 34 = .ok (.goto 4, 3) := by decide +kernel
theorem dX5_isRow_37 : decode cX5_isRow 37 = .ok (.iconst 0, 1) := by decide +kernel
theorem dX5_isRow_38 : decode cX5_isRow 38 = .ok (.ireturn, 1) := by decide +kernel
def fX5_isRow_25 (p1 : Int32) (p2 : Int32) : Option (Int32) :=
  if (8 : Int32) < (p2 - p1) then some (0 : Int32) else some (1 : Int32)
def fX5_isRow_2_b (o_length : Int32) (o_bytes_r : Nat → Int32) (p1 : Int32) (p2 : Int32) (v3 : Int32) : Option ((Int32) ⊕ (Int32)) :=
  if p2 ≤ v3 then Option.bind (fX5_isRow_25 p1 p2) fun z => some (.inr z) else Option.bind (fX5_byteAt o_length o_bytes_r v3) fun q9 => if q9 ≤ (100 : Int32) then some (.inl (v3 + 1)) else some (.inr (0 : Int32))
def fX5_isRow_2 (o_length : Int32) (o_bytes_r : Nat → Int32) (p1 : Int32) (p2 : Int32) (v3 : Int32) : Option (Int32) := ds_it (fun s => fX5_isRow_2_b o_length o_bytes_r p1 p2 s) 1000 v3
def fX5_isRow (o_length : Int32) (o_bytes_r : Nat → Int32) (p1 : Int32) (p2 : Int32) : Option (Int32) :=
  fX5_isRow_2 o_length o_bytes_r p1 p2 p1
set_option maxHeartbeats 4000000 in
set_option maxRecDepth 100000 in
theorem c_X5_isRow (l : Launch) (dC : Nat → ClassId) (dI : Nat → Nat → Nat) (ca : Nat → ClassId) (sa : Nat → Nat) (h_o : Nat) (h_o_bytes : Nat) (sz : Nat) (o_length : Int32) (o_fault : Int32) (o_place : Int32) (o_rows : Int32) (o_bytes_r : Nat → Int32) (p1 : Int32) (p2 : Int32) (res : Int32) (hf : fX5_isRow o_length o_bytes_r p1 p2 = some res) : Met l yX5_isRow (Cond.code yX5_isRow cX5_isRow 4 (some .boolean) :: ds_gw) { frames := 1, cells := 0, slots := 0, locals := 21 } (va_Pc [.ref h_o, .int p1, .int p2] (ds_Pre dC dI ca sa [(h_o, .inr (4, [.ref h_o_bytes, .int o_length, .int o_fault, .int o_place, .int o_rows])), (h_o_bytes, .inl (ca 0, 200, .inl o_bytes_r))] sz)) (va_Qi (fun r (_ : Unit) => r = res) (ds_B dC dI (va_A [(h_o, .inr (4, [.ref h_o_bytes, .int o_length, .int o_fault, .int o_place, .int o_rows])), (h_o_bytes, .inl (ca 0, 200, .inl o_bytes_r))] sz) [(h_o, .inr (4, [.ref h_o_bytes, .int o_length, .int o_fault, .int o_place, .int o_rows])), (h_o_bytes, .inl (ca 0, 200, .inl o_bytes_r))]) (va_A [(h_o, .inr (4, [.ref h_o_bytes, .int o_length, .int o_fault, .int o_place, .int o_rows])), (h_o_bytes, .inl (ca 0, 200, .inl o_bytes_r))] sz)) 0 0 (va_A [(h_o, .inr (4, [.ref h_o_bytes, .int o_length, .int o_fault, .int o_place, .int o_rows])), (h_o_bytes, .inl (ca 0, 200, .inl o_bytes_r))] sz) := by
  refine Met.ofW (cc := cX5_isRow) (maxL := 4) (ret := (some .boolean)) (by decide) rfl ?_
  intro p e s m args below meth c s₁ B hml hv
  obtain ⟨rfl, hsz, hP, hK, hD0, hE⟩ := hv
  have hx := B.exec
  have hb := B.bytes
  have hr := B.returns
  have hts := atoms_spec (ws := Cond.code yX5_isRow cX5_isRow 4 (some .boolean) :: ds_gw) B.pre
  have hg : ∀ {w : Cond}, w ∈ ds_gw → w.before _ s = true := fun h => hts _ (List.mem_cons_of_mem _ h)
  have hown : s.vm.findClass RX5 = some m.cls := findClass_of_methodNamed B.named
  have hlocks := B.notSynchronized
  subst hsz
  have hD := hD0.self (sz := s.heap.size)
  generalize hAe : va_A [(h_o, .inr (4, [.ref h_o_bytes, .int o_length, .int o_fault, .int o_place, .int o_rows])), (h_o_bytes, .inl (ca 0, 200, .inl o_bytes_r))] s.heap.size = A at hD hE ⊢
  have hA : ∀ q : Nat, s.heap.size ≤ q → A q := fun q h => by rw [← hAe]; exact Or.inr h
  have hS : va_S A s.heap s.heap [] := va_S.rf
  have hl := lv_entry ([.ref h_o, .int p1, .int p2]) (n := 4) (Nat.le_of_ble_eq_true rfl)
  rw [lg_entry_eq]
  generalize (lg_sl ([.ref h_o, .int p1, .int p2]) ++ List.replicate (4 - (lg_sl ([.ref h_o, .int p1, .int p2])).length) Slot.unset).toArray = ls at hl ⊢
  have hl : lv_has ls 4 [(0, .ref h_o), (1, .int p1), (2, .int p2)] := hl
  obtain ⟨G0, eG0⟩ : ∃ G : Int32 → Prop, G = (fun r => r = res) := ⟨_, rfl⟩
  obtain ⟨rr, hrr⟩ : ∃ z, z = res := ⟨_, rfl⟩
  rw [← hrr] at hf
  have hG : G0 rr := by subst eG0; exact hrr
  refine ds_cap (fun WW h1 h2 => ?_)
  have J_25 : ∀ (rr : Int32) (hf : fX5_isRow_25 p1 p2 = some rr) (hG : G0 rr) (H : Heap) (locs : List Loc) (hP : va_P (dC, dI) vwCl [(h_o, .inr (4, [.ref h_o_bytes, .int o_length, .int o_fault, .int o_place, .int o_rows])), (h_o_bytes, .inl (ca 0, 200, .inl o_bytes_r))] H) (hD : va_D A [(h_o, .inr (4, [.ref h_o_bytes, .int o_length, .int o_fault, .int o_place, .int o_rows])), (h_o_bytes, .inl (ca 0, 200, .inl o_bytes_r))]) (hS : va_S A s.heap H locs) (ls : Array Slot) (hl : lv_has ls 4 [(1, .int p1), (2, .int p2)]), WW H locs (F0 m 25 ls []) := by
    intro  rr hf hG H locs hP hD hS ls hl
    refine h2 ?_
    unfold fX5_isRow_25 at hf
    refine lv_iload_n hx hb dX5_isRow_25 rfl (lv_at hl 1 rfl) ?_
    refine lv_iload_n hx hb dX5_isRow_26 rfl (lv_at hl 0 rfl) ?_
    refine lv_isub hx hb dX5_isRow_27 ?_
    refine lv_bipush (v := 8) hx hb dX5_isRow_28 (by decide) ?_
    refine lv_icmp_gt (tgt := 37) hx hb dX5_isRow_30 (by decide) (fun c_30 => ?_) (fun c_30 => ?_)
    · replace hf := ds_t c_30 hf
      refine lv_iconst (v := 0) hx hb dX5_isRow_37 (by decide) ?_
      have hf := Option.some.inj hf
      subst hf
      rw [eG0] at hG
      have hG : _ = res := hG
      subst hG
      exact W.zret (v := (0 : Int32)) (ty := .boolean) hx hb hr rfl (fun t ht hW => ⟨⟨(0 : Int32), (), rfl, rfl, by rw [ht]; exact hP, hD⟩, hS.F ht⟩) hS.2.2 dX5_isRow_38
    · replace hf := ds_f c_30 hf
      refine lv_iconst (v := 1) hx hb dX5_isRow_33 (by decide) ?_
      refine lv_goto (tgt := 38) hx hb dX5_isRow_34 (by decide) ?_
      have hf := Option.some.inj hf
      subst hf
      rw [eG0] at hG
      have hG : _ = res := hG
      subst hG
      exact W.zret (v := (1 : Int32)) (ty := .boolean) hx hb hr rfl (fun t ht hW => ⟨⟨(1 : Int32), (), rfl, rfl, by rw [ht]; exact hP, hD⟩, hS.F ht⟩) hS.2.2 dX5_isRow_38
  have J_2 : ∀ (n : Nat) (v3 : Int32) (rr : Int32) (hf : ds_it (fun s => fX5_isRow_2_b o_length o_bytes_r p1 p2 s) n v3 = some rr) (hG : G0 rr) (H : Heap) (locs : List Loc) (hP : va_P (dC, dI) vwCl [(h_o, .inr (4, [.ref h_o_bytes, .int o_length, .int o_fault, .int o_place, .int o_rows])), (h_o_bytes, .inl (ca 0, 200, .inl o_bytes_r))] H) (hD : va_D A [(h_o, .inr (4, [.ref h_o_bytes, .int o_length, .int o_fault, .int o_place, .int o_rows])), (h_o_bytes, .inl (ca 0, 200, .inl o_bytes_r))]) (hS : va_S A s.heap H locs) (ls : Array Slot) (hl : lv_has ls 4 [(0, .ref h_o), (1, .int p1), (2, .int p2), (3, .int v3)]), WW H locs (F0 m 2 ls []) := by
    intro  n
    induction n with
    | zero => intro v3 rr hf; exact (ds_it_zero hf).elim
    | succ n ih2 =>
      intro v3 rr hf hG H locs hP hD hS ls hl
      refine h2 ?_
      obtain ⟨rr, hf, hG⟩ := ds_it_succ hf hG
      replace hf : fX5_isRow_2_b o_length o_bytes_r p1 p2 v3 = some rr := hf
      obtain ⟨G1, eG1⟩ : ∃ G : ((Int32) ⊕ (Int32)) → Prop, G = ds_G (fun s' => ∃ r', ds_it (fun s => fX5_isRow_2_b o_length o_bytes_r p1 p2 s) n s' = some r' ∧ G0 r') G0 := ⟨_, rfl⟩
      rw [← eG1] at hG
      unfold fX5_isRow_2_b at hf
      refine lv_iload_n hx hb dX5_isRow_2 rfl (lv_at hl 3 rfl) ?_
      refine lv_iload_n hx hb dX5_isRow_3 rfl (lv_at hl 2 rfl) ?_
      refine lv_icmp_ge (tgt := 25) hx hb dX5_isRow_4 (by decide) (fun c_4 => ?_) (fun c_4 => ?_)
      · replace hf := ds_t c_4 hf
        obtain ⟨rr, hr_0, hf⟩ := ds_ob hf
        have hf := Option.some.inj hf
        subst hf
        rw [eG1] at hG
        replace hG : G0 rr := hG
        have hf := hr_0
        exact h1 (J_25  _ hf hG _ _ hP hD hS _ (lv_sub hl [1, 2] rfl))
      · replace hf := ds_f c_4 hf
        refine lv_aload_n hx hb dX5_isRow_7 rfl (lv_at hl 0 rfl) ?_
        refine lv_iload_n hx hb dX5_isRow_8 rfl (lv_at hl 3 rfl) ?_
        obtain ⟨q9, hq9, hf⟩ := ds_ob hf
        refine ds_calli (wr := []) (va_runV (As := [.int v3]) (rest := []) ⟨hx, hb, hml, hown, hts⟩ (c_X5_byteAt l dC dI ca sa h_o h_o_bytes H.size o_length o_fault o_place o_rows o_bytes_r v3 q9 hq9) (cwV 1 hts (ds_gV kw_329 kw_330 kw_331 kw_313 kw_332) rfl rfl rfl (by decide +kernel) ⟨Nat.le_of_ble_eq_true rfl, Nat.le_of_ble_eq_true rfl⟩) ⟨ds_blind, va_recv hK hP (ci := 4) (q0 := 0) rfl rfl, ds_at hP hD hK hE hS hA [0, 1] rfl rfl _⟩ rfl rfl hl.1 rfl (lv_room (Nat.le_of_ble_eq_true rfl)) dX5_isRow_9 ⟨Nat.zero_le _, Nat.zero_le _⟩) hP hD hS hA [0, 1] [] rfl rfl rfl (by decide) (fun H locs hP hD hS => ?_)
        have hP : va_P (dC, dI) vwCl [(h_o, .inr (4, [.ref h_o_bytes, .int o_length, .int o_fault, .int o_place, .int o_rows])), (h_o_bytes, .inl (ca 0, 200, .inl o_bytes_r))] H := hP
        have hD : va_D A [(h_o, .inr (4, [.ref h_o_bytes, .int o_length, .int o_fault, .int o_place, .int o_rows])), (h_o_bytes, .inl (ca 0, 200, .inl o_bytes_r))] := hD
        refine lv_bipush (v := 100) hx hb dX5_isRow_12 (by decide) ?_
        refine lv_icmp_le (tgt := 19) hx hb dX5_isRow_14 (by decide) (fun c_14 => ?_) (fun c_14 => ?_)
        · replace hf := ds_t c_14 hf
          refine lv_iinc (v := (v3 + 1)) (lv' := [(3, .int (v3 + 1)), (0, .ref h_o), (1, .int p1), (2, .int p2)]) hx hb dX5_isRow_19 hl (k := 3) rfl rfl (by decide) rfl (fun ls hl => ?_)
          refine lv_goto (tgt := 2) hx hb dX5_isRow_22 (by decide) ?_
          have hf := Option.some.inj hf
          subst hf
          rw [eG1] at hG
          obtain ⟨rr, hf, hG⟩ := hG
          exact h1 (ih2 (v3 + 1) rr hf hG _ _ hP hD hS _ (lv_sub hl [1, 2, 3, 0] rfl))
        · replace hf := ds_f c_14 hf
          refine lv_iconst (v := 0) hx hb dX5_isRow_17 (by decide) ?_
          have hf := Option.some.inj hf
          subst hf
          rw [eG1] at hG
          replace hG : G0 _ := hG
          rw [eG0] at hG
          have hG : _ = res := hG
          subst hG
          exact W.zret (v := (0 : Int32)) (ty := .boolean) hx hb hr rfl (fun t ht hW => ⟨⟨(0 : Int32), (), rfl, rfl, by rw [ht]; exact hP, hD⟩, hS.F ht⟩) hS.2.2 dX5_isRow_18
  unfold fX5_isRow at hf
  refine lv_iload_n hx hb dX5_isRow_0 rfl (lv_at hl 1 rfl) ?_
  refine lv_istore_n (lv' := [(3, .int p1), (0, .ref h_o), (1, .int p1), (2, .int p2)]) hx hb dX5_isRow_1 rfl hl (by decide) rfl (fun ls hl => ?_)
  exact h1 (J_2  1000 p1 _ hf hG _ _ hP hD hS _ (lv_sub hl [1, 2, 3, 0] rfl))
theorem dX5_takeRow_0 : decode cX5_takeRow 0 = .ok (.aload_n 0, 1) := by decide +kernel
theorem dX5_takeRow_1 : decode cX5_takeRow 1 = .ok (.getfield 35, 3) := by decide +kernel
theorem dX5_takeRow_4 : decode cX5_takeRow 4 = .ok (.iconst 1, 1) := by decide +kernel
theorem dX5_takeRow_5 : decode cX5_takeRow 5 = .ok (.if_icmp .ne 10, 3) := by decide +kernel
theorem dX5_takeRow_8 : decode cX5_takeRow 8 = .ok (.aload_n 1, 1) := by decide +kernel
theorem dX5_takeRow_9 : decode cX5_takeRow 9 = .ok (.iload_n 3, 1) := by decide +kernel
theorem dX5_takeRow_10 : decode cX5_takeRow 10 = .ok (.iload_n 2, 1) := by decide +kernel
theorem dX5_takeRow_11 : decode cX5_takeRow 11 = .ok (.isub, 1) := by decide +kernel
theorem dX5_takeRow_12 : decode cX5_takeRow 12 = .ok (.putfield 91, 3) := by decide +kernel
theorem dX5_takeRow_15 : decode cX5_takeRow 15 = .ok (.aload_n 0, 1) := by decide +kernel
theorem dX5_takeRow_16 : decode cX5_takeRow 16 = .ok (.getfield 22, 3) := by decide +kernel
theorem dX5_takeRow_19 : decode cX5_takeRow 19 = .ok (.ifCond .ne 22, 3) := by decide +kernel
theorem dX5_takeRow_22 : decode cX5_takeRow 22 = .ok (.aload_n 0, 1) := by decide +kernel
theorem dX5_takeRow_23 : decode cX5_takeRow 23 = .ok (.getfield 35, 3) := by decide +kernel
theorem dX5_takeRow_26 : decode cX5_takeRow 26 = .ok (.bipush 8, 2) := by decide +kernel
theorem dX5_takeRow_28 : decode cX5_takeRow 28 = .ok (.if_icmp .le 13, 3) := by decide +kernel
theorem dX5_takeRow_31 : decode cX5_takeRow 31 = .ok (.aload_n 0, 1) := by decide +kernel
theorem dX5_takeRow_32 : decode cX5_takeRow 32 = .ok (.iconst 3, 1) := by decide +kernel
theorem dX5_takeRow_33 : decode cX5_takeRow 33 = .ok (.putfield 22, 3) := by decide +kernel
theorem dX5_takeRow_36 : decode cX5_takeRow 36 = .ok (.aload_n 0, 1) := by decide +kernel
theorem dX5_takeRow_37 : decode cX5_takeRow 37 = .ok (.iload_n 2, 1) := by decide +kernel
theorem dX5_takeRow_38 : decode cX5_takeRow 38 = .ok (.putfield 15, 3) := by decide +kernel
theorem dX5_takeRow_41 : decode cX5_takeRow 41 = .ok (.aload_n 0, 1) := by decide +kernel
theorem dX5_takeRow_42 : decode cX5_takeRow 42 = .ok (.getfield 22, 3) := by decide +kernel
theorem dX5_takeRow_45 : decode cX5_takeRow 45 = .ok (.ifCond .ne 23, 3) := by decide +kernel
theorem dX5_takeRow_48 : decode cX5_takeRow 48 = .ok (.iload_n 3, 1) := by decide +kernel
theorem dX5_takeRow_49 : decode cX5_takeRow 49 = .ok (.iload_n 2, 1) := by decide +kernel
theorem dX5_takeRow_50 : decode cX5_takeRow 50 = .ok (.isub, 1) := by decide +kernel
theorem dX5_takeRow_51 : decode cX5_takeRow 51 = .ok (.aload_n 1, 1) := by decide +kernel
theorem dX5_takeRow_52 : decode cX5_takeRow 52 = .ok (.getfield 91, 3) := by decide +kernel
theorem dX5_takeRow_55 : decode cX5_takeRow 55 = .ok (.if_icmp .eq 13, 3) := by decide +kernel
theorem dX5_takeRow_58 : decode cX5_takeRow 58 = .ok (.aload_n 0, 1) := by decide +kernel
theorem dX5_takeRow_59 : decode cX5_takeRow 59 = .ok (.iconst 2, 1) := by decide +kernel
theorem dX5_takeRow_60 : decode cX5_takeRow 60 = .ok (.putfield 22, 3) := by decide +kernel
theorem dX5_takeRow_63 : decode cX5_takeRow 63 = .ok (.aload_n 0, 1) := by decide +kernel
theorem dX5_takeRow_64 : decode cX5_takeRow 64 = .ok (.iload_n 2, 1) := by decide +kernel
theorem dX5_takeRow_65 : decode cX5_takeRow 65 = .ok (.putfield 15, 3) := by decide +kernel
theorem dX5_takeRow_68 : decode cX5_takeRow 68 = .ok (.aload_n 0, 1) := by decide +kernel
theorem dX5_takeRow_69 : decode cX5_takeRow 69 = .ok (.getfield 22, 3) := by decide +kernel
theorem dX5_takeRow_72 : decode cX5_takeRow 72 = .ok (.ifCond .ne 52, 3) := by decide +kernel
theorem dX5_takeRow_75 : decode cX5_takeRow 75 = .ok (.aload_n 1, 1) := by decide +kernel
theorem dX5_takeRow_76 : decode cX5_takeRow 76 = .ok (.aload_n 0, 1) := by decide +kernel
theorem dX5_takeRow_77 : decode cX5_takeRow 77 = .ok (.getfield 35, 3) := by decide +kernel
theorem dX5_takeRow_80 : decode cX5_takeRow 80 = .ok (.putfield 94, 3) := by decide +kernel
theorem dX5_takeRow_83 : decode cX5_takeRow 83 = .ok (.iload_n 2, 1) := by decide +kernel
theorem dX5_takeRow_84 : decode cX5_takeRow 84 = .ok (.istore 4, 2) := by decide +kernel
theorem dX5_takeRow_86 : decode cX5_takeRow 86 = .ok (.iload 4, 2) := by decide +kernel
theorem dX5_takeRow_88 : decode cX5_takeRow 88 = .ok (.iload_n 3, 1) := by decide +kernel
theorem dX5_takeRow_89 : decode cX5_takeRow 89 = .ok (.if_icmp .ge 35, 3) := by decide +kernel
theorem dX5_takeRow_92 : decode cX5_takeRow 92 = .ok (.aload_n 1, 1) := by decide +kernel
theorem dX5_takeRow_93 : decode cX5_takeRow 93 = .ok (.iload 4, 2) := by decide +kernel
theorem dX5_takeRow_95 : decode cX5_takeRow 95 = .ok (.iload_n 2, 1) := by decide +kernel
theorem dX5_takeRow_96 : decode cX5_takeRow 96 = .ok (.isub, 1) := by decide +kernel
theorem dX5_takeRow_97 : decode cX5_takeRow 97 = .ok (.aload_n 0, 1) := by decide +kernel
theorem dX5_takeRow_98 : decode cX5_takeRow 98 = .ok (.getfield 35, 3) := by decide +kernel
theorem dX5_takeRow_101 : decode cX5_takeRow 101 = .ok (.iconst 1, 1) := by decide +kernel
theorem dX5_takeRow_102 : decode cX5_takeRow 102 = .ok (.isub, 1) := by decide +kernel
theorem dX5_takeRow_103 : decode cX5_takeRow 103 = .ok (.invokestatic 97, 3) := by decide +kernel
theorem dX5_takeRow_106 : decode cX5_takeRow 106 = .ok (.aload_n 0, 1) := by decide +kernel
theorem dX5_takeRow_107 : decode cX5_takeRow 107 = .ok (.iload 4, 2) := by decide +kernel
theorem dX5_takeRow_109 : decode cX5_takeRow 109 = .ok (.invokevirtual 42, 3) := by decide +kernel
theorem dX5_takeRow_112 : decode cX5_takeRow 112 = .ok (.bipush 97, 2) := by decide +kernel
theorem dX5_takeRow_114 : decode cX5_takeRow 114 = .ok (.isub, 1) := by decide +kernel
theorem dX5_takeRow_115 : decode cX5_takeRow 115 = .ok (.invokevirtual 101, 3) := by decide +kernel
theorem dX5_takeRow_118 : decode cX5_takeRow 118 = .ok (.iinc 4 1, 3) := by decide +kernel
theorem dX5_takeRow_121 : decode cX5_takeRow 121 = .ok (.goto (-35), 3) := by decide +kernel
theorem dX5_takeRow_124 : decode cX5_takeRow 124 = .ok (.return_, 1) := by decide +kernel
def fX5_takeRow_86_b (o_length : Int32) (o_fault : Int32) (o_place : Int32) (o_rows : Int32) (p1_wide : Int32) (p1_high : Int32) (o_bytes_r : Nat → Int32) (p2 : Int32) (p3 : Int32) (v4 : Int32) (p1_ones : Int64) (p1_twos : Int64) : Option ((Int32 × Int64 × Int64) ⊕ (Int32 × Int32 × Int32 × Int32 × Int64 × Int64)) :=
  if p3 ≤ v4 then some (.inr (o_fault, o_place, p1_wide, p1_high, p1_ones, p1_twos)) else Option.bind (fX6_bit (v4 - p2) (o_rows - (1 : Int32))) fun q103 => Option.bind (fX5_byteAt o_length o_bytes_r v4) fun q109 => Option.bind (fX6_colourCells p1_ones p1_twos q103 (q109 - (97 : Int32))) fun q115 => some (.inl ((v4 + 1), q115.1, q115.2))
def fX5_takeRow_86 (o_length : Int32) (o_fault : Int32) (o_place : Int32) (o_rows : Int32) (p1_wide : Int32) (p1_high : Int32) (o_bytes_r : Nat → Int32) (p2 : Int32) (p3 : Int32) (v4 : Int32) (p1_ones : Int64) (p1_twos : Int64) : Option (Int32 × Int32 × Int32 × Int32 × Int64 × Int64) := ds_it (fun s => fX5_takeRow_86_b o_length o_fault o_place o_rows p1_wide p1_high o_bytes_r p2 p3 s.1 s.2.1 s.2.2) 1000 (v4, p1_ones, p1_twos)
def fX5_takeRow_68 (o_length : Int32) (o_fault : Int32) (o_place : Int32) (o_rows : Int32) (p1_wide : Int32) (p1_high : Int32) (p1_ones : Int64) (p1_twos : Int64) (o_bytes_r : Nat → Int32) (p2 : Int32) (p3 : Int32) : Option (Int32 × Int32 × Int32 × Int32 × Int64 × Int64) :=
  if o_fault = 0 then fX5_takeRow_86 o_length o_fault o_place o_rows p1_wide o_rows o_bytes_r p2 p3 p2 p1_ones p1_twos else some (o_fault, o_place, p1_wide, p1_high, p1_ones, p1_twos)
def fX5_takeRow_41 (o_length : Int32) (o_fault : Int32) (o_place : Int32) (o_rows : Int32) (p1_wide : Int32) (p1_high : Int32) (p1_ones : Int64) (p1_twos : Int64) (o_bytes_r : Nat → Int32) (p2 : Int32) (p3 : Int32) : Option (Int32 × Int32 × Int32 × Int32 × Int64 × Int64) :=
  if o_fault = 0 then if (p3 - p2) = p1_wide then fX5_takeRow_68 o_length o_fault o_place o_rows p1_wide p1_high p1_ones p1_twos o_bytes_r p2 p3 else fX5_takeRow_68 o_length (2 : Int32) p2 o_rows p1_wide p1_high p1_ones p1_twos o_bytes_r p2 p3 else fX5_takeRow_68 o_length o_fault o_place o_rows p1_wide p1_high p1_ones p1_twos o_bytes_r p2 p3
def fX5_takeRow_15 (o_length : Int32) (o_fault : Int32) (o_place : Int32) (o_rows : Int32) (p1_wide : Int32) (p1_high : Int32) (p1_ones : Int64) (p1_twos : Int64) (o_bytes_r : Nat → Int32) (p2 : Int32) (p3 : Int32) : Option (Int32 × Int32 × Int32 × Int32 × Int64 × Int64) :=
  if o_fault = 0 then if o_rows ≤ (8 : Int32) then fX5_takeRow_41 o_length o_fault o_place o_rows p1_wide p1_high p1_ones p1_twos o_bytes_r p2 p3 else fX5_takeRow_41 o_length (3 : Int32) p2 o_rows p1_wide p1_high p1_ones p1_twos o_bytes_r p2 p3 else fX5_takeRow_41 o_length o_fault o_place o_rows p1_wide p1_high p1_ones p1_twos o_bytes_r p2 p3
def fX5_takeRow (o_length : Int32) (o_fault : Int32) (o_place : Int32) (o_rows : Int32) (p1_wide : Int32) (p1_high : Int32) (p1_ones : Int64) (p1_twos : Int64) (o_bytes_r : Nat → Int32) (p2 : Int32) (p3 : Int32) : Option (Int32 × Int32 × Int32 × Int32 × Int64 × Int64) :=
  if o_rows = (1 : Int32) then fX5_takeRow_15 o_length o_fault o_place o_rows (p3 - p2) p1_high p1_ones p1_twos o_bytes_r p2 p3 else fX5_takeRow_15 o_length o_fault o_place o_rows p1_wide p1_high p1_ones p1_twos o_bytes_r p2 p3
set_option maxHeartbeats 4000000 in
set_option maxRecDepth 100000 in
theorem c_X5_takeRow (l : Launch) (dC : Nat → ClassId) (dI : Nat → Nat → Nat) (ca : Nat → ClassId) (sa : Nat → Nat) (h_o : Nat) (h_o_bytes : Nat) (h_p1 : Nat) (sz : Nat) (o_length : Int32) (o_fault : Int32) (o_place : Int32) (o_rows : Int32) (p1_wide : Int32) (p1_high : Int32) (p1_hex : Int32) (p1_ones : Int64) (p1_twos : Int64) (o_bytes_r : Nat → Int32) (p2 : Int32) (p3 : Int32) (res : Int32 × Int32 × Int32 × Int32 × Int64 × Int64) (hf : fX5_takeRow o_length o_fault o_place o_rows p1_wide p1_high p1_ones p1_twos o_bytes_r p2 p3 = some res) : Met l yX5_takeRow (Cond.code yX5_takeRow cX5_takeRow 5 none :: ds_gw) { frames := 1, cells := 0, slots := 0, locals := 23 } (va_Pc [.ref h_o, .ref h_p1, .int p2, .int p3] (ds_Pre dC dI ca sa [(h_o, .inr (4, [.ref h_o_bytes, .int o_length, .int o_fault, .int o_place, .int o_rows])), (h_p1, .inr (5, [.int p1_wide, .int p1_high, .int p1_hex, .long p1_ones, .long p1_twos])), (h_o_bytes, .inl (ca 0, 200, .inl o_bytes_r))] sz)) (va_Qv (fun (_ : Unit) => True) (ds_B dC dI (va_A [(h_o, .inr (4, [.ref h_o_bytes, .int o_length, .int o_fault, .int o_place, .int o_rows])), (h_p1, .inr (5, [.int p1_wide, .int p1_high, .int p1_hex, .long p1_ones, .long p1_twos])), (h_o_bytes, .inl (ca 0, 200, .inl o_bytes_r))] sz) [(h_o, .inr (4, [.ref h_o_bytes, .int o_length, .int res.1, .int res.2.1, .int o_rows])), (h_p1, .inr (5, [.int res.2.2.1, .int res.2.2.2.1, .int p1_hex, .long res.2.2.2.2.1, .long res.2.2.2.2.2])), (h_o_bytes, .inl (ca 0, 200, .inl o_bytes_r))]) (va_A [(h_o, .inr (4, [.ref h_o_bytes, .int o_length, .int o_fault, .int o_place, .int o_rows])), (h_p1, .inr (5, [.int p1_wide, .int p1_high, .int p1_hex, .long p1_ones, .long p1_twos])), (h_o_bytes, .inl (ca 0, 200, .inl o_bytes_r))] sz)) 0 0 (va_A [(h_o, .inr (4, [.ref h_o_bytes, .int o_length, .int o_fault, .int o_place, .int o_rows])), (h_p1, .inr (5, [.int p1_wide, .int p1_high, .int p1_hex, .long p1_ones, .long p1_twos])), (h_o_bytes, .inl (ca 0, 200, .inl o_bytes_r))] sz) := by
  refine Met.ofW (cc := cX5_takeRow) (maxL := 5) (ret := none) (by decide) rfl ?_
  intro p e s m args below meth c s₁ B hml hv
  obtain ⟨rfl, hsz, hP, hK, hD0, hE⟩ := hv
  have hx := B.exec
  have hb := B.bytes
  have hr := B.returns
  have hts := atoms_spec (ws := Cond.code yX5_takeRow cX5_takeRow 5 none :: ds_gw) B.pre
  have hg : ∀ {w : Cond}, w ∈ ds_gw → w.before _ s = true := fun h => hts _ (List.mem_cons_of_mem _ h)
  have hown : s.vm.findClass RX5 = some m.cls := findClass_of_methodNamed B.named
  have hlocks := B.notSynchronized
  subst hsz
  have hD := hD0.self (sz := s.heap.size)
  generalize hAe : va_A [(h_o, .inr (4, [.ref h_o_bytes, .int o_length, .int o_fault, .int o_place, .int o_rows])), (h_p1, .inr (5, [.int p1_wide, .int p1_high, .int p1_hex, .long p1_ones, .long p1_twos])), (h_o_bytes, .inl (ca 0, 200, .inl o_bytes_r))] s.heap.size = A at hD hE ⊢
  have hA : ∀ q : Nat, s.heap.size ≤ q → A q := fun q h => by rw [← hAe]; exact Or.inr h
  have hS : va_S A s.heap s.heap [] := va_S.rf
  have hl := lv_entry ([.ref h_o, .ref h_p1, .int p2, .int p3]) (n := 5) (Nat.le_of_ble_eq_true rfl)
  rw [lg_entry_eq]
  generalize (lg_sl ([.ref h_o, .ref h_p1, .int p2, .int p3]) ++ List.replicate (5 - (lg_sl ([.ref h_o, .ref h_p1, .int p2, .int p3])).length) Slot.unset).toArray = ls at hl ⊢
  have hl : lv_has ls 5 [(0, .ref h_o), (1, .ref h_p1), (2, .int p2), (3, .int p3)] := hl
  obtain ⟨G0, eG0⟩ : ∃ G : (Int32 × Int32 × Int32 × Int32 × Int64 × Int64) → Prop, G = (fun r => r = res) := ⟨_, rfl⟩
  obtain ⟨rr, hrr⟩ : ∃ z, z = res := ⟨_, rfl⟩
  rw [← hrr] at hf
  have hG : G0 rr := by subst eG0; exact hrr
  refine ds_cap (fun WW h1 h2 => ?_)
  have J_86 : ∀ (o_fault : Int32) (o_place : Int32) (p1_wide : Int32) (p1_high : Int32) (n : Nat) (v4 : Int32) (p1_ones : Int64) (p1_twos : Int64) (rr : Int32 × Int32 × Int32 × Int32 × Int64 × Int64) (hf : ds_it (fun s => fX5_takeRow_86_b o_length o_fault o_place o_rows p1_wide p1_high o_bytes_r p2 p3 s.1 s.2.1 s.2.2) n (v4, p1_ones, p1_twos) = some rr) (hG : G0 rr) (H : Heap) (locs : List Loc) (hP : va_P (dC, dI) vwCl [(h_o, .inr (4, [.ref h_o_bytes, .int o_length, .int o_fault, .int o_place, .int o_rows])), (h_p1, .inr (5, [.int p1_wide, .int p1_high, .int p1_hex, .long p1_ones, .long p1_twos])), (h_o_bytes, .inl (ca 0, 200, .inl o_bytes_r))] H) (hD : va_D A [(h_o, .inr (4, [.ref h_o_bytes, .int o_length, .int o_fault, .int o_place, .int o_rows])), (h_p1, .inr (5, [.int p1_wide, .int p1_high, .int p1_hex, .long p1_ones, .long p1_twos])), (h_o_bytes, .inl (ca 0, 200, .inl o_bytes_r))]) (hS : va_S A s.heap H locs) (ls : Array Slot) (hl : lv_has ls 5 [(0, .ref h_o), (1, .ref h_p1), (2, .int p2), (3, .int p3), (4, .int v4)]), WW H locs (F0 m 86 ls []) := by
    intro o_fault o_place p1_wide p1_high n
    induction n with
    | zero => intro v4 p1_ones p1_twos rr hf; exact (ds_it_zero hf).elim
    | succ n ih86 =>
      intro v4 p1_ones p1_twos rr hf hG H locs hP hD hS ls hl
      refine h2 ?_
      obtain ⟨rr, hf, hG⟩ := ds_it_succ hf hG
      replace hf : fX5_takeRow_86_b o_length o_fault o_place o_rows p1_wide p1_high o_bytes_r p2 p3 v4 p1_ones p1_twos = some rr := hf
      obtain ⟨G1, eG1⟩ : ∃ G : ((Int32 × Int64 × Int64) ⊕ (Int32 × Int32 × Int32 × Int32 × Int64 × Int64)) → Prop, G = ds_G (fun s' => ∃ r', ds_it (fun s => fX5_takeRow_86_b o_length o_fault o_place o_rows p1_wide p1_high o_bytes_r p2 p3 s.1 s.2.1 s.2.2) n s' = some r' ∧ G0 r') G0 := ⟨_, rfl⟩
      rw [← eG1] at hG
      unfold fX5_takeRow_86_b at hf
      refine lv_iload hx hb dX5_takeRow_86 (lv_at hl 4 rfl) ?_
      refine lv_iload_n hx hb dX5_takeRow_88 rfl (lv_at hl 3 rfl) ?_
      refine lv_icmp_ge (tgt := 124) hx hb dX5_takeRow_89 (by decide) (fun c_89 => ?_) (fun c_89 => ?_)
      · replace hf := ds_t c_89 hf
        have hf := Option.some.inj hf
        subst hf
        rw [eG1] at hG
        replace hG : G0 _ := hG
        rw [eG0] at hG
        have hG : _ = res := hG
        subst hG
        exact W.vret hx hb hr (fun t ht hW => ⟨⟨(), rfl, trivial, by rw [ht]; exact hP, hD⟩, hS.F ht⟩) hS.2.2 dX5_takeRow_124
      · replace hf := ds_f c_89 hf
        refine lv_aload_n hx hb dX5_takeRow_92 rfl (lv_at hl 1 rfl) ?_
        refine lv_iload hx hb dX5_takeRow_93 (lv_at hl 4 rfl) ?_
        refine lv_iload_n hx hb dX5_takeRow_95 rfl (lv_at hl 2 rfl) ?_
        refine lv_isub hx hb dX5_takeRow_96 ?_
        refine lv_aload_n hx hb dX5_takeRow_97 rfl (lv_at hl 0 rfl) ?_
        refine va_get (D := (dC, dI)) (ci := 4) (v := .int o_rows) (C := RX5) (T := TX5) (N := 5) hx hb hts (fun w h => List.mem_cons_of_mem _ (kc_X5 w h)) hown hK hP 0 rfl rfl 4 (by decide) (hg kw_344) (fun _ h9 => h9) rfl dX5_takeRow_98 ?_
        refine lv_iconst (v := 1) hx hb dX5_takeRow_101 (by decide) ?_
        refine lv_isub hx hb dX5_takeRow_102 ?_
        obtain ⟨q103, hq103, hf⟩ := ds_ob hf
        refine ds_calll (wr := [(h_o, .inr (4, [.ref h_o_bytes, .int o_length, .int o_fault, .int o_place, .int o_rows])), (h_p1, .inr (5, [.int p1_wide, .int p1_high, .int p1_hex, .long p1_ones, .long p1_twos])), (h_o_bytes, .inl (ca 0, 200, .inl o_bytes_r))]) (va_runS (As := [.int (v4 - p2), .int (o_rows - (1 : Int32))]) (rest := [.ref h_p1]) ⟨hx, hb, hml, hown, hts⟩ (c_X6_bit l dC dI ca sa  H.size  (v4 - p2) (o_rows - (1 : Int32)) q103 hq103) (va_cwS 2 hts (ds_gS kw_345 kw_103 kw_59 kw_104) rfl rfl rfl (by decide +kernel) ⟨Nat.le_of_ble_eq_true rfl, Nat.le_of_ble_eq_true rfl⟩) ⟨ds_blind, ds_at hP hD hK hE hS hA [] rfl rfl _⟩ rfl rfl hl.1 rfl (lv_room (Nat.le_of_ble_eq_true rfl)) dX5_takeRow_103 ⟨Nat.zero_le _, Nat.zero_le _⟩) hP hD hS hA [] [0, 1, 2] rfl rfl rfl (by decide) (fun H locs hP hD hS => ?_)
        have hP : va_P (dC, dI) vwCl [(h_o, .inr (4, [.ref h_o_bytes, .int o_length, .int o_fault, .int o_place, .int o_rows])), (h_p1, .inr (5, [.int p1_wide, .int p1_high, .int p1_hex, .long p1_ones, .long p1_twos])), (h_o_bytes, .inl (ca 0, 200, .inl o_bytes_r))] H := hP
        have hD : va_D A [(h_o, .inr (4, [.ref h_o_bytes, .int o_length, .int o_fault, .int o_place, .int o_rows])), (h_p1, .inr (5, [.int p1_wide, .int p1_high, .int p1_hex, .long p1_ones, .long p1_twos])), (h_o_bytes, .inl (ca 0, 200, .inl o_bytes_r))] := hD
        refine lv_aload_n hx hb dX5_takeRow_106 rfl (lv_at hl 0 rfl) ?_
        refine lv_iload hx hb dX5_takeRow_107 (lv_at hl 4 rfl) ?_
        obtain ⟨q109, hq109, hf⟩ := ds_ob hf
        refine ds_calli (wr := [(h_p1, .inr (5, [.int p1_wide, .int p1_high, .int p1_hex, .long p1_ones, .long p1_twos]))]) (va_runV (As := [.int v4]) (rest := [.long q103, .ref h_p1]) ⟨hx, hb, hml, hown, hts⟩ (c_X5_byteAt l dC dI ca sa h_o h_o_bytes H.size o_length o_fault o_place o_rows o_bytes_r v4 q109 hq109) (cwV 1 hts (ds_gV kw_329 kw_330 kw_331 kw_313 kw_332) rfl rfl rfl (by decide +kernel) ⟨Nat.le_of_ble_eq_true rfl, Nat.le_of_ble_eq_true rfl⟩) ⟨ds_blind, va_recv hK hP (ci := 4) (q0 := 0) rfl rfl, ds_at hP hD hK hE hS hA [0, 2] rfl rfl _⟩ rfl rfl hl.1 rfl (lv_room (Nat.le_of_ble_eq_true rfl)) dX5_takeRow_109 ⟨Nat.zero_le _, Nat.zero_le _⟩) hP hD hS hA [0, 2] [1] rfl rfl rfl (by decide) (fun H locs hP hD hS => ?_)
        have hP : va_P (dC, dI) vwCl [(h_p1, .inr (5, [.int p1_wide, .int p1_high, .int p1_hex, .long p1_ones, .long p1_twos])), (h_o, .inr (4, [.ref h_o_bytes, .int o_length, .int o_fault, .int o_place, .int o_rows])), (h_o_bytes, .inl (ca 0, 200, .inl o_bytes_r))] H := hP
        have hD : va_D A [(h_p1, .inr (5, [.int p1_wide, .int p1_high, .int p1_hex, .long p1_ones, .long p1_twos])), (h_o, .inr (4, [.ref h_o_bytes, .int o_length, .int o_fault, .int o_place, .int o_rows])), (h_o_bytes, .inl (ca 0, 200, .inl o_bytes_r))] := hD
        refine lv_bipush (v := 97) hx hb dX5_takeRow_112 (by decide) ?_
        refine lv_isub hx hb dX5_takeRow_114 ?_
        obtain ⟨q115, hq115, hf⟩ := ds_ob hf
        refine ds_callv (wr := [(h_o, .inr (4, [.ref h_o_bytes, .int o_length, .int o_fault, .int o_place, .int o_rows])), (h_o_bytes, .inl (ca 0, 200, .inl o_bytes_r))]) (va_runV (As := [.long q103, .int (q109 - (97 : Int32))]) (rest := []) ⟨hx, hb, hml, hown, hts⟩ (c_X6_colourCells l dC dI ca sa h_p1 H.size p1_wide p1_high p1_hex p1_ones p1_twos q103 (q109 - (97 : Int32)) q115 hq115) (cwV 2 hts (ds_gV kw_346 kw_347 kw_348 kw_59 kw_349) rfl rfl rfl (by decide +kernel) ⟨Nat.le_of_ble_eq_true rfl, Nat.le_of_ble_eq_true rfl⟩) ⟨ds_blind, va_recv hK hP (ci := 5) (q0 := 0) rfl rfl, ds_at hP hD hK hE hS hA [0] rfl rfl _⟩ rfl rfl hl.1 rfl (lv_room (Nat.le_of_ble_eq_true rfl)) dX5_takeRow_115 ⟨Nat.zero_le _, Nat.zero_le _⟩) hP hD hS hA [0] [1, 2] rfl rfl rfl (by decide) (fun H locs hP hD hS => ?_)
        have hP : va_P (dC, dI) vwCl [(h_o, .inr (4, [.ref h_o_bytes, .int o_length, .int o_fault, .int o_place, .int o_rows])), (h_o_bytes, .inl (ca 0, 200, .inl o_bytes_r)), (h_p1, .inr (5, [.int p1_wide, .int p1_high, .int p1_hex, .long q115.1, .long q115.2]))] H := hP
        have hD : va_D A [(h_o, .inr (4, [.ref h_o_bytes, .int o_length, .int o_fault, .int o_place, .int o_rows])), (h_o_bytes, .inl (ca 0, 200, .inl o_bytes_r)), (h_p1, .inr (5, [.int p1_wide, .int p1_high, .int p1_hex, .long q115.1, .long q115.2]))] := hD
        refine lv_iinc (v := (v4 + 1)) (lv' := [(4, .int (v4 + 1)), (0, .ref h_o), (1, .ref h_p1), (2, .int p2), (3, .int p3)]) hx hb dX5_takeRow_118 hl (k := 4) rfl rfl (by decide) rfl (fun ls hl => ?_)
        refine lv_goto (tgt := 86) hx hb dX5_takeRow_121 (by decide) ?_
        have hf := Option.some.inj hf
        subst hf
        rw [eG1] at hG
        obtain ⟨rr, hf, hG⟩ := hG
        exact h1 (ih86 (v4 + 1) q115.1 q115.2 rr hf hG _ _ (hP.sub [0, 2, 1] rfl) (hD.sub [0, 2, 1] rfl rfl) hS _ (lv_sub hl [1, 2, 3, 4, 0] rfl))
  have J_68 : ∀ (o_fault : Int32) (o_place : Int32) (p1_wide : Int32) (p1_high : Int32) (p1_ones : Int64) (p1_twos : Int64) (rr : Int32 × Int32 × Int32 × Int32 × Int64 × Int64) (hf : fX5_takeRow_68 o_length o_fault o_place o_rows p1_wide p1_high p1_ones p1_twos o_bytes_r p2 p3 = some rr) (hG : G0 rr) (H : Heap) (locs : List Loc) (hP : va_P (dC, dI) vwCl [(h_o, .inr (4, [.ref h_o_bytes, .int o_length, .int o_fault, .int o_place, .int o_rows])), (h_p1, .inr (5, [.int p1_wide, .int p1_high, .int p1_hex, .long p1_ones, .long p1_twos])), (h_o_bytes, .inl (ca 0, 200, .inl o_bytes_r))] H) (hD : va_D A [(h_o, .inr (4, [.ref h_o_bytes, .int o_length, .int o_fault, .int o_place, .int o_rows])), (h_p1, .inr (5, [.int p1_wide, .int p1_high, .int p1_hex, .long p1_ones, .long p1_twos])), (h_o_bytes, .inl (ca 0, 200, .inl o_bytes_r))]) (hS : va_S A s.heap H locs) (ls : Array Slot) (hl : lv_has ls 5 [(0, .ref h_o), (1, .ref h_p1), (2, .int p2), (3, .int p3)]), WW H locs (F0 m 68 ls []) := by
    intro o_fault o_place p1_wide p1_high p1_ones p1_twos rr hf hG H locs hP hD hS ls hl
    refine h2 ?_
    unfold fX5_takeRow_68 at hf
    refine lv_aload_n hx hb dX5_takeRow_68 rfl (lv_at hl 0 rfl) ?_
    refine va_get (D := (dC, dI)) (ci := 4) (v := .int o_fault) (C := RX5) (T := TX5) (N := 5) hx hb hts (fun w h => List.mem_cons_of_mem _ (kc_X5 w h)) hown hK hP 0 rfl rfl 2 (by decide) (hg kw_301) (fun _ h9 => h9) rfl dX5_takeRow_69 ?_
    refine lv_if_ne (tgt := 124) hx hb dX5_takeRow_72 (by decide) (fun c_72 => ?_) (fun c_72 => ?_)
    · replace hf := ds_f c_72 hf
      have hf := Option.some.inj hf
      subst hf
      rw [eG0] at hG
      have hG : _ = res := hG
      subst hG
      exact W.vret hx hb hr (fun t ht hW => ⟨⟨(), rfl, trivial, by rw [ht]; exact hP, hD⟩, hS.F ht⟩) hS.2.2 dX5_takeRow_124
    · replace hf := ds_t c_72 hf
      refine lv_aload_n hx hb dX5_takeRow_75 rfl (lv_at hl 1 rfl) ?_
      refine lv_aload_n hx hb dX5_takeRow_76 rfl (lv_at hl 0 rfl) ?_
      refine va_get (D := (dC, dI)) (ci := 4) (v := .int o_rows) (C := RX5) (T := TX5) (N := 5) hx hb hts (fun w h => List.mem_cons_of_mem _ (kc_X5 w h)) hown hK hP 0 rfl rfl 4 (by decide) (hg kw_344) (fun _ h9 => h9) rfl dX5_takeRow_77 ?_
      refine va_putN (D := (dC, dI)) (ci := 5) (v := .int o_rows) (ty := tyX6 1) (C := RX6) (T := TX6) (N := 5) hx hb hts (fun w h => List.mem_cons_of_mem _ (kc_X6 w h)) tyX6 tyX6_ok nmX6 hown hK hP hD hS 1 rfl rfl 1 (by decide) (va_Nw.use rfl (hE.1 _ kw_350)) (fun _ h9 => h9) rfl (by decide +kernel) rfl rfl (Nat.le_of_ble_eq_true rfl) dX5_takeRow_80 (fun H locs hP hD hS => ?_)
      have hP : va_P (dC, dI) vwCl [(h_o, .inr (4, [.ref h_o_bytes, .int o_length, .int o_fault, .int o_place, .int o_rows])), (h_p1, .inr (5, [.int p1_wide, .int o_rows, .int p1_hex, .long p1_ones, .long p1_twos])), (h_o_bytes, .inl (ca 0, 200, .inl o_bytes_r))] H := hP
      have hD : va_D A [(h_o, .inr (4, [.ref h_o_bytes, .int o_length, .int o_fault, .int o_place, .int o_rows])), (h_p1, .inr (5, [.int p1_wide, .int o_rows, .int p1_hex, .long p1_ones, .long p1_twos])), (h_o_bytes, .inl (ca 0, 200, .inl o_bytes_r))] := hD
      refine lv_iload_n hx hb dX5_takeRow_83 rfl (lv_at hl 2 rfl) ?_
      refine lv_istore (lv' := [(4, .int p2), (0, .ref h_o), (1, .ref h_p1), (2, .int p2), (3, .int p3)]) hx hb dX5_takeRow_84 hl (by decide) rfl (fun ls hl => ?_)
      exact h1 (J_86 o_fault o_place p1_wide o_rows 1000 p2 p1_ones p1_twos _ hf hG _ _ hP hD hS _ (lv_sub hl [1, 2, 3, 4, 0] rfl))
  have J_41 : ∀ (o_fault : Int32) (o_place : Int32) (p1_wide : Int32) (p1_high : Int32) (p1_ones : Int64) (p1_twos : Int64) (rr : Int32 × Int32 × Int32 × Int32 × Int64 × Int64) (hf : fX5_takeRow_41 o_length o_fault o_place o_rows p1_wide p1_high p1_ones p1_twos o_bytes_r p2 p3 = some rr) (hG : G0 rr) (H : Heap) (locs : List Loc) (hP : va_P (dC, dI) vwCl [(h_o, .inr (4, [.ref h_o_bytes, .int o_length, .int o_fault, .int o_place, .int o_rows])), (h_p1, .inr (5, [.int p1_wide, .int p1_high, .int p1_hex, .long p1_ones, .long p1_twos])), (h_o_bytes, .inl (ca 0, 200, .inl o_bytes_r))] H) (hD : va_D A [(h_o, .inr (4, [.ref h_o_bytes, .int o_length, .int o_fault, .int o_place, .int o_rows])), (h_p1, .inr (5, [.int p1_wide, .int p1_high, .int p1_hex, .long p1_ones, .long p1_twos])), (h_o_bytes, .inl (ca 0, 200, .inl o_bytes_r))]) (hS : va_S A s.heap H locs) (ls : Array Slot) (hl : lv_has ls 5 [(0, .ref h_o), (1, .ref h_p1), (2, .int p2), (3, .int p3)]), WW H locs (F0 m 41 ls []) := by
    intro o_fault o_place p1_wide p1_high p1_ones p1_twos rr hf hG H locs hP hD hS ls hl
    refine h2 ?_
    unfold fX5_takeRow_41 at hf
    refine lv_aload_n hx hb dX5_takeRow_41 rfl (lv_at hl 0 rfl) ?_
    refine va_get (D := (dC, dI)) (ci := 4) (v := .int o_fault) (C := RX5) (T := TX5) (N := 5) hx hb hts (fun w h => List.mem_cons_of_mem _ (kc_X5 w h)) hown hK hP 0 rfl rfl 2 (by decide) (hg kw_301) (fun _ h9 => h9) rfl dX5_takeRow_42 ?_
    refine lv_if_ne (tgt := 68) hx hb dX5_takeRow_45 (by decide) (fun c_45 => ?_) (fun c_45 => ?_)
    · replace hf := ds_f c_45 hf
      exact h1 (J_68 o_fault o_place p1_wide p1_high p1_ones p1_twos _ hf hG _ _ hP hD hS _ (lv_sub hl [0, 1, 2, 3] rfl))
    · replace hf := ds_t c_45 hf
      refine lv_iload_n hx hb dX5_takeRow_48 rfl (lv_at hl 3 rfl) ?_
      refine lv_iload_n hx hb dX5_takeRow_49 rfl (lv_at hl 2 rfl) ?_
      refine lv_isub hx hb dX5_takeRow_50 ?_
      refine lv_aload_n hx hb dX5_takeRow_51 rfl (lv_at hl 1 rfl) ?_
      refine va_getN (D := (dC, dI)) (ci := 5) (v := .int p1_wide) (C := RX6) (T := TX6) (N := 5) hx hb hts (fun w h => List.mem_cons_of_mem _ (kc_X6 w h)) hown hK hP 1 rfl rfl 0 (by decide) (va_Nw.use rfl (hE.1 _ kw_351)) (fun _ h9 => h9) rfl dX5_takeRow_52 ?_
      refine lv_icmp_eq (tgt := 68) hx hb dX5_takeRow_55 (by decide) (fun c_55 => ?_) (fun c_55 => ?_)
      · replace hf := ds_t c_55 hf
        exact h1 (J_68 o_fault o_place p1_wide p1_high p1_ones p1_twos _ hf hG _ _ hP hD hS _ (lv_sub hl [0, 1, 2, 3] rfl))
      · replace hf := ds_f c_55 hf
        refine lv_aload_n hx hb dX5_takeRow_58 rfl (lv_at hl 0 rfl) ?_
        refine lv_iconst (v := 2) hx hb dX5_takeRow_59 (by decide) ?_
        refine va_put (D := (dC, dI)) (ci := 4) (v := .int (2 : Int32)) (ty := tyX5 2) (C := RX5) (T := TX5) (N := 5) hx hb hts (fun w h => List.mem_cons_of_mem _ (kc_X5 w h)) tyX5 tyX5_ok nmX5 hown hK hP hD hS 0 rfl rfl 2 (by decide) (hg kw_301) (fun _ h9 => h9) rfl (by decide +kernel) rfl rfl (Nat.le_of_ble_eq_true rfl) dX5_takeRow_60 (fun H locs hP hD hS => ?_)
        have hP : va_P (dC, dI) vwCl [(h_o, .inr (4, [.ref h_o_bytes, .int o_length, .int (2 : Int32), .int o_place, .int o_rows])), (h_p1, .inr (5, [.int p1_wide, .int p1_high, .int p1_hex, .long p1_ones, .long p1_twos])), (h_o_bytes, .inl (ca 0, 200, .inl o_bytes_r))] H := hP
        have hD : va_D A [(h_o, .inr (4, [.ref h_o_bytes, .int o_length, .int (2 : Int32), .int o_place, .int o_rows])), (h_p1, .inr (5, [.int p1_wide, .int p1_high, .int p1_hex, .long p1_ones, .long p1_twos])), (h_o_bytes, .inl (ca 0, 200, .inl o_bytes_r))] := hD
        refine lv_aload_n hx hb dX5_takeRow_63 rfl (lv_at hl 0 rfl) ?_
        refine lv_iload_n hx hb dX5_takeRow_64 rfl (lv_at hl 2 rfl) ?_
        refine va_put (D := (dC, dI)) (ci := 4) (v := .int p2) (ty := tyX5 3) (C := RX5) (T := TX5) (N := 5) hx hb hts (fun w h => List.mem_cons_of_mem _ (kc_X5 w h)) tyX5 tyX5_ok nmX5 hown hK hP hD hS 0 rfl rfl 3 (by decide) (hg kw_302) (fun _ h9 => h9) rfl (by decide +kernel) rfl rfl (Nat.le_of_ble_eq_true rfl) dX5_takeRow_65 (fun H locs hP hD hS => ?_)
        have hP : va_P (dC, dI) vwCl [(h_o, .inr (4, [.ref h_o_bytes, .int o_length, .int (2 : Int32), .int p2, .int o_rows])), (h_p1, .inr (5, [.int p1_wide, .int p1_high, .int p1_hex, .long p1_ones, .long p1_twos])), (h_o_bytes, .inl (ca 0, 200, .inl o_bytes_r))] H := hP
        have hD : va_D A [(h_o, .inr (4, [.ref h_o_bytes, .int o_length, .int (2 : Int32), .int p2, .int o_rows])), (h_p1, .inr (5, [.int p1_wide, .int p1_high, .int p1_hex, .long p1_ones, .long p1_twos])), (h_o_bytes, .inl (ca 0, 200, .inl o_bytes_r))] := hD
        exact h1 (J_68 (2 : Int32) p2 p1_wide p1_high p1_ones p1_twos _ hf hG _ _ hP hD hS _ (lv_sub hl [0, 1, 2, 3] rfl))
  have J_15 : ∀ (o_fault : Int32) (o_place : Int32) (p1_wide : Int32) (p1_high : Int32) (p1_ones : Int64) (p1_twos : Int64) (rr : Int32 × Int32 × Int32 × Int32 × Int64 × Int64) (hf : fX5_takeRow_15 o_length o_fault o_place o_rows p1_wide p1_high p1_ones p1_twos o_bytes_r p2 p3 = some rr) (hG : G0 rr) (H : Heap) (locs : List Loc) (hP : va_P (dC, dI) vwCl [(h_o, .inr (4, [.ref h_o_bytes, .int o_length, .int o_fault, .int o_place, .int o_rows])), (h_p1, .inr (5, [.int p1_wide, .int p1_high, .int p1_hex, .long p1_ones, .long p1_twos])), (h_o_bytes, .inl (ca 0, 200, .inl o_bytes_r))] H) (hD : va_D A [(h_o, .inr (4, [.ref h_o_bytes, .int o_length, .int o_fault, .int o_place, .int o_rows])), (h_p1, .inr (5, [.int p1_wide, .int p1_high, .int p1_hex, .long p1_ones, .long p1_twos])), (h_o_bytes, .inl (ca 0, 200, .inl o_bytes_r))]) (hS : va_S A s.heap H locs) (ls : Array Slot) (hl : lv_has ls 5 [(0, .ref h_o), (1, .ref h_p1), (2, .int p2), (3, .int p3)]), WW H locs (F0 m 15 ls []) := by
    intro o_fault o_place p1_wide p1_high p1_ones p1_twos rr hf hG H locs hP hD hS ls hl
    refine h2 ?_
    unfold fX5_takeRow_15 at hf
    refine lv_aload_n hx hb dX5_takeRow_15 rfl (lv_at hl 0 rfl) ?_
    refine va_get (D := (dC, dI)) (ci := 4) (v := .int o_fault) (C := RX5) (T := TX5) (N := 5) hx hb hts (fun w h => List.mem_cons_of_mem _ (kc_X5 w h)) hown hK hP 0 rfl rfl 2 (by decide) (hg kw_301) (fun _ h9 => h9) rfl dX5_takeRow_16 ?_
    refine lv_if_ne (tgt := 41) hx hb dX5_takeRow_19 (by decide) (fun c_19 => ?_) (fun c_19 => ?_)
    · replace hf := ds_f c_19 hf
      exact h1 (J_41 o_fault o_place p1_wide p1_high p1_ones p1_twos _ hf hG _ _ hP hD hS _ (lv_sub hl [0, 1, 2, 3] rfl))
    · replace hf := ds_t c_19 hf
      refine lv_aload_n hx hb dX5_takeRow_22 rfl (lv_at hl 0 rfl) ?_
      refine va_get (D := (dC, dI)) (ci := 4) (v := .int o_rows) (C := RX5) (T := TX5) (N := 5) hx hb hts (fun w h => List.mem_cons_of_mem _ (kc_X5 w h)) hown hK hP 0 rfl rfl 4 (by decide) (hg kw_344) (fun _ h9 => h9) rfl dX5_takeRow_23 ?_
      refine lv_bipush (v := 8) hx hb dX5_takeRow_26 (by decide) ?_
      refine lv_icmp_le (tgt := 41) hx hb dX5_takeRow_28 (by decide) (fun c_28 => ?_) (fun c_28 => ?_)
      · replace hf := ds_t c_28 hf
        exact h1 (J_41 o_fault o_place p1_wide p1_high p1_ones p1_twos _ hf hG _ _ hP hD hS _ (lv_sub hl [0, 1, 2, 3] rfl))
      · replace hf := ds_f c_28 hf
        refine lv_aload_n hx hb dX5_takeRow_31 rfl (lv_at hl 0 rfl) ?_
        refine lv_iconst (v := 3) hx hb dX5_takeRow_32 (by decide) ?_
        refine va_put (D := (dC, dI)) (ci := 4) (v := .int (3 : Int32)) (ty := tyX5 2) (C := RX5) (T := TX5) (N := 5) hx hb hts (fun w h => List.mem_cons_of_mem _ (kc_X5 w h)) tyX5 tyX5_ok nmX5 hown hK hP hD hS 0 rfl rfl 2 (by decide) (hg kw_301) (fun _ h9 => h9) rfl (by decide +kernel) rfl rfl (Nat.le_of_ble_eq_true rfl) dX5_takeRow_33 (fun H locs hP hD hS => ?_)
        have hP : va_P (dC, dI) vwCl [(h_o, .inr (4, [.ref h_o_bytes, .int o_length, .int (3 : Int32), .int o_place, .int o_rows])), (h_p1, .inr (5, [.int p1_wide, .int p1_high, .int p1_hex, .long p1_ones, .long p1_twos])), (h_o_bytes, .inl (ca 0, 200, .inl o_bytes_r))] H := hP
        have hD : va_D A [(h_o, .inr (4, [.ref h_o_bytes, .int o_length, .int (3 : Int32), .int o_place, .int o_rows])), (h_p1, .inr (5, [.int p1_wide, .int p1_high, .int p1_hex, .long p1_ones, .long p1_twos])), (h_o_bytes, .inl (ca 0, 200, .inl o_bytes_r))] := hD
        refine lv_aload_n hx hb dX5_takeRow_36 rfl (lv_at hl 0 rfl) ?_
        refine lv_iload_n hx hb dX5_takeRow_37 rfl (lv_at hl 2 rfl) ?_
        refine va_put (D := (dC, dI)) (ci := 4) (v := .int p2) (ty := tyX5 3) (C := RX5) (T := TX5) (N := 5) hx hb hts (fun w h => List.mem_cons_of_mem _ (kc_X5 w h)) tyX5 tyX5_ok nmX5 hown hK hP hD hS 0 rfl rfl 3 (by decide) (hg kw_302) (fun _ h9 => h9) rfl (by decide +kernel) rfl rfl (Nat.le_of_ble_eq_true rfl) dX5_takeRow_38 (fun H locs hP hD hS => ?_)
        have hP : va_P (dC, dI) vwCl [(h_o, .inr (4, [.ref h_o_bytes, .int o_length, .int (3 : Int32), .int p2, .int o_rows])), (h_p1, .inr (5, [.int p1_wide, .int p1_high, .int p1_hex, .long p1_ones, .long p1_twos])), (h_o_bytes, .inl (ca 0, 200, .inl o_bytes_r))] H := hP
        have hD : va_D A [(h_o, .inr (4, [.ref h_o_bytes, .int o_length, .int (3 : Int32), .int p2, .int o_rows])), (h_p1, .inr (5, [.int p1_wide, .int p1_high, .int p1_hex, .long p1_ones, .long p1_twos])), (h_o_bytes, .inl (ca 0, 200, .inl o_bytes_r))] := hD
        exact h1 (J_41 (3 : Int32) p2 p1_wide p1_high p1_ones p1_twos _ hf hG _ _ hP hD hS _ (lv_sub hl [0, 1, 2, 3] rfl))
  unfold fX5_takeRow at hf
  refine lv_aload_n hx hb dX5_takeRow_0 rfl (lv_at hl 0 rfl) ?_
  refine va_get (D := (dC, dI)) (ci := 4) (v := .int o_rows) (C := RX5) (T := TX5) (N := 5) hx hb hts (fun w h => List.mem_cons_of_mem _ (kc_X5 w h)) hown hK hP 0 rfl rfl 4 (by decide) (hg kw_344) (fun _ h9 => h9) rfl dX5_takeRow_1 ?_
  refine lv_iconst (v := 1) hx hb dX5_takeRow_4 (by decide) ?_
  refine lv_icmp_ne (tgt := 15) hx hb dX5_takeRow_5 (by decide) (fun c_5 => ?_) (fun c_5 => ?_)
  · replace hf := ds_f c_5 hf
    exact h1 (J_15 o_fault o_place p1_wide p1_high p1_ones p1_twos _ hf hG _ _ hP hD hS _ (lv_sub hl [0, 1, 2, 3] rfl))
  · replace hf := ds_t c_5 hf
    refine lv_aload_n hx hb dX5_takeRow_8 rfl (lv_at hl 1 rfl) ?_
    refine lv_iload_n hx hb dX5_takeRow_9 rfl (lv_at hl 3 rfl) ?_
    refine lv_iload_n hx hb dX5_takeRow_10 rfl (lv_at hl 2 rfl) ?_
    refine lv_isub hx hb dX5_takeRow_11 ?_
    refine va_putN (D := (dC, dI)) (ci := 5) (v := .int (p3 - p2)) (ty := tyX6 0) (C := RX6) (T := TX6) (N := 5) hx hb hts (fun w h => List.mem_cons_of_mem _ (kc_X6 w h)) tyX6 tyX6_ok nmX6 hown hK hP hD hS 1 rfl rfl 0 (by decide) (va_Nw.use rfl (hE.1 _ kw_351)) (fun _ h9 => h9) rfl (by decide +kernel) rfl rfl (Nat.le_of_ble_eq_true rfl) dX5_takeRow_12 (fun H locs hP hD hS => ?_)
    have hP : va_P (dC, dI) vwCl [(h_o, .inr (4, [.ref h_o_bytes, .int o_length, .int o_fault, .int o_place, .int o_rows])), (h_p1, .inr (5, [.int (p3 - p2), .int p1_high, .int p1_hex, .long p1_ones, .long p1_twos])), (h_o_bytes, .inl (ca 0, 200, .inl o_bytes_r))] H := hP
    have hD : va_D A [(h_o, .inr (4, [.ref h_o_bytes, .int o_length, .int o_fault, .int o_place, .int o_rows])), (h_p1, .inr (5, [.int (p3 - p2), .int p1_high, .int p1_hex, .long p1_ones, .long p1_twos])), (h_o_bytes, .inl (ca 0, 200, .inl o_bytes_r))] := hD
    exact h1 (J_15 o_fault o_place (p3 - p2) p1_high p1_ones p1_twos _ hf hG _ _ hP hD hS _ (lv_sub hl [0, 1, 2, 3] rfl))
theorem dX5_takesWord_0 : decode cX5_takesWord 0 = .ok (.aload_n 0, 1) := by decide +kernel
theorem dX5_takesWord_1 : decode cX5_takesWord 1 = .ok (.ldc 63, 2) := by decide +kernel
theorem dX5_takesWord_3 : decode cX5_takesWord 3 = .ok (.iload_n 2, 1) := by decide +kernel
theorem dX5_takesWord_4 : decode cX5_takesWord 4 = .ok (.iload_n 3, 1) := by decide +kernel
theorem dX5_takesWord_5 : decode cX5_takesWord 5 = .ok (.invokevirtual 65, 3) := by decide +kernel
theorem dX5_takesWord_8 : decode cX5_takesWord 8 = .ok (.istore 4, 2) := by decide +kernel
theorem dX5_takesWord_10 : decode cX5_takesWord 10 = .ok (.iload 4, 2) := by decide +kernel
theorem dX5_takesWord_12 : decode cX5_takesWord 12 = .ok (.ifCond .ne 14, 3) := by decide +kernel
theorem dX5_takesWord_15 : decode cX5_takesWord 15 = .ok (.aload_n 0, 1) := by decide +kernel
theorem dX5_takesWord_16 : decode cX5_takesWord 16 = .ok (.ldc 69, 2) := by decide +kernel
theorem dX5_takesWord_18 : decode cX5_takesWord 18 = .ok (.iload_n 2, 1) := by decide +kernel
theorem dX5_takesWord_19 : decode cX5_takesWord 19 = .ok (.iload_n 3, 1) := by decide +kernel
theorem dX5_takesWord_20 : decode cX5_takesWord 20 = .ok (.invokevirtual 65, 3) := by decide +kernel
theorem dX5_takesWord_23 : decode cX5_takesWord 23 = .ok (.ifCond .eq 11, 3) := by decide +kernel
theorem dX5_takesWord_26 : decode cX5_takesWord 26 = .ok (.aload_n 1, 1) := by decide +kernel
theorem dX5_takesWord_27 : decode cX5_takesWord 27 = .ok (.iload 4, 2) := by decide +kernel
theorem dX5_takesWord_29 : decode cX5_takesWord 29 = .ok (.putfield 71, 3) := by decide +kernel
theorem dX5_takesWord_32 : decode cX5_takesWord 32 = .ok (.iconst 1, 1) := by decide +kernel
theorem dX5_takesWord_33 : decode cX5_takesWord 33 = .ok (.ireturn, 1) := by decide +kernel
theorem dX5_takesWord_34 : decode cX5_takesWord 34 = .ok (.aload_n 0, 1) := by decide +kernel
theorem dX5_takesWord_35 : decode cX5_takesWord 35 = .ok (.iload_n 2, 1) := by decide +kernel
theorem dX5_takesWord_36 : decode cX5_takesWord 36 = .ok (.iload_n 3, 1) := by decide +kernel
theorem dX5_takesWord_37 : decode cX5_takesWord 37 = .ok (.invokevirtual 74, 3) := by decide +kernel
theorem dX5_takesWord_40 : decode cX5_takesWord 40 = .ok (.ifCond .ne 5, 3) := by decide +kernel
theorem dX5_takesWord_43 : decode cX5_takesWord 43 = .ok (.iconst 0, 1) := by decide +kernel
theorem dX5_takesWord_44 : decode cX5_takesWord 44 = .ok (.ireturn, 1) := by decide +kernel
theorem dX5_takesWord_45 : decode cX5_takesWord 45 = .ok (.aload_n 0, 1) := by decide +kernel
theorem dX5_takesWord_46 : decode cX5_takesWord 46 = .ok (.dup, 1) := by decide +kernel
theorem dX5_takesWord_47 : decode cX5_takesWord 47 = .ok (.getfield 35, 3) := by decide +kernel
theorem dX5_takesWord_50 : decode cX5_takesWord 50 = .ok (.iconst 1, 1) := by decide +kernel
theorem dX5_takesWord_51 : decode cX5_takesWord 51 = .ok (.iadd, 1) := by decide +kernel
theorem dX5_takesWord_52 : decode cX5_takesWord 52 = .ok (.putfield 35, 3) := by decide +kernel
theorem dX5_takesWord_55 : decode cX5_takesWord 55 = .ok (.aload_n 0, 1) := by decide +kernel
theorem dX5_takesWord_56 : decode cX5_takesWord 56 = .ok (.aload_n 1, 1) := by decide +kernel
theorem dX5_takesWord_57 : decode cX5_takesWord 57 = .ok (.iload_n 2, 1) := by decide +kernel
theorem dX5_takesWord_58 : decode cX5_takesWord 58 = .ok (.iload_n 3, 1) := by decide +kernel
theorem dX5_takesWord_59 : decode cX5_takesWord 59 = .ok (.invokevirtual 78, 3) := by decide +kernel
theorem dX5_takesWord_62 : decode cX5_takesWord 62 = .ok (.iconst 1, 1) := by decide +kernel
theorem dX5_takesWord_63 : decode cX5_takesWord 63 = .ok (.ireturn, 1) := by decide +kernel
def fX5_takesWord_26 (o_fault : Int32) (o_place : Int32) (o_rows : Int32) (p1_wide : Int32) (p1_high : Int32) (p1_ones : Int64) (p1_twos : Int64) (v4 : Int32) : Option (Int32 × Int32 × Int32 × Int32 × Int32 × Int32 × Int32 × Int64 × Int64) :=
  if v4 = 0 ∨ v4 = 1 then some ((1 : Int32), o_fault, o_place, o_rows, p1_wide, p1_high, v4, p1_ones, p1_twos) else none
def fX5_takesWord (o_length : Int32) (o_fault : Int32) (o_place : Int32) (o_rows : Int32) (o_bytes_r : Nat → Int32) (p1_wide : Int32) (p1_high : Int32) (p1_hex : Int32) (p1_ones : Int64) (p1_twos : Int64) (p2 : Int32) (p3 : Int32) : Option (Int32 × Int32 × Int32 × Int32 × Int32 × Int32 × Int32 × Int64 × Int64) :=
  Option.bind (fX5_isWord_ts0 o_length o_bytes_r p2 p3) fun q5 => if q5 = 0 then Option.bind (fX5_isWord_ts1 o_length o_bytes_r p2 p3) fun q20 => if q20 = 0 then Option.bind (fX5_isRow o_length o_bytes_r p2 p3) fun q37 => if q37 = 0 then some ((0 : Int32), o_fault, o_place, o_rows, p1_wide, p1_high, p1_hex, p1_ones, p1_twos) else Option.bind (fX5_takeRow o_length o_fault o_place (o_rows + (1 : Int32)) p1_wide p1_high p1_ones p1_twos o_bytes_r p2 p3) fun q59 => some ((1 : Int32), q59.1, q59.2.1, (o_rows + (1 : Int32)), q59.2.2.1, q59.2.2.2.1, p1_hex, q59.2.2.2.2.1, q59.2.2.2.2.2) else fX5_takesWord_26 o_fault o_place o_rows p1_wide p1_high p1_ones p1_twos q5 else fX5_takesWord_26 o_fault o_place o_rows p1_wide p1_high p1_ones p1_twos q5
set_option maxHeartbeats 4000000 in
set_option maxRecDepth 100000 in
theorem c_X5_takesWord (l : Launch) (dC : Nat → ClassId) (dI : Nat → Nat → Nat) (ca : Nat → ClassId) (sa : Nat → Nat) (h_o : Nat) (h_o_bytes : Nat) (h_p1 : Nat) (sz : Nat) (o_length : Int32) (o_fault : Int32) (o_place : Int32) (o_rows : Int32) (o_bytes_r : Nat → Int32) (p1_wide : Int32) (p1_high : Int32) (p1_hex : Int32) (p1_ones : Int64) (p1_twos : Int64) (p2 : Int32) (p3 : Int32) (res : Int32 × Int32 × Int32 × Int32 × Int32 × Int32 × Int32 × Int64 × Int64) (hf : fX5_takesWord o_length o_fault o_place o_rows o_bytes_r p1_wide p1_high p1_hex p1_ones p1_twos p2 p3 = some res) : Met l yX5_takesWord (Cond.code yX5_takesWord cX5_takesWord 5 (some .boolean) :: ds_gw) { frames := 5, cells := 0, slots := 0, locals := 109 } (va_Pc [.ref h_o, .ref h_p1, .int p2, .int p3] (ds_Pre dC dI ca sa [(h_o, .inr (4, [.ref h_o_bytes, .int o_length, .int o_fault, .int o_place, .int o_rows])), (h_o_bytes, .inl (ca 0, 200, .inl o_bytes_r)), (h_p1, .inr (5, [.int p1_wide, .int p1_high, .int p1_hex, .long p1_ones, .long p1_twos]))] sz)) (va_Qi (fun r (_ : Unit) => r = res.1) (ds_B dC dI (va_A [(h_o, .inr (4, [.ref h_o_bytes, .int o_length, .int o_fault, .int o_place, .int o_rows])), (h_o_bytes, .inl (ca 0, 200, .inl o_bytes_r)), (h_p1, .inr (5, [.int p1_wide, .int p1_high, .int p1_hex, .long p1_ones, .long p1_twos]))] sz) [(h_o, .inr (4, [.ref h_o_bytes, .int o_length, .int res.2.1, .int res.2.2.1, .int res.2.2.2.1])), (h_o_bytes, .inl (ca 0, 200, .inl o_bytes_r)), (h_p1, .inr (5, [.int res.2.2.2.2.1, .int res.2.2.2.2.2.1, .int res.2.2.2.2.2.2.1, .long res.2.2.2.2.2.2.2.1, .long res.2.2.2.2.2.2.2.2]))]) (va_A [(h_o, .inr (4, [.ref h_o_bytes, .int o_length, .int o_fault, .int o_place, .int o_rows])), (h_o_bytes, .inl (ca 0, 200, .inl o_bytes_r)), (h_p1, .inr (5, [.int p1_wide, .int p1_high, .int p1_hex, .long p1_ones, .long p1_twos]))] sz)) 0 0 (va_A [(h_o, .inr (4, [.ref h_o_bytes, .int o_length, .int o_fault, .int o_place, .int o_rows])), (h_o_bytes, .inl (ca 0, 200, .inl o_bytes_r)), (h_p1, .inr (5, [.int p1_wide, .int p1_high, .int p1_hex, .long p1_ones, .long p1_twos]))] sz) := by
  refine Met.ofW (cc := cX5_takesWord) (maxL := 5) (ret := (some .boolean)) (by decide) rfl ?_
  intro p e s m args below meth c s₁ B hml hv
  obtain ⟨rfl, hsz, hP, hK, hD0, hE⟩ := hv
  have hx := B.exec
  have hb := B.bytes
  have hr := B.returns
  have hts := atoms_spec (ws := Cond.code yX5_takesWord cX5_takesWord 5 (some .boolean) :: ds_gw) B.pre
  have hg : ∀ {w : Cond}, w ∈ ds_gw → w.before _ s = true := fun h => hts _ (List.mem_cons_of_mem _ h)
  have hown : s.vm.findClass RX5 = some m.cls := findClass_of_methodNamed B.named
  have hlocks := B.notSynchronized
  subst hsz
  have hD := hD0.self (sz := s.heap.size)
  generalize hAe : va_A [(h_o, .inr (4, [.ref h_o_bytes, .int o_length, .int o_fault, .int o_place, .int o_rows])), (h_o_bytes, .inl (ca 0, 200, .inl o_bytes_r)), (h_p1, .inr (5, [.int p1_wide, .int p1_high, .int p1_hex, .long p1_ones, .long p1_twos]))] s.heap.size = A at hD hE ⊢
  have hA : ∀ q : Nat, s.heap.size ≤ q → A q := fun q h => by rw [← hAe]; exact Or.inr h
  have hS : va_S A s.heap s.heap [] := va_S.rf
  have hl := lv_entry ([.ref h_o, .ref h_p1, .int p2, .int p3]) (n := 5) (Nat.le_of_ble_eq_true rfl)
  rw [lg_entry_eq]
  generalize (lg_sl ([.ref h_o, .ref h_p1, .int p2, .int p3]) ++ List.replicate (5 - (lg_sl ([.ref h_o, .ref h_p1, .int p2, .int p3])).length) Slot.unset).toArray = ls at hl ⊢
  have hl : lv_has ls 5 [(0, .ref h_o), (1, .ref h_p1), (2, .int p2), (3, .int p3)] := hl
  obtain ⟨G0, eG0⟩ : ∃ G : (Int32 × Int32 × Int32 × Int32 × Int32 × Int32 × Int32 × Int64 × Int64) → Prop, G = (fun r => r = res) := ⟨_, rfl⟩
  obtain ⟨rr, hrr⟩ : ∃ z, z = res := ⟨_, rfl⟩
  rw [← hrr] at hf
  have hG : G0 rr := by subst eG0; exact hrr
  refine ds_cap (fun WW h1 h2 => ?_)
  have J_26 : ∀ (v4 : Int32) (o_fault : Int32) (o_place : Int32) (o_rows : Int32) (p1_wide : Int32) (p1_high : Int32) (p1_hex : Int32) (p1_ones : Int64) (p1_twos : Int64) (rr : Int32 × Int32 × Int32 × Int32 × Int32 × Int32 × Int32 × Int64 × Int64) (hf : fX5_takesWord_26 o_fault o_place o_rows p1_wide p1_high p1_ones p1_twos v4 = some rr) (hG : G0 rr) (H : Heap) (locs : List Loc) (hP : va_P (dC, dI) vwCl [(h_o, .inr (4, [.ref h_o_bytes, .int o_length, .int o_fault, .int o_place, .int o_rows])), (h_o_bytes, .inl (ca 0, 200, .inl o_bytes_r)), (h_p1, .inr (5, [.int p1_wide, .int p1_high, .int p1_hex, .long p1_ones, .long p1_twos]))] H) (hD : va_D A [(h_o, .inr (4, [.ref h_o_bytes, .int o_length, .int o_fault, .int o_place, .int o_rows])), (h_o_bytes, .inl (ca 0, 200, .inl o_bytes_r)), (h_p1, .inr (5, [.int p1_wide, .int p1_high, .int p1_hex, .long p1_ones, .long p1_twos]))]) (hS : va_S A s.heap H locs) (ls : Array Slot) (hl : lv_has ls 5 [(1, .ref h_p1), (4, .int v4)]), WW H locs (F0 m 26 ls []) := by
    intro v4 o_fault o_place o_rows p1_wide p1_high p1_hex p1_ones p1_twos rr hf hG H locs hP hD hS ls hl
    refine h2 ?_
    unfold fX5_takesWord_26 at hf
    refine lv_aload_n hx hb dX5_takesWord_26 rfl (lv_at hl 0 rfl) ?_
    refine lv_iload hx hb dX5_takesWord_27 (lv_at hl 1 rfl) ?_
    obtain ⟨z_29, hf⟩ := ds_c hf
    refine va_putN (D := (dC, dI)) (ci := 5) (v := .int v4) (ty := tyX6 2) (C := RX6) (T := TX6) (N := 5) hx hb hts (fun w h => List.mem_cons_of_mem _ (kc_X6 w h)) tyX6 tyX6_ok nmX6 hown hK hP hD hS 2 rfl rfl 2 (by decide) (va_Nw.use rfl (hE.1 _ kw_352)) (fun _ h9 => h9) rfl (by decide +kernel) (ds_zn z_29) (ds_zf z_29) (Nat.le_of_ble_eq_true rfl) dX5_takesWord_29 (fun H locs hP hD hS => ?_)
    have hP : va_P (dC, dI) vwCl [(h_o, .inr (4, [.ref h_o_bytes, .int o_length, .int o_fault, .int o_place, .int o_rows])), (h_o_bytes, .inl (ca 0, 200, .inl o_bytes_r)), (h_p1, .inr (5, [.int p1_wide, .int p1_high, .int v4, .long p1_ones, .long p1_twos]))] H := hP
    have hD : va_D A [(h_o, .inr (4, [.ref h_o_bytes, .int o_length, .int o_fault, .int o_place, .int o_rows])), (h_o_bytes, .inl (ca 0, 200, .inl o_bytes_r)), (h_p1, .inr (5, [.int p1_wide, .int p1_high, .int v4, .long p1_ones, .long p1_twos]))] := hD
    refine lv_iconst (v := 1) hx hb dX5_takesWord_32 (by decide) ?_
    have hf := Option.some.inj hf
    subst hf
    rw [eG0] at hG
    have hG : _ = res := hG
    subst hG
    exact W.zret (v := (1 : Int32)) (ty := .boolean) hx hb hr rfl (fun t ht hW => ⟨⟨(1 : Int32), (), rfl, rfl, by rw [ht]; exact hP, hD⟩, hS.F ht⟩) hS.2.2 dX5_takesWord_33
  unfold fX5_takesWord at hf
  refine lv_aload_n hx hb dX5_takesWord_0 rfl (lv_at hl 0 rfl) ?_
  refine va_ldcS (own := RX5) hx hb hown hE.2.2.2.2.2.1.1 dX5_takesWord_1 ?_
  refine lv_iload_n hx hb dX5_takesWord_3 rfl (lv_at hl 2 rfl) ?_
  refine lv_iload_n hx hb dX5_takesWord_4 rfl (lv_at hl 3 rfl) ?_
  obtain ⟨q5, hq5, hf⟩ := ds_ob hf
  refine ds_calli (wr := [(h_p1, .inr (5, [.int p1_wide, .int p1_high, .int p1_hex, .long p1_ones, .long p1_twos]))]) (va_runV (As := [.ref (sa 3), .int p2, .int p3]) (rest := []) ⟨hx, hb, hml, hown, hts⟩ (c_X5_isWord_ts0 l dC dI ca sa h_o h_o_bytes s.heap.size o_length o_fault o_place o_rows o_bytes_r p2 p3 q5 hq5) (cwV 3 hts (ds_gV kw_353 kw_354 kw_355 kw_313 kw_356) rfl rfl rfl (by decide +kernel) ⟨Nat.le_of_ble_eq_true rfl, Nat.le_of_ble_eq_true rfl⟩) ⟨ds_blind, va_recv hK hP (ci := 4) (q0 := 0) rfl rfl, ds_at hP hD hK hE hS hA [0, 1] rfl rfl _⟩ rfl rfl hl.1 rfl (lv_room (Nat.le_of_ble_eq_true rfl)) dX5_takesWord_5 ⟨Nat.zero_le _, Nat.zero_le _⟩) hP hD hS hA [0, 1] [2] rfl rfl rfl (by decide) (fun H locs hP hD hS => ?_)
  have hP : va_P (dC, dI) vwCl [(h_p1, .inr (5, [.int p1_wide, .int p1_high, .int p1_hex, .long p1_ones, .long p1_twos])), (h_o, .inr (4, [.ref h_o_bytes, .int o_length, .int o_fault, .int o_place, .int o_rows])), (h_o_bytes, .inl (ca 0, 200, .inl o_bytes_r))] H := hP
  have hD : va_D A [(h_p1, .inr (5, [.int p1_wide, .int p1_high, .int p1_hex, .long p1_ones, .long p1_twos])), (h_o, .inr (4, [.ref h_o_bytes, .int o_length, .int o_fault, .int o_place, .int o_rows])), (h_o_bytes, .inl (ca 0, 200, .inl o_bytes_r))] := hD
  refine lv_istore (lv' := [(4, .int q5), (0, .ref h_o), (1, .ref h_p1), (2, .int p2), (3, .int p3)]) hx hb dX5_takesWord_8 hl (by decide) rfl (fun ls hl => ?_)
  refine lv_iload hx hb dX5_takesWord_10 (lv_at hl 0 rfl) ?_
  refine lv_if_ne (tgt := 26) hx hb dX5_takesWord_12 (by decide) (fun c_12 => ?_) (fun c_12 => ?_)
  · replace hf := ds_f c_12 hf
    exact h1 (J_26 q5 o_fault o_place o_rows p1_wide p1_high p1_hex p1_ones p1_twos _ hf hG _ _ (hP.sub [1, 2, 0] rfl) (hD.sub [1, 2, 0] rfl rfl) hS _ (lv_sub hl [2, 0] rfl))
  · replace hf := ds_t c_12 hf
    refine lv_aload_n hx hb dX5_takesWord_15 rfl (lv_at hl 1 rfl) ?_
    refine va_ldcS (own := RX5) hx hb hown hE.2.2.2.2.2.1.2 dX5_takesWord_16 ?_
    refine lv_iload_n hx hb dX5_takesWord_18 rfl (lv_at hl 3 rfl) ?_
    refine lv_iload_n hx hb dX5_takesWord_19 rfl (lv_at hl 4 rfl) ?_
    obtain ⟨q20, hq20, hf⟩ := ds_ob hf
    refine ds_calli (wr := [(h_p1, .inr (5, [.int p1_wide, .int p1_high, .int p1_hex, .long p1_ones, .long p1_twos]))]) (va_runV (As := [.ref (sa 4), .int p2, .int p3]) (rest := []) ⟨hx, hb, hml, hown, hts⟩ (c_X5_isWord_ts1 l dC dI ca sa h_o h_o_bytes H.size o_length o_fault o_place o_rows o_bytes_r p2 p3 q20 hq20) (cwV 3 hts (ds_gV kw_353 kw_354 kw_355 kw_313 kw_356) rfl rfl rfl (by decide +kernel) ⟨Nat.le_of_ble_eq_true rfl, Nat.le_of_ble_eq_true rfl⟩) ⟨ds_blind, va_recv hK hP (ci := 4) (q0 := 1) rfl rfl, ds_at hP hD hK hE hS hA [1, 2] rfl rfl _⟩ rfl rfl hl.1 rfl (lv_room (Nat.le_of_ble_eq_true rfl)) dX5_takesWord_20 ⟨Nat.zero_le _, Nat.zero_le _⟩) hP hD hS hA [1, 2] [0] rfl rfl rfl (by decide) (fun H locs hP hD hS => ?_)
    have hP : va_P (dC, dI) vwCl [(h_p1, .inr (5, [.int p1_wide, .int p1_high, .int p1_hex, .long p1_ones, .long p1_twos])), (h_o, .inr (4, [.ref h_o_bytes, .int o_length, .int o_fault, .int o_place, .int o_rows])), (h_o_bytes, .inl (ca 0, 200, .inl o_bytes_r))] H := hP
    have hD : va_D A [(h_p1, .inr (5, [.int p1_wide, .int p1_high, .int p1_hex, .long p1_ones, .long p1_twos])), (h_o, .inr (4, [.ref h_o_bytes, .int o_length, .int o_fault, .int o_place, .int o_rows])), (h_o_bytes, .inl (ca 0, 200, .inl o_bytes_r))] := hD
    refine lv_if_eq (tgt := 34) hx hb dX5_takesWord_23 (by decide) (fun c_23 => ?_) (fun c_23 => ?_)
    · replace hf := ds_t c_23 hf
      refine lv_aload_n hx hb dX5_takesWord_34 rfl (lv_at hl 1 rfl) ?_
      refine lv_iload_n hx hb dX5_takesWord_35 rfl (lv_at hl 3 rfl) ?_
      refine lv_iload_n hx hb dX5_takesWord_36 rfl (lv_at hl 4 rfl) ?_
      obtain ⟨q37, hq37, hf⟩ := ds_ob hf
      refine ds_calli (wr := [(h_p1, .inr (5, [.int p1_wide, .int p1_high, .int p1_hex, .long p1_ones, .long p1_twos]))]) (va_runV (As := [.int p2, .int p3]) (rest := []) ⟨hx, hb, hml, hown, hts⟩ (c_X5_isRow l dC dI ca sa h_o h_o_bytes H.size o_length o_fault o_place o_rows o_bytes_r p2 p3 q37 hq37) (cwV 2 hts (ds_gV kw_357 kw_358 kw_359 kw_313 kw_360) rfl rfl rfl (by decide +kernel) ⟨Nat.le_of_ble_eq_true rfl, Nat.le_of_ble_eq_true rfl⟩) ⟨ds_blind, va_recv hK hP (ci := 4) (q0 := 1) rfl rfl, ds_at hP hD hK hE hS hA [1, 2] rfl rfl _⟩ rfl rfl hl.1 rfl (lv_room (Nat.le_of_ble_eq_true rfl)) dX5_takesWord_37 ⟨Nat.zero_le _, Nat.zero_le _⟩) hP hD hS hA [1, 2] [0] rfl rfl rfl (by decide) (fun H locs hP hD hS => ?_)
      have hP : va_P (dC, dI) vwCl [(h_p1, .inr (5, [.int p1_wide, .int p1_high, .int p1_hex, .long p1_ones, .long p1_twos])), (h_o, .inr (4, [.ref h_o_bytes, .int o_length, .int o_fault, .int o_place, .int o_rows])), (h_o_bytes, .inl (ca 0, 200, .inl o_bytes_r))] H := hP
      have hD : va_D A [(h_p1, .inr (5, [.int p1_wide, .int p1_high, .int p1_hex, .long p1_ones, .long p1_twos])), (h_o, .inr (4, [.ref h_o_bytes, .int o_length, .int o_fault, .int o_place, .int o_rows])), (h_o_bytes, .inl (ca 0, 200, .inl o_bytes_r))] := hD
      refine lv_if_ne (tgt := 45) hx hb dX5_takesWord_40 (by decide) (fun c_40 => ?_) (fun c_40 => ?_)
      · replace hf := ds_f c_40 hf
        refine lv_aload_n hx hb dX5_takesWord_45 rfl (lv_at hl 1 rfl) ?_
        refine lv_dup hx hb dX5_takesWord_46 rfl ?_
        refine va_get (D := (dC, dI)) (ci := 4) (v := .int o_rows) (C := RX5) (T := TX5) (N := 5) hx hb hts (fun w h => List.mem_cons_of_mem _ (kc_X5 w h)) hown hK hP 1 rfl rfl 4 (by decide) (hg kw_344) (fun _ h9 => h9) rfl dX5_takesWord_47 ?_
        refine lv_iconst (v := 1) hx hb dX5_takesWord_50 (by decide) ?_
        refine lv_iadd hx hb dX5_takesWord_51 ?_
        refine va_put (D := (dC, dI)) (ci := 4) (v := .int (o_rows + (1 : Int32))) (ty := tyX5 4) (C := RX5) (T := TX5) (N := 5) hx hb hts (fun w h => List.mem_cons_of_mem _ (kc_X5 w h)) tyX5 tyX5_ok nmX5 hown hK hP hD hS 1 rfl rfl 4 (by decide) (hg kw_344) (fun _ h9 => h9) rfl (by decide +kernel) rfl rfl (Nat.le_of_ble_eq_true rfl) dX5_takesWord_52 (fun H locs hP hD hS => ?_)
        have hP : va_P (dC, dI) vwCl [(h_p1, .inr (5, [.int p1_wide, .int p1_high, .int p1_hex, .long p1_ones, .long p1_twos])), (h_o, .inr (4, [.ref h_o_bytes, .int o_length, .int o_fault, .int o_place, .int (o_rows + (1 : Int32))])), (h_o_bytes, .inl (ca 0, 200, .inl o_bytes_r))] H := hP
        have hD : va_D A [(h_p1, .inr (5, [.int p1_wide, .int p1_high, .int p1_hex, .long p1_ones, .long p1_twos])), (h_o, .inr (4, [.ref h_o_bytes, .int o_length, .int o_fault, .int o_place, .int (o_rows + (1 : Int32))])), (h_o_bytes, .inl (ca 0, 200, .inl o_bytes_r))] := hD
        refine lv_aload_n hx hb dX5_takesWord_55 rfl (lv_at hl 1 rfl) ?_
        refine lv_aload_n hx hb dX5_takesWord_56 rfl (lv_at hl 2 rfl) ?_
        refine lv_iload_n hx hb dX5_takesWord_57 rfl (lv_at hl 3 rfl) ?_
        refine lv_iload_n hx hb dX5_takesWord_58 rfl (lv_at hl 4 rfl) ?_
        obtain ⟨q59, hq59, hf⟩ := ds_ob hf
        refine ds_callv (wr := []) (va_runV (As := [.ref h_p1, .int p2, .int p3]) (rest := []) ⟨hx, hb, hml, hown, hts⟩ (c_X5_takeRow l dC dI ca sa h_o h_o_bytes h_p1 H.size o_length o_fault o_place (o_rows + (1 : Int32)) p1_wide p1_high p1_hex p1_ones p1_twos o_bytes_r p2 p3 q59 hq59) (cwV 3 hts (ds_gV kw_361 kw_362 kw_363 kw_313 kw_364) rfl rfl rfl (by decide +kernel) ⟨Nat.le_of_ble_eq_true rfl, Nat.le_of_ble_eq_true rfl⟩) ⟨ds_blind, va_recv hK hP (ci := 4) (q0 := 1) rfl rfl, ds_at hP hD hK hE hS hA [1, 0, 2] rfl rfl _⟩ rfl rfl hl.1 rfl (lv_room (Nat.le_of_ble_eq_true rfl)) dX5_takesWord_59 ⟨Nat.zero_le _, Nat.zero_le _⟩) hP hD hS hA [1, 0, 2] [] rfl rfl rfl (by decide) (fun H locs hP hD hS => ?_)
        have hP : va_P (dC, dI) vwCl [(h_o, .inr (4, [.ref h_o_bytes, .int o_length, .int q59.1, .int q59.2.1, .int (o_rows + (1 : Int32))])), (h_p1, .inr (5, [.int q59.2.2.1, .int q59.2.2.2.1, .int p1_hex, .long q59.2.2.2.2.1, .long q59.2.2.2.2.2])), (h_o_bytes, .inl (ca 0, 200, .inl o_bytes_r))] H := hP
        have hD : va_D A [(h_o, .inr (4, [.ref h_o_bytes, .int o_length, .int q59.1, .int q59.2.1, .int (o_rows + (1 : Int32))])), (h_p1, .inr (5, [.int q59.2.2.1, .int q59.2.2.2.1, .int p1_hex, .long q59.2.2.2.2.1, .long q59.2.2.2.2.2])), (h_o_bytes, .inl (ca 0, 200, .inl o_bytes_r))] := hD
        refine lv_iconst (v := 1) hx hb dX5_takesWord_62 (by decide) ?_
        have hf := Option.some.inj hf
        subst hf
        rw [eG0] at hG
        have hG : _ = res := hG
        subst hG
        exact W.zret (v := (1 : Int32)) (ty := .boolean) hx hb hr rfl (fun t ht hW => ⟨⟨(1 : Int32), (), rfl, rfl, by rw [ht]; exact (hP.sub [0, 2, 1] rfl), (hD.sub [0, 2, 1] rfl rfl)⟩, hS.F ht⟩) hS.2.2 dX5_takesWord_63
      · replace hf := ds_t c_40 hf
        refine lv_iconst (v := 0) hx hb dX5_takesWord_43 (by decide) ?_
        have hf := Option.some.inj hf
        subst hf
        rw [eG0] at hG
        have hG : _ = res := hG
        subst hG
        exact W.zret (v := (0 : Int32)) (ty := .boolean) hx hb hr rfl (fun t ht hW => ⟨⟨(0 : Int32), (), rfl, rfl, by rw [ht]; exact (hP.sub [1, 2, 0] rfl), (hD.sub [1, 2, 0] rfl rfl)⟩, hS.F ht⟩) hS.2.2 dX5_takesWord_44
    · replace hf := ds_f c_23 hf
      exact h1 (J_26 q5 o_fault o_place o_rows p1_wide p1_high p1_hex p1_ones p1_twos _ hf hG _ _ (hP.sub [1, 2, 0] rfl) (hD.sub [1, 2, 0] rfl rfl) hS _ (lv_sub hl [2, 0] rfl))
theorem dX5_firstMisfit_0 : decode cX5_firstMisfit 0 = .ok (.iconst 0, 1) := by decide +kernel
theorem dX5_firstMisfit_1 : decode cX5_firstMisfit 1 = .ok (.istore_n 2, 1) := by decide +kernel
theorem dX5_firstMisfit_2 : decode cX5_firstMisfit 2 = .ok (.iconst 0, 1) := by decide +kernel
theorem dX5_firstMisfit_3 : decode cX5_firstMisfit 3 = .ok (.istore_n 3, 1) := by decide +kernel
theorem dX5_firstMisfit_4 : decode cX5_firstMisfit 4 = .ok (.iconst 0, 1) := by decide +kernel
theorem dX5_firstMisfit_5 : decode cX5_firstMisfit 5 = .ok (.istore 4, 2) := by decide +kernel
theorem dX5_firstMisfit_7 : decode cX5_firstMisfit 7 = .ok (.iload 4, 2) := by decide +kernel
theorem dX5_firstMisfit_9 : decode cX5_firstMisfit 9 = .ok (.aload_n 0, 1) := by decide +kernel
theorem dX5_firstMisfit_10 : decode cX5_firstMisfit 10 = .ok (.getfield 19, 3) := by decide +kernel
theorem dX5_firstMisfit_13 : decode cX5_firstMisfit 13 = .ok (.if_icmp .ge 95, 3) := by decide +kernel
theorem dX5_firstMisfit_16 : decode cX5_firstMisfit 16 = .ok (.aload_n 0, 1) := by decide +kernel
theorem dX5_firstMisfit_17 : decode cX5_firstMisfit 17 = .ok (.iload 4, 2) := by decide +kernel
theorem dX5_firstMisfit_19 : decode cX5_firstMisfit 19 = .ok (.invokevirtual 42, 3) := by decide +kernel
theorem dX5_firstMisfit_22 : decode cX5_firstMisfit 22 = .ok (.istore 5, 2) := by decide +kernel
theorem dX5_firstMisfit_24 : decode cX5_firstMisfit 24 = .ok (.iload 5, 2) := by decide +kernel
theorem dX5_firstMisfit_26 : decode cX5_firstMisfit 26 = .ok (.invokestatic 46, 3) := by decide +kernel
theorem dX5_firstMisfit_29 : decode cX5_firstMisfit 29 = .ok (.ifCond .eq 33, 3) := by decide +kernel
theorem dX5_firstMisfit_32 : decode cX5_firstMisfit 32 = .ok (.aload_n 0, 1) := by decide +kernel
theorem dX5_firstMisfit_33 : decode cX5_firstMisfit 33 = .ok (.iload 4, 2) := by decide +kernel
theorem dX5_firstMisfit_35 : decode cX5_firstMisfit 35 = .ok (.invokevirtual 50, 3) := by decide +kernel
theorem dX5_firstMisfit_38 : decode cX5_firstMisfit 38 = .ok (.istore_n 3, 1) := by decide +kernel
theorem dX5_firstMisfit_39 : decode cX5_firstMisfit 39 = .ok (.iload_n 2, 1) := by decide +kernel
theorem dX5_firstMisfit_40 : decode cX5_firstMisfit 40 = .ok (.ifCond .ne 14, 3) := by decide +kernel
theorem dX5_firstMisfit_43 : decode cX5_firstMisfit 43 = .ok (.aload_n 0, 1) := by decide +kernel
theorem dX5_firstMisfit_44 : decode cX5_firstMisfit 44 = .ok (.aload_n 1, 1) := by decide +kernel
theorem dX5_firstMisfit_45 : decode cX5_firstMisfit 45 = .ok (.iload 4, 2) := by decide +kernel
theorem dX5_firstMisfit_47 : decode cX5_firstMisfit 47 = .ok (.iload_n 3, 1) := by decide +kernel
theorem dX5_firstMisfit_48 : decode cX5_firstMisfit 48 = .ok (.invokevirtual 53, 3) := by decide +kernel
theorem dX5_firstMisfit_51 : decode cX5_firstMisfit 51 = .ok (.ifCond .ne 6, 3) := by decide +kernel
theorem dX5_firstMisfit_54 : decode cX5_firstMisfit 54 = .ok (.iload 4, 2) := by decide +kernel
theorem dX5_firstMisfit_56 : decode cX5_firstMisfit 56 = .ok (.ireturn, 1) := by decide +kernel
theorem dX5_firstMisfit_57 : decode cX5_firstMisfit 57 = .ok (.iconst 1, 1) := by decide +kernel
theorem dX5_firstMisfit_58 : decode cX5_firstMisfit 58 = .ok (.istore_n 2, 1) := by decide +kernel
theorem dX5_firstMisfit_59 : decode cX5_firstMisfit 59 = .ok (.goto 36, 3) := by decide +kernel
theorem dX5_firstMisfit_62 : decode cX5_firstMisfit 62 = .ok (.iload 5, 2) := by decide +kernel
theorem dX5_firstMisfit_64 : decode cX5_firstMisfit 64 = .ok (.bipush 59, 2) := by decide +kernel
theorem dX5_firstMisfit_66 : decode cX5_firstMisfit 66 = .ok (.if_icmp .ne 12, 3) := by decide +kernel
theorem dX5_firstMisfit_69 : decode cX5_firstMisfit 69 = .ok (.iload_n 2, 1) := by decide +kernel
theorem dX5_firstMisfit_70 : decode cX5_firstMisfit 70 = .ok (.ifCond .eq 8, 3) := by decide +kernel
theorem dX5_firstMisfit_73 : decode cX5_firstMisfit 73 = .ok (.iconst 0, 1) := by decide +kernel
theorem dX5_firstMisfit_74 : decode cX5_firstMisfit 74 = .ok (.istore_n 2, 1) := by decide +kernel
theorem dX5_firstMisfit_75 : decode cX5_firstMisfit 75 = .ok (.goto 20, 3) := by decide +kernel
theorem dX5_firstMisfit_78 : decode cX5_firstMisfit 78 = .ok (.iload 5, 2) := by decide +kernel
theorem dX5_firstMisfit_80 : decode cX5_firstMisfit 80 = .ok (.bipush 32, 2) := by decide +kernel
theorem dX5_firstMisfit_82 : decode cX5_firstMisfit 82 = .ok (.if_icmp .eq 13, 3) := by decide +kernel
theorem dX5_firstMisfit_85 : decode cX5_firstMisfit 85 = .ok (.iload 5, 2) := by decide +kernel
theorem dX5_firstMisfit_87 : decode cX5_firstMisfit 87 = .ok (.bipush 10, 2) := by decide +kernel
theorem dX5_firstMisfit_89 : decode cX5_firstMisfit 89 = .ok (.if_icmp .eq 6, 3) := by decide +kernel
theorem dX5_firstMisfit_92 : decode cX5_firstMisfit 92 = .ok (.iload 4, 2) := by decide +kernel
theorem dX5_firstMisfit_94 : decode cX5_firstMisfit 94 = .ok (.ireturn, 1) := by decide +kernel
theorem dX5_firstMisfit_95 : decode cX5_firstMisfit 95 = .ok (.iload 4, 2) := by decide +kernel
theorem dX5_firstMisfit_97 : decode cX5_firstMisfit 97 = .ok (.iconst 1, 1) := by decide +kernel
theorem dX5_firstMisfit_98 : decode cX5_firstMisfit 98 = .ok (.iadd, 1) := by decide +kernel
theorem dX5_firstMisfit_99 : decode cX5_firstMisfit 99 = .ok (.iload_n 3, 1) := by decide +kernel
theorem dX5_firstMisfit_100 : decode cX5_firstMisfit 100 = .ok (.invokestatic 57, 3) := by decide +kernel
theorem dX5_firstMisfit_103 : decode cX5_firstMisfit 103 = .ok (.istore 4, 2) := by decide +kernel
theorem dX5_firstMisfit_105 : decode cX5_firstMisfit 105 = .ok (.goto (-98), 3) := by decide +kernel
theorem dX5_firstMisfit_108 : decode cX5_firstMisfit 108 = .ok (.iload_n 2, 1) := by decide +kernel
theorem dX5_firstMisfit_109 : decode cX5_firstMisfit 109 = .ok (.ifCond .ne 10, 3) := by decide +kernel
theorem dX5_firstMisfit_112 : decode cX5_firstMisfit 112 = .ok (.aload_n 0, 1) := by decide +kernel
theorem dX5_firstMisfit_113 : decode cX5_firstMisfit 113 = .ok (.getfield 35, 3) := by decide +kernel
theorem dX5_firstMisfit_116 : decode cX5_firstMisfit 116 = .ok (.ifCond .ne 10, 3) := by decide +kernel
theorem dX5_firstMisfit_119 : decode cX5_firstMisfit 119 = .ok (.aload_n 0, 1) := by decide +kernel
theorem dX5_firstMisfit_120 : decode cX5_firstMisfit 120 = .ok (.getfield 19, 3) := by decide +kernel
theorem dX5_firstMisfit_123 : decode cX5_firstMisfit 123 = .ok (.goto 4, 3) := by decide +kernel
theorem dX5_firstMisfit_126 : decode cX5_firstMisfit 126 = .ok (.iconst (-1), 1) := by decide +kernel
theorem dX5_firstMisfit_127 : decode cX5_firstMisfit 127 = .ok (.ireturn, 1) := by decide +kernel
def fX5_firstMisfit_119 (o_length : Int32) (o_fault : Int32) (o_place : Int32) (o_rows : Int32) (p1_wide : Int32) (p1_high : Int32) (p1_hex : Int32) (p1_ones : Int64) (p1_twos : Int64) : Option (Int32 × Int32 × Int32 × Int32 × Int32 × Int32 × Int32 × Int64 × Int64) :=
  some (o_length, o_fault, o_place, o_rows, p1_wide, p1_high, p1_hex, p1_ones, p1_twos)
def fX5_firstMisfit_108 (o_length : Int32) (o_fault : Int32) (o_place : Int32) (o_rows : Int32) (p1_wide : Int32) (p1_high : Int32) (p1_hex : Int32) (p1_ones : Int64) (p1_twos : Int64) (v2 : Int32) : Option (Int32 × Int32 × Int32 × Int32 × Int32 × Int32 × Int32 × Int64 × Int64) :=
  if v2 = 0 then if o_rows = 0 then fX5_firstMisfit_119 o_length o_fault o_place o_rows p1_wide p1_high p1_hex p1_ones p1_twos else some ((-1 : Int32), o_fault, o_place, o_rows, p1_wide, p1_high, p1_hex, p1_ones, p1_twos) else fX5_firstMisfit_119 o_length o_fault o_place o_rows p1_wide p1_high p1_hex p1_ones p1_twos
def fX5_firstMisfit_95 (o_fault : Int32) (o_place : Int32) (o_rows : Int32) (p1_wide : Int32) (p1_high : Int32) (p1_hex : Int32) (p1_ones : Int64) (p1_twos : Int64) (v2 : Int32) (v3 : Int32) (v4 : Int32) : Option ((Int32 × Int32 × Int32 × Int32 × Int32 × Int32 × Int32 × Int32 × Int32 × Int64 × Int64) ⊕ (Int32 × Int32 × Int32 × Int32 × Int32 × Int32 × Int32 × Int64 × Int64)) :=
  some (.inl (v2, v3, (ds_max (v4 + (1 : Int32)) v3), o_fault, o_place, o_rows, p1_wide, p1_high, p1_hex, p1_ones, p1_twos))
def fX5_firstMisfit_78 (o_fault : Int32) (o_place : Int32) (o_rows : Int32) (p1_wide : Int32) (p1_high : Int32) (p1_hex : Int32) (p1_ones : Int64) (p1_twos : Int64) (v2 : Int32) (v3 : Int32) (v4 : Int32) (v5 : Int32) : Option ((Int32 × Int32 × Int32 × Int32 × Int32 × Int32 × Int32 × Int32 × Int32 × Int64 × Int64) ⊕ (Int32 × Int32 × Int32 × Int32 × Int32 × Int32 × Int32 × Int64 × Int64)) :=
  if v5 = (32 : Int32) then fX5_firstMisfit_95 o_fault o_place o_rows p1_wide p1_high p1_hex p1_ones p1_twos v2 v3 v4 else if v5 = (10 : Int32) then fX5_firstMisfit_95 o_fault o_place o_rows p1_wide p1_high p1_hex p1_ones p1_twos v2 v3 v4 else some (.inr (v4, o_fault, o_place, o_rows, p1_wide, p1_high, p1_hex, p1_ones, p1_twos))
def fX5_firstMisfit_7_b (o_length : Int32) (o_bytes_r : Nat → Int32) (v2 : Int32) (v3 : Int32) (v4 : Int32) (o_fault : Int32) (o_place : Int32) (o_rows : Int32) (p1_wide : Int32) (p1_high : Int32) (p1_hex : Int32) (p1_ones : Int64) (p1_twos : Int64) : Option ((Int32 × Int32 × Int32 × Int32 × Int32 × Int32 × Int32 × Int32 × Int32 × Int64 × Int64) ⊕ (Int32 × Int32 × Int32 × Int32 × Int32 × Int32 × Int32 × Int64 × Int64)) :=
  if o_length ≤ v4 then Option.bind (fX5_firstMisfit_108 o_length o_fault o_place o_rows p1_wide p1_high p1_hex p1_ones p1_twos v2) fun z => some (.inr z) else Option.bind (fX5_byteAt o_length o_bytes_r v4) fun q19 => Option.bind (fX5_isLetter q19) fun q26 => if q26 = 0 then if q19 = (59 : Int32) then if v2 = 0 then fX5_firstMisfit_78 o_fault o_place o_rows p1_wide p1_high p1_hex p1_ones p1_twos v2 v3 v4 q19 else fX5_firstMisfit_95 o_fault o_place o_rows p1_wide p1_high p1_hex p1_ones p1_twos (0 : Int32) v3 v4 else fX5_firstMisfit_78 o_fault o_place o_rows p1_wide p1_high p1_hex p1_ones p1_twos v2 v3 v4 q19 else Option.bind (fX5_wordEnd o_length o_bytes_r v4) fun q35 => if v2 = 0 then Option.bind (fX5_takesWord o_length o_fault o_place o_rows o_bytes_r p1_wide p1_high p1_hex p1_ones p1_twos v4 q35) fun q48 => if q48.1 = 0 then some (.inr (v4, q48.2.1, q48.2.2.1, q48.2.2.2.1, q48.2.2.2.2.1, q48.2.2.2.2.2.1, q48.2.2.2.2.2.2.1, q48.2.2.2.2.2.2.2.1, q48.2.2.2.2.2.2.2.2)) else fX5_firstMisfit_95 q48.2.1 q48.2.2.1 q48.2.2.2.1 q48.2.2.2.2.1 q48.2.2.2.2.2.1 q48.2.2.2.2.2.2.1 q48.2.2.2.2.2.2.2.1 q48.2.2.2.2.2.2.2.2 (1 : Int32) q35 v4 else some (.inr (v4, o_fault, o_place, o_rows, p1_wide, p1_high, p1_hex, p1_ones, p1_twos))
def fX5_firstMisfit_7 (o_length : Int32) (o_bytes_r : Nat → Int32) (v2 : Int32) (v3 : Int32) (v4 : Int32) (o_fault : Int32) (o_place : Int32) (o_rows : Int32) (p1_wide : Int32) (p1_high : Int32) (p1_hex : Int32) (p1_ones : Int64) (p1_twos : Int64) : Option (Int32 × Int32 × Int32 × Int32 × Int32 × Int32 × Int32 × Int64 × Int64) := ds_it (fun s => fX5_firstMisfit_7_b o_length o_bytes_r s.1 s.2.1 s.2.2.1 s.2.2.2.1 s.2.2.2.2.1 s.2.2.2.2.2.1 s.2.2.2.2.2.2.1 s.2.2.2.2.2.2.2.1 s.2.2.2.2.2.2.2.2.1 s.2.2.2.2.2.2.2.2.2.1 s.2.2.2.2.2.2.2.2.2.2) 1000 (v2, v3, v4, o_fault, o_place, o_rows, p1_wide, p1_high, p1_hex, p1_ones, p1_twos)
def fX5_firstMisfit (o_length : Int32) (o_fault : Int32) (o_place : Int32) (o_rows : Int32) (o_bytes_r : Nat → Int32) (p1_wide : Int32) (p1_high : Int32) (p1_hex : Int32) (p1_ones : Int64) (p1_twos : Int64) : Option (Int32 × Int32 × Int32 × Int32 × Int32 × Int32 × Int32 × Int64 × Int64) :=
  fX5_firstMisfit_7 o_length o_bytes_r (0 : Int32) (0 : Int32) (0 : Int32) o_fault o_place o_rows p1_wide p1_high p1_hex p1_ones p1_twos
set_option maxHeartbeats 4000000 in
set_option maxRecDepth 100000 in
theorem c_X5_firstMisfit (l : Launch) (dC : Nat → ClassId) (dI : Nat → Nat → Nat) (ca : Nat → ClassId) (sa : Nat → Nat) (h_o : Nat) (h_o_bytes : Nat) (h_p1 : Nat) (sz : Nat) (o_length : Int32) (o_fault : Int32) (o_place : Int32) (o_rows : Int32) (o_bytes_r : Nat → Int32) (p1_wide : Int32) (p1_high : Int32) (p1_hex : Int32) (p1_ones : Int64) (p1_twos : Int64) (res : Int32 × Int32 × Int32 × Int32 × Int32 × Int32 × Int32 × Int64 × Int64) (hf : fX5_firstMisfit o_length o_fault o_place o_rows o_bytes_r p1_wide p1_high p1_hex p1_ones p1_twos = some res) : Met l yX5_firstMisfit (Cond.code yX5_firstMisfit cX5_firstMisfit 6 (some .int) :: ds_gw) { frames := 6, cells := 0, slots := 0, locals := 133 } (va_Pc [.ref h_o, .ref h_p1] (ds_Pre dC dI ca sa [(h_o, .inr (4, [.ref h_o_bytes, .int o_length, .int o_fault, .int o_place, .int o_rows])), (h_o_bytes, .inl (ca 0, 200, .inl o_bytes_r)), (h_p1, .inr (5, [.int p1_wide, .int p1_high, .int p1_hex, .long p1_ones, .long p1_twos]))] sz)) (va_Qi (fun r (_ : Unit) => r = res.1) (ds_B dC dI (va_A [(h_o, .inr (4, [.ref h_o_bytes, .int o_length, .int o_fault, .int o_place, .int o_rows])), (h_o_bytes, .inl (ca 0, 200, .inl o_bytes_r)), (h_p1, .inr (5, [.int p1_wide, .int p1_high, .int p1_hex, .long p1_ones, .long p1_twos]))] sz) [(h_o, .inr (4, [.ref h_o_bytes, .int o_length, .int res.2.1, .int res.2.2.1, .int res.2.2.2.1])), (h_o_bytes, .inl (ca 0, 200, .inl o_bytes_r)), (h_p1, .inr (5, [.int res.2.2.2.2.1, .int res.2.2.2.2.2.1, .int res.2.2.2.2.2.2.1, .long res.2.2.2.2.2.2.2.1, .long res.2.2.2.2.2.2.2.2]))]) (va_A [(h_o, .inr (4, [.ref h_o_bytes, .int o_length, .int o_fault, .int o_place, .int o_rows])), (h_o_bytes, .inl (ca 0, 200, .inl o_bytes_r)), (h_p1, .inr (5, [.int p1_wide, .int p1_high, .int p1_hex, .long p1_ones, .long p1_twos]))] sz)) 0 0 (va_A [(h_o, .inr (4, [.ref h_o_bytes, .int o_length, .int o_fault, .int o_place, .int o_rows])), (h_o_bytes, .inl (ca 0, 200, .inl o_bytes_r)), (h_p1, .inr (5, [.int p1_wide, .int p1_high, .int p1_hex, .long p1_ones, .long p1_twos]))] sz) := by
  refine Met.ofW (cc := cX5_firstMisfit) (maxL := 6) (ret := (some .int)) (by decide) rfl ?_
  intro p e s m args below meth c s₁ B hml hv
  obtain ⟨rfl, hsz, hP, hK, hD0, hE⟩ := hv
  have hx := B.exec
  have hb := B.bytes
  have hr := B.returns
  have hts := atoms_spec (ws := Cond.code yX5_firstMisfit cX5_firstMisfit 6 (some .int) :: ds_gw) B.pre
  have hg : ∀ {w : Cond}, w ∈ ds_gw → w.before _ s = true := fun h => hts _ (List.mem_cons_of_mem _ h)
  have hown : s.vm.findClass RX5 = some m.cls := findClass_of_methodNamed B.named
  have hlocks := B.notSynchronized
  subst hsz
  have hD := hD0.self (sz := s.heap.size)
  generalize hAe : va_A [(h_o, .inr (4, [.ref h_o_bytes, .int o_length, .int o_fault, .int o_place, .int o_rows])), (h_o_bytes, .inl (ca 0, 200, .inl o_bytes_r)), (h_p1, .inr (5, [.int p1_wide, .int p1_high, .int p1_hex, .long p1_ones, .long p1_twos]))] s.heap.size = A at hD hE ⊢
  have hA : ∀ q : Nat, s.heap.size ≤ q → A q := fun q h => by rw [← hAe]; exact Or.inr h
  have hS : va_S A s.heap s.heap [] := va_S.rf
  have hl := lv_entry ([.ref h_o, .ref h_p1]) (n := 6) (Nat.le_of_ble_eq_true rfl)
  rw [lg_entry_eq]
  generalize (lg_sl ([.ref h_o, .ref h_p1]) ++ List.replicate (6 - (lg_sl ([.ref h_o, .ref h_p1])).length) Slot.unset).toArray = ls at hl ⊢
  have hl : lv_has ls 6 [(0, .ref h_o), (1, .ref h_p1)] := hl
  obtain ⟨G0, eG0⟩ : ∃ G : (Int32 × Int32 × Int32 × Int32 × Int32 × Int32 × Int32 × Int64 × Int64) → Prop, G = (fun r => r = res) := ⟨_, rfl⟩
  obtain ⟨rr, hrr⟩ : ∃ z, z = res := ⟨_, rfl⟩
  rw [← hrr] at hf
  have hG : G0 rr := by subst eG0; exact hrr
  refine ds_cap (fun WW h1 h2 => ?_)
  have J_119 : ∀ (o_fault : Int32) (o_place : Int32) (o_rows : Int32) (p1_wide : Int32) (p1_high : Int32) (p1_hex : Int32) (p1_ones : Int64) (p1_twos : Int64) (rr : Int32 × Int32 × Int32 × Int32 × Int32 × Int32 × Int32 × Int64 × Int64) (hf : fX5_firstMisfit_119 o_length o_fault o_place o_rows p1_wide p1_high p1_hex p1_ones p1_twos = some rr) (hG : G0 rr) (H : Heap) (locs : List Loc) (hP : va_P (dC, dI) vwCl [(h_o, .inr (4, [.ref h_o_bytes, .int o_length, .int o_fault, .int o_place, .int o_rows])), (h_o_bytes, .inl (ca 0, 200, .inl o_bytes_r)), (h_p1, .inr (5, [.int p1_wide, .int p1_high, .int p1_hex, .long p1_ones, .long p1_twos]))] H) (hD : va_D A [(h_o, .inr (4, [.ref h_o_bytes, .int o_length, .int o_fault, .int o_place, .int o_rows])), (h_o_bytes, .inl (ca 0, 200, .inl o_bytes_r)), (h_p1, .inr (5, [.int p1_wide, .int p1_high, .int p1_hex, .long p1_ones, .long p1_twos]))]) (hS : va_S A s.heap H locs) (ls : Array Slot) (hl : lv_has ls 6 [(0, .ref h_o)]), WW H locs (F0 m 119 ls []) := by
    intro o_fault o_place o_rows p1_wide p1_high p1_hex p1_ones p1_twos rr hf hG H locs hP hD hS ls hl
    refine h2 ?_
    unfold fX5_firstMisfit_119 at hf
    refine lv_aload_n hx hb dX5_firstMisfit_119 rfl (lv_at hl 0 rfl) ?_
    refine va_get (D := (dC, dI)) (ci := 4) (v := .int o_length) (C := RX5) (T := TX5) (N := 5) hx hb hts (fun w h => List.mem_cons_of_mem _ (kc_X5 w h)) hown hK hP 0 rfl rfl 1 (by decide) (hg kw_295) (fun _ h9 => h9) rfl dX5_firstMisfit_120 ?_
    refine lv_goto (tgt := 127) hx hb dX5_firstMisfit_123 (by decide) ?_
    have hf := Option.some.inj hf
    subst hf
    rw [eG0] at hG
    have hG : _ = res := hG
    subst hG
    exact W.iret (v := o_length) hx hb hr (fun t ht hW => ⟨⟨o_length, (), rfl, rfl, by rw [ht]; exact hP, hD⟩, hS.F ht⟩) hS.2.2 dX5_firstMisfit_127
  have J_108 : ∀ (v2 : Int32) (o_fault : Int32) (o_place : Int32) (o_rows : Int32) (p1_wide : Int32) (p1_high : Int32) (p1_hex : Int32) (p1_ones : Int64) (p1_twos : Int64) (rr : Int32 × Int32 × Int32 × Int32 × Int32 × Int32 × Int32 × Int64 × Int64) (hf : fX5_firstMisfit_108 o_length o_fault o_place o_rows p1_wide p1_high p1_hex p1_ones p1_twos v2 = some rr) (hG : G0 rr) (H : Heap) (locs : List Loc) (hP : va_P (dC, dI) vwCl [(h_o, .inr (4, [.ref h_o_bytes, .int o_length, .int o_fault, .int o_place, .int o_rows])), (h_o_bytes, .inl (ca 0, 200, .inl o_bytes_r)), (h_p1, .inr (5, [.int p1_wide, .int p1_high, .int p1_hex, .long p1_ones, .long p1_twos]))] H) (hD : va_D A [(h_o, .inr (4, [.ref h_o_bytes, .int o_length, .int o_fault, .int o_place, .int o_rows])), (h_o_bytes, .inl (ca 0, 200, .inl o_bytes_r)), (h_p1, .inr (5, [.int p1_wide, .int p1_high, .int p1_hex, .long p1_ones, .long p1_twos]))]) (hS : va_S A s.heap H locs) (ls : Array Slot) (hl : lv_has ls 6 [(0, .ref h_o), (2, .int v2)]), WW H locs (F0 m 108 ls []) := by
    intro v2 o_fault o_place o_rows p1_wide p1_high p1_hex p1_ones p1_twos rr hf hG H locs hP hD hS ls hl
    refine h2 ?_
    unfold fX5_firstMisfit_108 at hf
    refine lv_iload_n hx hb dX5_firstMisfit_108 rfl (lv_at hl 1 rfl) ?_
    refine lv_if_ne (tgt := 119) hx hb dX5_firstMisfit_109 (by decide) (fun c_109 => ?_) (fun c_109 => ?_)
    · replace hf := ds_f c_109 hf
      exact h1 (J_119 o_fault o_place o_rows p1_wide p1_high p1_hex p1_ones p1_twos _ hf hG _ _ hP hD hS _ (lv_sub hl [0] rfl))
    · replace hf := ds_t c_109 hf
      refine lv_aload_n hx hb dX5_firstMisfit_112 rfl (lv_at hl 0 rfl) ?_
      refine va_get (D := (dC, dI)) (ci := 4) (v := .int o_rows) (C := RX5) (T := TX5) (N := 5) hx hb hts (fun w h => List.mem_cons_of_mem _ (kc_X5 w h)) hown hK hP 0 rfl rfl 4 (by decide) (hg kw_344) (fun _ h9 => h9) rfl dX5_firstMisfit_113 ?_
      refine lv_if_ne (tgt := 126) hx hb dX5_firstMisfit_116 (by decide) (fun c_116 => ?_) (fun c_116 => ?_)
      · replace hf := ds_f c_116 hf
        refine lv_iconst (v := -1) hx hb dX5_firstMisfit_126 (by decide) ?_
        have hf := Option.some.inj hf
        subst hf
        rw [eG0] at hG
        have hG : _ = res := hG
        subst hG
        exact W.iret (v := (-1 : Int32)) hx hb hr (fun t ht hW => ⟨⟨(-1 : Int32), (), rfl, rfl, by rw [ht]; exact hP, hD⟩, hS.F ht⟩) hS.2.2 dX5_firstMisfit_127
      · replace hf := ds_t c_116 hf
        exact h1 (J_119 o_fault o_place o_rows p1_wide p1_high p1_hex p1_ones p1_twos _ hf hG _ _ hP hD hS _ (lv_sub hl [0] rfl))
  have J_7 : ∀ (n : Nat) (v2 : Int32) (v3 : Int32) (v4 : Int32) (o_fault : Int32) (o_place : Int32) (o_rows : Int32) (p1_wide : Int32) (p1_high : Int32) (p1_hex : Int32) (p1_ones : Int64) (p1_twos : Int64) (rr : Int32 × Int32 × Int32 × Int32 × Int32 × Int32 × Int32 × Int64 × Int64) (hf : ds_it (fun s => fX5_firstMisfit_7_b o_length o_bytes_r s.1 s.2.1 s.2.2.1 s.2.2.2.1 s.2.2.2.2.1 s.2.2.2.2.2.1 s.2.2.2.2.2.2.1 s.2.2.2.2.2.2.2.1 s.2.2.2.2.2.2.2.2.1 s.2.2.2.2.2.2.2.2.2.1 s.2.2.2.2.2.2.2.2.2.2) n (v2, v3, v4, o_fault, o_place, o_rows, p1_wide, p1_high, p1_hex, p1_ones, p1_twos) = some rr) (hG : G0 rr) (H : Heap) (locs : List Loc) (hP : va_P (dC, dI) vwCl [(h_o, .inr (4, [.ref h_o_bytes, .int o_length, .int o_fault, .int o_place, .int o_rows])), (h_o_bytes, .inl (ca 0, 200, .inl o_bytes_r)), (h_p1, .inr (5, [.int p1_wide, .int p1_high, .int p1_hex, .long p1_ones, .long p1_twos]))] H) (hD : va_D A [(h_o, .inr (4, [.ref h_o_bytes, .int o_length, .int o_fault, .int o_place, .int o_rows])), (h_o_bytes, .inl (ca 0, 200, .inl o_bytes_r)), (h_p1, .inr (5, [.int p1_wide, .int p1_high, .int p1_hex, .long p1_ones, .long p1_twos]))]) (hS : va_S A s.heap H locs) (ls : Array Slot) (hl : lv_has ls 6 [(0, .ref h_o), (1, .ref h_p1), (2, .int v2), (3, .int v3), (4, .int v4)]), WW H locs (F0 m 7 ls []) := by
    intro  n
    induction n with
    | zero => intro v2 v3 v4 o_fault o_place o_rows p1_wide p1_high p1_hex p1_ones p1_twos rr hf; exact (ds_it_zero hf).elim
    | succ n ih7 =>
      intro v2 v3 v4 o_fault o_place o_rows p1_wide p1_high p1_hex p1_ones p1_twos rr hf hG H locs hP hD hS ls hl
      refine h2 ?_
      obtain ⟨rr, hf, hG⟩ := ds_it_succ hf hG
      replace hf : fX5_firstMisfit_7_b o_length o_bytes_r v2 v3 v4 o_fault o_place o_rows p1_wide p1_high p1_hex p1_ones p1_twos = some rr := hf
      obtain ⟨G1, eG1⟩ : ∃ G : ((Int32 × Int32 × Int32 × Int32 × Int32 × Int32 × Int32 × Int32 × Int32 × Int64 × Int64) ⊕ (Int32 × Int32 × Int32 × Int32 × Int32 × Int32 × Int32 × Int64 × Int64)) → Prop, G = ds_G (fun s' => ∃ r', ds_it (fun s => fX5_firstMisfit_7_b o_length o_bytes_r s.1 s.2.1 s.2.2.1 s.2.2.2.1 s.2.2.2.2.1 s.2.2.2.2.2.1 s.2.2.2.2.2.2.1 s.2.2.2.2.2.2.2.1 s.2.2.2.2.2.2.2.2.1 s.2.2.2.2.2.2.2.2.2.1 s.2.2.2.2.2.2.2.2.2.2) n s' = some r' ∧ G0 r') G0 := ⟨_, rfl⟩
      rw [← eG1] at hG
      have J_95 : ∀ (v2 : Int32) (v3 : Int32) (v4 : Int32) (o_fault : Int32) (o_place : Int32) (o_rows : Int32) (p1_wide : Int32) (p1_high : Int32) (p1_hex : Int32) (p1_ones : Int64) (p1_twos : Int64) (rr : (Int32 × Int32 × Int32 × Int32 × Int32 × Int32 × Int32 × Int32 × Int32 × Int64 × Int64) ⊕ (Int32 × Int32 × Int32 × Int32 × Int32 × Int32 × Int32 × Int64 × Int64)) (hf : fX5_firstMisfit_95 o_fault o_place o_rows p1_wide p1_high p1_hex p1_ones p1_twos v2 v3 v4 = some rr) (hG : G1 rr) (H : Heap) (locs : List Loc) (hP : va_P (dC, dI) vwCl [(h_o, .inr (4, [.ref h_o_bytes, .int o_length, .int o_fault, .int o_place, .int o_rows])), (h_o_bytes, .inl (ca 0, 200, .inl o_bytes_r)), (h_p1, .inr (5, [.int p1_wide, .int p1_high, .int p1_hex, .long p1_ones, .long p1_twos]))] H) (hD : va_D A [(h_o, .inr (4, [.ref h_o_bytes, .int o_length, .int o_fault, .int o_place, .int o_rows])), (h_o_bytes, .inl (ca 0, 200, .inl o_bytes_r)), (h_p1, .inr (5, [.int p1_wide, .int p1_high, .int p1_hex, .long p1_ones, .long p1_twos]))]) (hS : va_S A s.heap H locs) (ls : Array Slot) (hl : lv_has ls 6 [(0, .ref h_o), (1, .ref h_p1), (2, .int v2), (3, .int v3), (4, .int v4)]), WW H locs (F0 m 95 ls []) := by
        intro v2 v3 v4 o_fault o_place o_rows p1_wide p1_high p1_hex p1_ones p1_twos rr hf hG H locs hP hD hS ls hl
        refine h2 ?_
        unfold fX5_firstMisfit_95 at hf
        refine lv_iload hx hb dX5_firstMisfit_95 (lv_at hl 4 rfl) ?_
        refine lv_iconst (v := 1) hx hb dX5_firstMisfit_97 (by decide) ?_
        refine lv_iadd hx hb dX5_firstMisfit_98 ?_
        refine lv_iload_n hx hb dX5_firstMisfit_99 rfl (lv_at hl 3 rfl) ?_
        refine va_mmax hx hb (hml.trans hl.1.symm) hown (hg kw_365) (hg kw_366) (hg kw_324) (hg kw_367) (Nat.le_of_ble_eq_true rfl) (Nat.le_of_ble_eq_true rfl) (Nat.zero_le _) (Nat.zero_le _) dX5_firstMisfit_100 ?_
        refine lv_istore (lv' := [(4, .int (ds_max (v4 + (1 : Int32)) v3)), (0, .ref h_o), (1, .ref h_p1), (2, .int v2), (3, .int v3)]) hx hb dX5_firstMisfit_103 hl (by decide) rfl (fun ls hl => ?_)
        refine lv_goto (tgt := 7) hx hb dX5_firstMisfit_105 (by decide) ?_
        have hf := Option.some.inj hf
        subst hf
        rw [eG1] at hG
        obtain ⟨rr, hf, hG⟩ := hG
        exact h1 (ih7 v2 v3 (ds_max (v4 + (1 : Int32)) v3) o_fault o_place o_rows p1_wide p1_high p1_hex p1_ones p1_twos rr hf hG _ _ hP hD hS _ (lv_sub hl [1, 2, 3, 4, 0] rfl))
      have J_78 : ∀ (v2 : Int32) (v3 : Int32) (v4 : Int32) (v5 : Int32) (o_fault : Int32) (o_place : Int32) (o_rows : Int32) (p1_wide : Int32) (p1_high : Int32) (p1_hex : Int32) (p1_ones : Int64) (p1_twos : Int64) (rr : (Int32 × Int32 × Int32 × Int32 × Int32 × Int32 × Int32 × Int32 × Int32 × Int64 × Int64) ⊕ (Int32 × Int32 × Int32 × Int32 × Int32 × Int32 × Int32 × Int64 × Int64)) (hf : fX5_firstMisfit_78 o_fault o_place o_rows p1_wide p1_high p1_hex p1_ones p1_twos v2 v3 v4 v5 = some rr) (hG : G1 rr) (H : Heap) (locs : List Loc) (hP : va_P (dC, dI) vwCl [(h_o, .inr (4, [.ref h_o_bytes, .int o_length, .int o_fault, .int o_place, .int o_rows])), (h_o_bytes, .inl (ca 0, 200, .inl o_bytes_r)), (h_p1, .inr (5, [.int p1_wide, .int p1_high, .int p1_hex, .long p1_ones, .long p1_twos]))] H) (hD : va_D A [(h_o, .inr (4, [.ref h_o_bytes, .int o_length, .int o_fault, .int o_place, .int o_rows])), (h_o_bytes, .inl (ca 0, 200, .inl o_bytes_r)), (h_p1, .inr (5, [.int p1_wide, .int p1_high, .int p1_hex, .long p1_ones, .long p1_twos]))]) (hS : va_S A s.heap H locs) (ls : Array Slot) (hl : lv_has ls 6 [(0, .ref h_o), (1, .ref h_p1), (2, .int v2), (3, .int v3), (4, .int v4), (5, .int v5)]), WW H locs (F0 m 78 ls []) := by
        intro v2 v3 v4 v5 o_fault o_place o_rows p1_wide p1_high p1_hex p1_ones p1_twos rr hf hG H locs hP hD hS ls hl
        refine h2 ?_
        unfold fX5_firstMisfit_78 at hf
        refine lv_iload hx hb dX5_firstMisfit_78 (lv_at hl 5 rfl) ?_
        refine lv_bipush (v := 32) hx hb dX5_firstMisfit_80 (by decide) ?_
        refine lv_icmp_eq (tgt := 95) hx hb dX5_firstMisfit_82 (by decide) (fun c_82 => ?_) (fun c_82 => ?_)
        · replace hf := ds_t c_82 hf
          exact h1 (J_95 v2 v3 v4 o_fault o_place o_rows p1_wide p1_high p1_hex p1_ones p1_twos _ hf hG _ _ hP hD hS _ (lv_sub hl [0, 1, 2, 3, 4] rfl))
        · replace hf := ds_f c_82 hf
          refine lv_iload hx hb dX5_firstMisfit_85 (lv_at hl 5 rfl) ?_
          refine lv_bipush (v := 10) hx hb dX5_firstMisfit_87 (by decide) ?_
          refine lv_icmp_eq (tgt := 95) hx hb dX5_firstMisfit_89 (by decide) (fun c_89 => ?_) (fun c_89 => ?_)
          · replace hf := ds_t c_89 hf
            exact h1 (J_95 v2 v3 v4 o_fault o_place o_rows p1_wide p1_high p1_hex p1_ones p1_twos _ hf hG _ _ hP hD hS _ (lv_sub hl [0, 1, 2, 3, 4] rfl))
          · replace hf := ds_f c_89 hf
            refine lv_iload hx hb dX5_firstMisfit_92 (lv_at hl 4 rfl) ?_
            have hf := Option.some.inj hf
            subst hf
            rw [eG1] at hG
            replace hG : G0 _ := hG
            rw [eG0] at hG
            have hG : _ = res := hG
            subst hG
            exact W.iret (v := v4) hx hb hr (fun t ht hW => ⟨⟨v4, (), rfl, rfl, by rw [ht]; exact hP, hD⟩, hS.F ht⟩) hS.2.2 dX5_firstMisfit_94
      unfold fX5_firstMisfit_7_b at hf
      refine lv_iload hx hb dX5_firstMisfit_7 (lv_at hl 4 rfl) ?_
      refine lv_aload_n hx hb dX5_firstMisfit_9 rfl (lv_at hl 0 rfl) ?_
      refine va_get (D := (dC, dI)) (ci := 4) (v := .int o_length) (C := RX5) (T := TX5) (N := 5) hx hb hts (fun w h => List.mem_cons_of_mem _ (kc_X5 w h)) hown hK hP 0 rfl rfl 1 (by decide) (hg kw_295) (fun _ h9 => h9) rfl dX5_firstMisfit_10 ?_
      refine lv_icmp_ge (tgt := 108) hx hb dX5_firstMisfit_13 (by decide) (fun c_13 => ?_) (fun c_13 => ?_)
      · replace hf := ds_t c_13 hf
        obtain ⟨rr, hr_0, hf⟩ := ds_ob hf
        have hf := Option.some.inj hf
        subst hf
        rw [eG1] at hG
        replace hG : G0 rr := hG
        have hf := hr_0
        exact h1 (J_108 v2 o_fault o_place o_rows p1_wide p1_high p1_hex p1_ones p1_twos _ hf hG _ _ hP hD hS _ (lv_sub hl [0, 2] rfl))
      · replace hf := ds_f c_13 hf
        refine lv_aload_n hx hb dX5_firstMisfit_16 rfl (lv_at hl 0 rfl) ?_
        refine lv_iload hx hb dX5_firstMisfit_17 (lv_at hl 4 rfl) ?_
        obtain ⟨q19, hq19, hf⟩ := ds_ob hf
        refine ds_calli (wr := [(h_p1, .inr (5, [.int p1_wide, .int p1_high, .int p1_hex, .long p1_ones, .long p1_twos]))]) (va_runV (As := [.int v4]) (rest := []) ⟨hx, hb, hml, hown, hts⟩ (c_X5_byteAt l dC dI ca sa h_o h_o_bytes H.size o_length o_fault o_place o_rows o_bytes_r v4 q19 hq19) (cwV 1 hts (ds_gV kw_329 kw_330 kw_331 kw_313 kw_332) rfl rfl rfl (by decide +kernel) ⟨Nat.le_of_ble_eq_true rfl, Nat.le_of_ble_eq_true rfl⟩) ⟨ds_blind, va_recv hK hP (ci := 4) (q0 := 0) rfl rfl, ds_at hP hD hK hE hS hA [0, 1] rfl rfl _⟩ rfl rfl hl.1 rfl (lv_room (Nat.le_of_ble_eq_true rfl)) dX5_firstMisfit_19 ⟨Nat.zero_le _, Nat.zero_le _⟩) hP hD hS hA [0, 1] [2] rfl rfl rfl (by decide) (fun H locs hP hD hS => ?_)
        have hP : va_P (dC, dI) vwCl [(h_p1, .inr (5, [.int p1_wide, .int p1_high, .int p1_hex, .long p1_ones, .long p1_twos])), (h_o, .inr (4, [.ref h_o_bytes, .int o_length, .int o_fault, .int o_place, .int o_rows])), (h_o_bytes, .inl (ca 0, 200, .inl o_bytes_r))] H := hP
        have hD : va_D A [(h_p1, .inr (5, [.int p1_wide, .int p1_high, .int p1_hex, .long p1_ones, .long p1_twos])), (h_o, .inr (4, [.ref h_o_bytes, .int o_length, .int o_fault, .int o_place, .int o_rows])), (h_o_bytes, .inl (ca 0, 200, .inl o_bytes_r))] := hD
        refine lv_istore (lv' := [(5, .int q19), (0, .ref h_o), (1, .ref h_p1), (2, .int v2), (3, .int v3), (4, .int v4)]) hx hb dX5_firstMisfit_22 hl (by decide) rfl (fun ls hl => ?_)
        refine lv_iload hx hb dX5_firstMisfit_24 (lv_at hl 0 rfl) ?_
        obtain ⟨q26, hq26, hf⟩ := ds_ob hf
        refine ds_calli (wr := [(h_p1, .inr (5, [.int p1_wide, .int p1_high, .int p1_hex, .long p1_ones, .long p1_twos])), (h_o, .inr (4, [.ref h_o_bytes, .int o_length, .int o_fault, .int o_place, .int o_rows])), (h_o_bytes, .inl (ca 0, 200, .inl o_bytes_r))]) (va_runS (As := [.int q19]) (rest := []) ⟨hx, hb, hml, hown, hts⟩ (c_X5_isLetter l dC dI ca sa  H.size  q19 q26 hq26) (va_cwS 1 hts (ds_gS kw_333 kw_334 kw_313 kw_335) rfl rfl rfl (by decide +kernel) ⟨Nat.le_of_ble_eq_true rfl, Nat.le_of_ble_eq_true rfl⟩) ⟨ds_blind, ds_at hP hD hK hE hS hA [] rfl rfl _⟩ rfl rfl hl.1 rfl (lv_room (Nat.le_of_ble_eq_true rfl)) dX5_firstMisfit_26 ⟨Nat.zero_le _, Nat.zero_le _⟩) hP hD hS hA [] [0, 1, 2] rfl rfl rfl (by decide) (fun H locs hP hD hS => ?_)
        have hP : va_P (dC, dI) vwCl [(h_p1, .inr (5, [.int p1_wide, .int p1_high, .int p1_hex, .long p1_ones, .long p1_twos])), (h_o, .inr (4, [.ref h_o_bytes, .int o_length, .int o_fault, .int o_place, .int o_rows])), (h_o_bytes, .inl (ca 0, 200, .inl o_bytes_r))] H := hP
        have hD : va_D A [(h_p1, .inr (5, [.int p1_wide, .int p1_high, .int p1_hex, .long p1_ones, .long p1_twos])), (h_o, .inr (4, [.ref h_o_bytes, .int o_length, .int o_fault, .int o_place, .int o_rows])), (h_o_bytes, .inl (ca 0, 200, .inl o_bytes_r))] := hD
        refine lv_if_eq (tgt := 62) hx hb dX5_firstMisfit_29 (by decide) (fun c_29 => ?_) (fun c_29 => ?_)
        · replace hf := ds_t c_29 hf
          refine lv_iload hx hb dX5_firstMisfit_62 (lv_at hl 0 rfl) ?_
          refine lv_bipush (v := 59) hx hb dX5_firstMisfit_64 (by decide) ?_
          refine lv_icmp_ne (tgt := 78) hx hb dX5_firstMisfit_66 (by decide) (fun c_66 => ?_) (fun c_66 => ?_)
          · replace hf := ds_f c_66 hf
            exact h1 (J_78 v2 v3 v4 q19 o_fault o_place o_rows p1_wide p1_high p1_hex p1_ones p1_twos _ hf hG _ _ (hP.sub [1, 2, 0] rfl) (hD.sub [1, 2, 0] rfl rfl) hS _ (lv_sub hl [1, 2, 3, 4, 5, 0] rfl))
          · replace hf := ds_t c_66 hf
            refine lv_iload_n hx hb dX5_firstMisfit_69 rfl (lv_at hl 3 rfl) ?_
            refine lv_if_eq (tgt := 78) hx hb dX5_firstMisfit_70 (by decide) (fun c_70 => ?_) (fun c_70 => ?_)
            · replace hf := ds_t c_70 hf
              exact h1 (J_78 v2 v3 v4 q19 o_fault o_place o_rows p1_wide p1_high p1_hex p1_ones p1_twos _ hf hG _ _ (hP.sub [1, 2, 0] rfl) (hD.sub [1, 2, 0] rfl rfl) hS _ (lv_sub hl [1, 2, 3, 4, 5, 0] rfl))
            · replace hf := ds_f c_70 hf
              refine lv_iconst (v := 0) hx hb dX5_firstMisfit_73 (by decide) ?_
              refine lv_istore_n (lv' := [(2, .int (0 : Int32)), (5, .int q19), (0, .ref h_o), (1, .ref h_p1), (3, .int v3), (4, .int v4)]) hx hb dX5_firstMisfit_74 rfl hl (by decide) rfl (fun ls hl => ?_)
              refine lv_goto (tgt := 95) hx hb dX5_firstMisfit_75 (by decide) ?_
              exact h1 (J_95 (0 : Int32) v3 v4 o_fault o_place o_rows p1_wide p1_high p1_hex p1_ones p1_twos _ hf hG _ _ (hP.sub [1, 2, 0] rfl) (hD.sub [1, 2, 0] rfl rfl) hS _ (lv_sub hl [2, 3, 0, 4, 5] rfl))
        · replace hf := ds_f c_29 hf
          refine lv_aload_n hx hb dX5_firstMisfit_32 rfl (lv_at hl 1 rfl) ?_
          refine lv_iload hx hb dX5_firstMisfit_33 (lv_at hl 5 rfl) ?_
          obtain ⟨q35, hq35, hf⟩ := ds_ob hf
          refine ds_calli (wr := [(h_p1, .inr (5, [.int p1_wide, .int p1_high, .int p1_hex, .long p1_ones, .long p1_twos]))]) (va_runV (As := [.int v4]) (rest := []) ⟨hx, hb, hml, hown, hts⟩ (c_X5_wordEnd l dC dI ca sa h_o h_o_bytes H.size o_length o_fault o_place o_rows o_bytes_r v4 q35 hq35) (cwV 1 hts (ds_gV kw_368 kw_369 kw_370 kw_313 kw_371) rfl rfl rfl (by decide +kernel) ⟨Nat.le_of_ble_eq_true rfl, Nat.le_of_ble_eq_true rfl⟩) ⟨ds_blind, va_recv hK hP (ci := 4) (q0 := 1) rfl rfl, ds_at hP hD hK hE hS hA [1, 2] rfl rfl _⟩ rfl rfl hl.1 rfl (lv_room (Nat.le_of_ble_eq_true rfl)) dX5_firstMisfit_35 ⟨Nat.zero_le _, Nat.zero_le _⟩) hP hD hS hA [1, 2] [0] rfl rfl rfl (by decide) (fun H locs hP hD hS => ?_)
          have hP : va_P (dC, dI) vwCl [(h_p1, .inr (5, [.int p1_wide, .int p1_high, .int p1_hex, .long p1_ones, .long p1_twos])), (h_o, .inr (4, [.ref h_o_bytes, .int o_length, .int o_fault, .int o_place, .int o_rows])), (h_o_bytes, .inl (ca 0, 200, .inl o_bytes_r))] H := hP
          have hD : va_D A [(h_p1, .inr (5, [.int p1_wide, .int p1_high, .int p1_hex, .long p1_ones, .long p1_twos])), (h_o, .inr (4, [.ref h_o_bytes, .int o_length, .int o_fault, .int o_place, .int o_rows])), (h_o_bytes, .inl (ca 0, 200, .inl o_bytes_r))] := hD
          refine lv_istore_n (lv' := [(3, .int q35), (5, .int q19), (0, .ref h_o), (1, .ref h_p1), (2, .int v2), (4, .int v4)]) hx hb dX5_firstMisfit_38 rfl hl (by decide) rfl (fun ls hl => ?_)
          refine lv_iload_n hx hb dX5_firstMisfit_39 rfl (lv_at hl 4 rfl) ?_
          refine lv_if_ne (tgt := 54) hx hb dX5_firstMisfit_40 (by decide) (fun c_40 => ?_) (fun c_40 => ?_)
          · replace hf := ds_f c_40 hf
            refine lv_iload hx hb dX5_firstMisfit_54 (lv_at hl 5 rfl) ?_
            have hf := Option.some.inj hf
            subst hf
            rw [eG1] at hG
            replace hG : G0 _ := hG
            rw [eG0] at hG
            have hG : _ = res := hG
            subst hG
            exact W.iret (v := v4) hx hb hr (fun t ht hW => ⟨⟨v4, (), rfl, rfl, by rw [ht]; exact (hP.sub [1, 2, 0] rfl), (hD.sub [1, 2, 0] rfl rfl)⟩, hS.F ht⟩) hS.2.2 dX5_firstMisfit_56
          · replace hf := ds_t c_40 hf
            refine lv_aload_n hx hb dX5_firstMisfit_43 rfl (lv_at hl 2 rfl) ?_
            refine lv_aload_n hx hb dX5_firstMisfit_44 rfl (lv_at hl 3 rfl) ?_
            refine lv_iload hx hb dX5_firstMisfit_45 (lv_at hl 5 rfl) ?_
            refine lv_iload_n hx hb dX5_firstMisfit_47 rfl (lv_at hl 0 rfl) ?_
            obtain ⟨q48, hq48, hf⟩ := ds_ob hf
            refine ds_calli (wr := []) (va_runV (As := [.ref h_p1, .int v4, .int q35]) (rest := []) ⟨hx, hb, hml, hown, hts⟩ (c_X5_takesWord l dC dI ca sa h_o h_o_bytes h_p1 H.size o_length o_fault o_place o_rows o_bytes_r p1_wide p1_high p1_hex p1_ones p1_twos v4 q35 q48 hq48) (cwV 3 hts (ds_gV kw_372 kw_373 kw_374 kw_313 kw_375) rfl rfl rfl (by decide +kernel) ⟨Nat.le_of_ble_eq_true rfl, Nat.le_of_ble_eq_true rfl⟩) ⟨ds_blind, va_recv hK hP (ci := 4) (q0 := 1) rfl rfl, ds_at hP hD hK hE hS hA [1, 2, 0] rfl rfl _⟩ rfl rfl hl.1 rfl (lv_room (Nat.le_of_ble_eq_true rfl)) dX5_firstMisfit_48 ⟨Nat.zero_le _, Nat.zero_le _⟩) hP hD hS hA [1, 2, 0] [] rfl rfl rfl (by decide) (fun H locs hP hD hS => ?_)
            have hP : va_P (dC, dI) vwCl [(h_o, .inr (4, [.ref h_o_bytes, .int o_length, .int q48.2.1, .int q48.2.2.1, .int q48.2.2.2.1])), (h_o_bytes, .inl (ca 0, 200, .inl o_bytes_r)), (h_p1, .inr (5, [.int q48.2.2.2.2.1, .int q48.2.2.2.2.2.1, .int q48.2.2.2.2.2.2.1, .long q48.2.2.2.2.2.2.2.1, .long q48.2.2.2.2.2.2.2.2]))] H := hP
            have hD : va_D A [(h_o, .inr (4, [.ref h_o_bytes, .int o_length, .int q48.2.1, .int q48.2.2.1, .int q48.2.2.2.1])), (h_o_bytes, .inl (ca 0, 200, .inl o_bytes_r)), (h_p1, .inr (5, [.int q48.2.2.2.2.1, .int q48.2.2.2.2.2.1, .int q48.2.2.2.2.2.2.1, .long q48.2.2.2.2.2.2.2.1, .long q48.2.2.2.2.2.2.2.2]))] := hD
            refine lv_if_ne (tgt := 57) hx hb dX5_firstMisfit_51 (by decide) (fun c_51 => ?_) (fun c_51 => ?_)
            · replace hf := ds_f c_51 hf
              refine lv_iconst (v := 1) hx hb dX5_firstMisfit_57 (by decide) ?_
              refine lv_istore_n (lv' := [(2, .int (1 : Int32)), (3, .int q35), (5, .int q19), (0, .ref h_o), (1, .ref h_p1), (4, .int v4)]) hx hb dX5_firstMisfit_58 rfl hl (by decide) rfl (fun ls hl => ?_)
              refine lv_goto (tgt := 95) hx hb dX5_firstMisfit_59 (by decide) ?_
              exact h1 (J_95 (1 : Int32) q35 v4 q48.2.1 q48.2.2.1 q48.2.2.2.1 q48.2.2.2.2.1 q48.2.2.2.2.2.1 q48.2.2.2.2.2.2.1 q48.2.2.2.2.2.2.2.1 q48.2.2.2.2.2.2.2.2 _ hf hG _ _ hP hD hS _ (lv_sub hl [3, 4, 0, 1, 5] rfl))
            · replace hf := ds_t c_51 hf
              refine lv_iload hx hb dX5_firstMisfit_54 (lv_at hl 5 rfl) ?_
              have hf := Option.some.inj hf
              subst hf
              rw [eG1] at hG
              replace hG : G0 _ := hG
              rw [eG0] at hG
              have hG : _ = res := hG
              subst hG
              exact W.iret (v := v4) hx hb hr (fun t ht hW => ⟨⟨v4, (), rfl, rfl, by rw [ht]; exact hP, hD⟩, hS.F ht⟩) hS.2.2 dX5_firstMisfit_56
  unfold fX5_firstMisfit at hf
  refine lv_iconst (v := 0) hx hb dX5_firstMisfit_0 (by decide) ?_
  refine lv_istore_n (lv' := [(2, .int (0 : Int32)), (0, .ref h_o), (1, .ref h_p1)]) hx hb dX5_firstMisfit_1 rfl hl (by decide) rfl (fun ls hl => ?_)
  refine lv_iconst (v := 0) hx hb dX5_firstMisfit_2 (by decide) ?_
  refine lv_istore_n (lv' := [(3, .int (0 : Int32)), (2, .int (0 : Int32)), (0, .ref h_o), (1, .ref h_p1)]) hx hb dX5_firstMisfit_3 rfl hl (by decide) rfl (fun ls hl => ?_)
  refine lv_iconst (v := 0) hx hb dX5_firstMisfit_4 (by decide) ?_
  refine lv_istore (lv' := [(4, .int (0 : Int32)), (3, .int (0 : Int32)), (2, .int (0 : Int32)), (0, .ref h_o), (1, .ref h_p1)]) hx hb dX5_firstMisfit_5 hl (by decide) rfl (fun ls hl => ?_)
  exact h1 (J_7  1000 (0 : Int32) (0 : Int32) (0 : Int32) o_fault o_place o_rows p1_wide p1_high p1_hex p1_ones p1_twos _ hf hG _ _ hP hD hS _ (lv_sub hl [3, 4, 2, 1, 0] rfl))
theorem dX5_readInto_0 : decode cX5_readInto 0 = .ok (.aload_n 1, 1) := by decide +kernel
theorem dX5_readInto_1 : decode cX5_readInto 1 = .ok (.iconst 1, 1) := by decide +kernel
theorem dX5_readInto_2 : decode cX5_readInto 2 = .ok (.iconst 1, 1) := by decide +kernel
theorem dX5_readInto_3 : decode cX5_readInto 3 = .ok (.iconst 0, 1) := by decide +kernel
theorem dX5_readInto_4 : decode cX5_readInto 4 = .ok (.invokevirtual 29, 3) := by decide +kernel
theorem dX5_readInto_7 : decode cX5_readInto 7 = .ok (.aload_n 0, 1) := by decide +kernel
theorem dX5_readInto_8 : decode cX5_readInto 8 = .ok (.iconst 0, 1) := by decide +kernel
theorem dX5_readInto_9 : decode cX5_readInto 9 = .ok (.putfield 22, 3) := by decide +kernel
theorem dX5_readInto_12 : decode cX5_readInto 12 = .ok (.aload_n 0, 1) := by decide +kernel
theorem dX5_readInto_13 : decode cX5_readInto 13 = .ok (.iconst (-1), 1) := by decide +kernel
theorem dX5_readInto_14 : decode cX5_readInto 14 = .ok (.putfield 15, 3) := by decide +kernel
theorem dX5_readInto_17 : decode cX5_readInto 17 = .ok (.aload_n 0, 1) := by decide +kernel
theorem dX5_readInto_18 : decode cX5_readInto 18 = .ok (.iconst 0, 1) := by decide +kernel
theorem dX5_readInto_19 : decode cX5_readInto 19 = .ok (.putfield 35, 3) := by decide +kernel
theorem dX5_readInto_22 : decode cX5_readInto 22 = .ok (.aload_n 0, 1) := by decide +kernel
theorem dX5_readInto_23 : decode cX5_readInto 23 = .ok (.aload_n 1, 1) := by decide +kernel
theorem dX5_readInto_24 : decode cX5_readInto 24 = .ok (.invokevirtual 38, 3) := by decide +kernel
theorem dX5_readInto_27 : decode cX5_readInto 27 = .ok (.istore_n 2, 1) := by decide +kernel
theorem dX5_readInto_28 : decode cX5_readInto 28 = .ok (.iload_n 2, 1) := by decide +kernel
theorem dX5_readInto_29 : decode cX5_readInto 29 = .ok (.iconst (-1), 1) := by decide +kernel
theorem dX5_readInto_30 : decode cX5_readInto 30 = .ok (.if_icmp .eq 13, 3) := by decide +kernel
theorem dX5_readInto_33 : decode cX5_readInto 33 = .ok (.aload_n 0, 1) := by decide +kernel
theorem dX5_readInto_34 : decode cX5_readInto 34 = .ok (.iconst 1, 1) := by decide +kernel
theorem dX5_readInto_35 : decode cX5_readInto 35 = .ok (.putfield 22, 3) := by decide +kernel
theorem dX5_readInto_38 : decode cX5_readInto 38 = .ok (.aload_n 0, 1) := by decide +kernel
theorem dX5_readInto_39 : decode cX5_readInto 39 = .ok (.iload_n 2, 1) := by decide +kernel
theorem dX5_readInto_40 : decode cX5_readInto 40 = .ok (.putfield 15, 3) := by decide +kernel
theorem dX5_readInto_43 : decode cX5_readInto 43 = .ok (.aload_n 0, 1) := by decide +kernel
theorem dX5_readInto_44 : decode cX5_readInto 44 = .ok (.iconst 0, 1) := by decide +kernel
theorem dX5_readInto_45 : decode cX5_readInto 45 = .ok (.putfield 19, 3) := by decide +kernel
theorem dX5_readInto_48 : decode cX5_readInto 48 = .ok (.aload_n 0, 1) := by decide +kernel
theorem dX5_readInto_49 : decode cX5_readInto 49 = .ok (.getfield 22, 3) := by decide +kernel
theorem dX5_readInto_52 : decode cX5_readInto 52 = .ok (.ifCond .ne 7, 3) := by decide +kernel
theorem dX5_readInto_55 : decode cX5_readInto 55 = .ok (.iconst 1, 1) := by decide +kernel
theorem dX5_readInto_56 : decode cX5_readInto 56 = .ok (.goto 4, 3) := by decide +kernel
theorem dX5_readInto_59 : decode cX5_readInto 59 = .ok (.iconst 0, 1) := by decide +kernel
theorem dX5_readInto_60 : decode cX5_readInto 60 = .ok (.ireturn, 1) := by decide +kernel
def fX5_readInto_43 (p1_wide : Int32) (p1_high : Int32) (p1_hex : Int32) (p1_ones : Int64) (p1_twos : Int64) (o_fault : Int32) (o_place : Int32) (o_rows : Int32) : Option (Int32 × Int32 × Int32 × Int32 × Int64 × Int64 × Int32 × Int32 × Int32 × Int32) :=
  if o_fault = 0 then some ((1 : Int32), p1_wide, p1_high, p1_hex, p1_ones, p1_twos, (0 : Int32), o_fault, o_place, o_rows) else some ((0 : Int32), p1_wide, p1_high, p1_hex, p1_ones, p1_twos, (0 : Int32), o_fault, o_place, o_rows)
def fX5_readInto (o_length : Int32) (o_bytes_r : Nat → Int32) : Option (Int32 × Int32 × Int32 × Int32 × Int64 × Int64 × Int32 × Int32 × Int32 × Int32) :=
  Option.bind (fX6_clear (1 : Int32) (1 : Int32) (0 : Int32)) fun q4 => Option.bind (fX5_firstMisfit o_length (0 : Int32) (-1 : Int32) (0 : Int32) o_bytes_r q4.1 q4.2.1 q4.2.2.1 q4.2.2.2.1 q4.2.2.2.2) fun q24 => if q24.1 = (-1 : Int32) then fX5_readInto_43 q24.2.2.2.2.1 q24.2.2.2.2.2.1 q24.2.2.2.2.2.2.1 q24.2.2.2.2.2.2.2.1 q24.2.2.2.2.2.2.2.2 q24.2.1 q24.2.2.1 q24.2.2.2.1 else fX5_readInto_43 q24.2.2.2.2.1 q24.2.2.2.2.2.1 q24.2.2.2.2.2.2.1 q24.2.2.2.2.2.2.2.1 q24.2.2.2.2.2.2.2.2 (1 : Int32) q24.1 q24.2.2.2.1
set_option maxHeartbeats 4000000 in
set_option maxRecDepth 100000 in
theorem c_X5_readInto (l : Launch) (dC : Nat → ClassId) (dI : Nat → Nat → Nat) (ca : Nat → ClassId) (sa : Nat → Nat) (h_p1 : Nat) (h_o : Nat) (h_o_bytes : Nat) (sz : Nat) (p1_wide : Int32) (p1_high : Int32) (p1_hex : Int32) (p1_ones : Int64) (p1_twos : Int64) (o_length : Int32) (o_fault : Int32) (o_place : Int32) (o_rows : Int32) (o_bytes_r : Nat → Int32) (res : Int32 × Int32 × Int32 × Int32 × Int64 × Int64 × Int32 × Int32 × Int32 × Int32) (hf : fX5_readInto o_length o_bytes_r = some res) : Met l yX5_readInto (Cond.code yX5_readInto cX5_readInto 3 (some .boolean) :: ds_gw) { frames := 7, cells := 0, slots := 0, locals := 158 } (va_Pc [.ref h_o, .ref h_p1] (ds_Pre dC dI ca sa [(h_p1, .inr (5, [.int p1_wide, .int p1_high, .int p1_hex, .long p1_ones, .long p1_twos])), (h_o, .inr (4, [.ref h_o_bytes, .int o_length, .int o_fault, .int o_place, .int o_rows])), (h_o_bytes, .inl (ca 0, 200, .inl o_bytes_r))] sz)) (va_Qi (fun r (_ : Unit) => r = res.1) (ds_B dC dI (va_A [(h_p1, .inr (5, [.int p1_wide, .int p1_high, .int p1_hex, .long p1_ones, .long p1_twos])), (h_o, .inr (4, [.ref h_o_bytes, .int o_length, .int o_fault, .int o_place, .int o_rows])), (h_o_bytes, .inl (ca 0, 200, .inl o_bytes_r))] sz) [(h_p1, .inr (5, [.int res.2.1, .int res.2.2.1, .int res.2.2.2.1, .long res.2.2.2.2.1, .long res.2.2.2.2.2.1])), (h_o, .inr (4, [.ref h_o_bytes, .int res.2.2.2.2.2.2.1, .int res.2.2.2.2.2.2.2.1, .int res.2.2.2.2.2.2.2.2.1, .int res.2.2.2.2.2.2.2.2.2])), (h_o_bytes, .inl (ca 0, 200, .inl o_bytes_r))]) (va_A [(h_p1, .inr (5, [.int p1_wide, .int p1_high, .int p1_hex, .long p1_ones, .long p1_twos])), (h_o, .inr (4, [.ref h_o_bytes, .int o_length, .int o_fault, .int o_place, .int o_rows])), (h_o_bytes, .inl (ca 0, 200, .inl o_bytes_r))] sz)) 0 0 (va_A [(h_p1, .inr (5, [.int p1_wide, .int p1_high, .int p1_hex, .long p1_ones, .long p1_twos])), (h_o, .inr (4, [.ref h_o_bytes, .int o_length, .int o_fault, .int o_place, .int o_rows])), (h_o_bytes, .inl (ca 0, 200, .inl o_bytes_r))] sz) := by
  refine Met.ofW (cc := cX5_readInto) (maxL := 3) (ret := (some .boolean)) (by decide) rfl ?_
  intro p e s m args below meth c s₁ B hml hv
  obtain ⟨rfl, hsz, hP, hK, hD0, hE⟩ := hv
  have hx := B.exec
  have hb := B.bytes
  have hr := B.returns
  have hts := atoms_spec (ws := Cond.code yX5_readInto cX5_readInto 3 (some .boolean) :: ds_gw) B.pre
  have hg : ∀ {w : Cond}, w ∈ ds_gw → w.before _ s = true := fun h => hts _ (List.mem_cons_of_mem _ h)
  have hown : s.vm.findClass RX5 = some m.cls := findClass_of_methodNamed B.named
  have hlocks := B.notSynchronized
  subst hsz
  have hD := hD0.self (sz := s.heap.size)
  generalize hAe : va_A [(h_p1, .inr (5, [.int p1_wide, .int p1_high, .int p1_hex, .long p1_ones, .long p1_twos])), (h_o, .inr (4, [.ref h_o_bytes, .int o_length, .int o_fault, .int o_place, .int o_rows])), (h_o_bytes, .inl (ca 0, 200, .inl o_bytes_r))] s.heap.size = A at hD hE ⊢
  have hA : ∀ q : Nat, s.heap.size ≤ q → A q := fun q h => by rw [← hAe]; exact Or.inr h
  have hS : va_S A s.heap s.heap [] := va_S.rf
  have hl := lv_entry ([.ref h_o, .ref h_p1]) (n := 3) (Nat.le_of_ble_eq_true rfl)
  rw [lg_entry_eq]
  generalize (lg_sl ([.ref h_o, .ref h_p1]) ++ List.replicate (3 - (lg_sl ([.ref h_o, .ref h_p1])).length) Slot.unset).toArray = ls at hl ⊢
  have hl : lv_has ls 3 [(0, .ref h_o), (1, .ref h_p1)] := hl
  obtain ⟨G0, eG0⟩ : ∃ G : (Int32 × Int32 × Int32 × Int32 × Int64 × Int64 × Int32 × Int32 × Int32 × Int32) → Prop, G = (fun r => r = res) := ⟨_, rfl⟩
  obtain ⟨rr, hrr⟩ : ∃ z, z = res := ⟨_, rfl⟩
  rw [← hrr] at hf
  have hG : G0 rr := by subst eG0; exact hrr
  refine ds_cap (fun WW h1 h2 => ?_)
  have J_43 : ∀ (p1_wide : Int32) (p1_high : Int32) (p1_hex : Int32) (p1_ones : Int64) (p1_twos : Int64) (o_length : Int32) (o_fault : Int32) (o_place : Int32) (o_rows : Int32) (rr : Int32 × Int32 × Int32 × Int32 × Int64 × Int64 × Int32 × Int32 × Int32 × Int32) (hf : fX5_readInto_43 p1_wide p1_high p1_hex p1_ones p1_twos o_fault o_place o_rows = some rr) (hG : G0 rr) (H : Heap) (locs : List Loc) (hP : va_P (dC, dI) vwCl [(h_p1, .inr (5, [.int p1_wide, .int p1_high, .int p1_hex, .long p1_ones, .long p1_twos])), (h_o, .inr (4, [.ref h_o_bytes, .int o_length, .int o_fault, .int o_place, .int o_rows])), (h_o_bytes, .inl (ca 0, 200, .inl o_bytes_r))] H) (hD : va_D A [(h_p1, .inr (5, [.int p1_wide, .int p1_high, .int p1_hex, .long p1_ones, .long p1_twos])), (h_o, .inr (4, [.ref h_o_bytes, .int o_length, .int o_fault, .int o_place, .int o_rows])), (h_o_bytes, .inl (ca 0, 200, .inl o_bytes_r))]) (hS : va_S A s.heap H locs) (ls : Array Slot) (hl : lv_has ls 3 [(0, .ref h_o)]), WW H locs (F0 m 43 ls []) := by
    intro p1_wide p1_high p1_hex p1_ones p1_twos o_length o_fault o_place o_rows rr hf hG H locs hP hD hS ls hl
    refine h2 ?_
    unfold fX5_readInto_43 at hf
    refine lv_aload_n hx hb dX5_readInto_43 rfl (lv_at hl 0 rfl) ?_
    refine lv_iconst (v := 0) hx hb dX5_readInto_44 (by decide) ?_
    refine va_put (D := (dC, dI)) (ci := 4) (v := .int (0 : Int32)) (ty := tyX5 1) (C := RX5) (T := TX5) (N := 5) hx hb hts (fun w h => List.mem_cons_of_mem _ (kc_X5 w h)) tyX5 tyX5_ok nmX5 hown hK hP hD hS 1 rfl rfl 1 (by decide) (hg kw_295) (fun _ h9 => h9) rfl (by decide +kernel) rfl rfl (Nat.le_of_ble_eq_true rfl) dX5_readInto_45 (fun H locs hP hD hS => ?_)
    have hP : va_P (dC, dI) vwCl [(h_p1, .inr (5, [.int p1_wide, .int p1_high, .int p1_hex, .long p1_ones, .long p1_twos])), (h_o, .inr (4, [.ref h_o_bytes, .int (0 : Int32), .int o_fault, .int o_place, .int o_rows])), (h_o_bytes, .inl (ca 0, 200, .inl o_bytes_r))] H := hP
    have hD : va_D A [(h_p1, .inr (5, [.int p1_wide, .int p1_high, .int p1_hex, .long p1_ones, .long p1_twos])), (h_o, .inr (4, [.ref h_o_bytes, .int (0 : Int32), .int o_fault, .int o_place, .int o_rows])), (h_o_bytes, .inl (ca 0, 200, .inl o_bytes_r))] := hD
    refine lv_aload_n hx hb dX5_readInto_48 rfl (lv_at hl 0 rfl) ?_
    refine va_get (D := (dC, dI)) (ci := 4) (v := .int o_fault) (C := RX5) (T := TX5) (N := 5) hx hb hts (fun w h => List.mem_cons_of_mem _ (kc_X5 w h)) hown hK hP 1 rfl rfl 2 (by decide) (hg kw_301) (fun _ h9 => h9) rfl dX5_readInto_49 ?_
    refine lv_if_ne (tgt := 59) hx hb dX5_readInto_52 (by decide) (fun c_52 => ?_) (fun c_52 => ?_)
    · replace hf := ds_f c_52 hf
      refine lv_iconst (v := 0) hx hb dX5_readInto_59 (by decide) ?_
      have hf := Option.some.inj hf
      subst hf
      rw [eG0] at hG
      have hG : _ = res := hG
      subst hG
      exact W.zret (v := (0 : Int32)) (ty := .boolean) hx hb hr rfl (fun t ht hW => ⟨⟨(0 : Int32), (), rfl, rfl, by rw [ht]; exact hP, hD⟩, hS.F ht⟩) hS.2.2 dX5_readInto_60
    · replace hf := ds_t c_52 hf
      refine lv_iconst (v := 1) hx hb dX5_readInto_55 (by decide) ?_
      refine lv_goto (tgt := 60) hx hb dX5_readInto_56 (by decide) ?_
      have hf := Option.some.inj hf
      subst hf
      rw [eG0] at hG
      have hG : _ = res := hG
      subst hG
      exact W.zret (v := (1 : Int32)) (ty := .boolean) hx hb hr rfl (fun t ht hW => ⟨⟨(1 : Int32), (), rfl, rfl, by rw [ht]; exact hP, hD⟩, hS.F ht⟩) hS.2.2 dX5_readInto_60
  unfold fX5_readInto at hf
  refine lv_aload_n hx hb dX5_readInto_0 rfl (lv_at hl 1 rfl) ?_
  refine lv_iconst (v := 1) hx hb dX5_readInto_1 (by decide) ?_
  refine lv_iconst (v := 1) hx hb dX5_readInto_2 (by decide) ?_
  refine lv_iconst (v := 0) hx hb dX5_readInto_3 (by decide) ?_
  obtain ⟨q4, hq4, hf⟩ := ds_ob hf
  refine ds_callv (wr := [(h_o, .inr (4, [.ref h_o_bytes, .int o_length, .int o_fault, .int o_place, .int o_rows])), (h_o_bytes, .inl (ca 0, 200, .inl o_bytes_r))]) (va_runV (As := [.int (1 : Int32), .int (1 : Int32), .int (0 : Int32)]) (rest := []) ⟨hx, hb, hml, hown, hts⟩ (c_X6_clear l dC dI ca sa h_p1 s.heap.size p1_wide p1_high p1_hex p1_ones p1_twos (1 : Int32) (1 : Int32) (0 : Int32) q4 hq4) (cwV 3 hts (ds_gV kw_376 kw_86 kw_87 kw_59 kw_88) rfl rfl rfl (by decide +kernel) ⟨Nat.le_of_ble_eq_true rfl, Nat.le_of_ble_eq_true rfl⟩) ⟨ds_blind, va_recv hK hP (ci := 5) (q0 := 0) rfl rfl, ds_at hP hD hK hE hS hA [0] rfl rfl _⟩ rfl rfl hl.1 rfl (lv_room (Nat.le_of_ble_eq_true rfl)) dX5_readInto_4 ⟨Nat.zero_le _, Nat.zero_le _⟩) hP hD hS hA [0] [1, 2] rfl rfl rfl (by decide) (fun H locs hP hD hS => ?_)
  have hP : va_P (dC, dI) vwCl [(h_o, .inr (4, [.ref h_o_bytes, .int o_length, .int o_fault, .int o_place, .int o_rows])), (h_o_bytes, .inl (ca 0, 200, .inl o_bytes_r)), (h_p1, .inr (5, [.int q4.1, .int q4.2.1, .int q4.2.2.1, .long q4.2.2.2.1, .long q4.2.2.2.2]))] H := hP
  have hD : va_D A [(h_o, .inr (4, [.ref h_o_bytes, .int o_length, .int o_fault, .int o_place, .int o_rows])), (h_o_bytes, .inl (ca 0, 200, .inl o_bytes_r)), (h_p1, .inr (5, [.int q4.1, .int q4.2.1, .int q4.2.2.1, .long q4.2.2.2.1, .long q4.2.2.2.2]))] := hD
  refine lv_aload_n hx hb dX5_readInto_7 rfl (lv_at hl 0 rfl) ?_
  refine lv_iconst (v := 0) hx hb dX5_readInto_8 (by decide) ?_
  refine va_put (D := (dC, dI)) (ci := 4) (v := .int (0 : Int32)) (ty := tyX5 2) (C := RX5) (T := TX5) (N := 5) hx hb hts (fun w h => List.mem_cons_of_mem _ (kc_X5 w h)) tyX5 tyX5_ok nmX5 hown hK hP hD hS 0 rfl rfl 2 (by decide) (hg kw_301) (fun _ h9 => h9) rfl (by decide +kernel) rfl rfl (Nat.le_of_ble_eq_true rfl) dX5_readInto_9 (fun H locs hP hD hS => ?_)
  have hP : va_P (dC, dI) vwCl [(h_o, .inr (4, [.ref h_o_bytes, .int o_length, .int (0 : Int32), .int o_place, .int o_rows])), (h_o_bytes, .inl (ca 0, 200, .inl o_bytes_r)), (h_p1, .inr (5, [.int q4.1, .int q4.2.1, .int q4.2.2.1, .long q4.2.2.2.1, .long q4.2.2.2.2]))] H := hP
  have hD : va_D A [(h_o, .inr (4, [.ref h_o_bytes, .int o_length, .int (0 : Int32), .int o_place, .int o_rows])), (h_o_bytes, .inl (ca 0, 200, .inl o_bytes_r)), (h_p1, .inr (5, [.int q4.1, .int q4.2.1, .int q4.2.2.1, .long q4.2.2.2.1, .long q4.2.2.2.2]))] := hD
  refine lv_aload_n hx hb dX5_readInto_12 rfl (lv_at hl 0 rfl) ?_
  refine lv_iconst (v := -1) hx hb dX5_readInto_13 (by decide) ?_
  refine va_put (D := (dC, dI)) (ci := 4) (v := .int (-1 : Int32)) (ty := tyX5 3) (C := RX5) (T := TX5) (N := 5) hx hb hts (fun w h => List.mem_cons_of_mem _ (kc_X5 w h)) tyX5 tyX5_ok nmX5 hown hK hP hD hS 0 rfl rfl 3 (by decide) (hg kw_302) (fun _ h9 => h9) rfl (by decide +kernel) rfl rfl (Nat.le_of_ble_eq_true rfl) dX5_readInto_14 (fun H locs hP hD hS => ?_)
  have hP : va_P (dC, dI) vwCl [(h_o, .inr (4, [.ref h_o_bytes, .int o_length, .int (0 : Int32), .int (-1 : Int32), .int o_rows])), (h_o_bytes, .inl (ca 0, 200, .inl o_bytes_r)), (h_p1, .inr (5, [.int q4.1, .int q4.2.1, .int q4.2.2.1, .long q4.2.2.2.1, .long q4.2.2.2.2]))] H := hP
  have hD : va_D A [(h_o, .inr (4, [.ref h_o_bytes, .int o_length, .int (0 : Int32), .int (-1 : Int32), .int o_rows])), (h_o_bytes, .inl (ca 0, 200, .inl o_bytes_r)), (h_p1, .inr (5, [.int q4.1, .int q4.2.1, .int q4.2.2.1, .long q4.2.2.2.1, .long q4.2.2.2.2]))] := hD
  refine lv_aload_n hx hb dX5_readInto_17 rfl (lv_at hl 0 rfl) ?_
  refine lv_iconst (v := 0) hx hb dX5_readInto_18 (by decide) ?_
  refine va_put (D := (dC, dI)) (ci := 4) (v := .int (0 : Int32)) (ty := tyX5 4) (C := RX5) (T := TX5) (N := 5) hx hb hts (fun w h => List.mem_cons_of_mem _ (kc_X5 w h)) tyX5 tyX5_ok nmX5 hown hK hP hD hS 0 rfl rfl 4 (by decide) (hg kw_344) (fun _ h9 => h9) rfl (by decide +kernel) rfl rfl (Nat.le_of_ble_eq_true rfl) dX5_readInto_19 (fun H locs hP hD hS => ?_)
  have hP : va_P (dC, dI) vwCl [(h_o, .inr (4, [.ref h_o_bytes, .int o_length, .int (0 : Int32), .int (-1 : Int32), .int (0 : Int32)])), (h_o_bytes, .inl (ca 0, 200, .inl o_bytes_r)), (h_p1, .inr (5, [.int q4.1, .int q4.2.1, .int q4.2.2.1, .long q4.2.2.2.1, .long q4.2.2.2.2]))] H := hP
  have hD : va_D A [(h_o, .inr (4, [.ref h_o_bytes, .int o_length, .int (0 : Int32), .int (-1 : Int32), .int (0 : Int32)])), (h_o_bytes, .inl (ca 0, 200, .inl o_bytes_r)), (h_p1, .inr (5, [.int q4.1, .int q4.2.1, .int q4.2.2.1, .long q4.2.2.2.1, .long q4.2.2.2.2]))] := hD
  refine lv_aload_n hx hb dX5_readInto_22 rfl (lv_at hl 0 rfl) ?_
  refine lv_aload_n hx hb dX5_readInto_23 rfl (lv_at hl 1 rfl) ?_
  obtain ⟨q24, hq24, hf⟩ := ds_ob hf
  refine ds_calli (wr := []) (va_runV (As := [.ref h_p1]) (rest := []) ⟨hx, hb, hml, hown, hts⟩ (c_X5_firstMisfit l dC dI ca sa h_o h_o_bytes h_p1 H.size o_length (0 : Int32) (-1 : Int32) (0 : Int32) o_bytes_r q4.1 q4.2.1 q4.2.2.1 q4.2.2.2.1 q4.2.2.2.2  q24 hq24) (cwV 1 hts (ds_gV kw_377 kw_378 kw_379 kw_313 kw_380) rfl rfl rfl (by decide +kernel) ⟨Nat.le_of_ble_eq_true rfl, Nat.le_of_ble_eq_true rfl⟩) ⟨ds_blind, va_recv hK hP (ci := 4) (q0 := 0) rfl rfl, ds_at hP hD hK hE hS hA [0, 1, 2] rfl rfl _⟩ rfl rfl hl.1 rfl (lv_room (Nat.le_of_ble_eq_true rfl)) dX5_readInto_24 ⟨Nat.zero_le _, Nat.zero_le _⟩) hP hD hS hA [0, 1, 2] [] rfl rfl rfl (by decide) (fun H locs hP hD hS => ?_)
  have hP : va_P (dC, dI) vwCl [(h_o, .inr (4, [.ref h_o_bytes, .int o_length, .int q24.2.1, .int q24.2.2.1, .int q24.2.2.2.1])), (h_o_bytes, .inl (ca 0, 200, .inl o_bytes_r)), (h_p1, .inr (5, [.int q24.2.2.2.2.1, .int q24.2.2.2.2.2.1, .int q24.2.2.2.2.2.2.1, .long q24.2.2.2.2.2.2.2.1, .long q24.2.2.2.2.2.2.2.2]))] H := hP
  have hD : va_D A [(h_o, .inr (4, [.ref h_o_bytes, .int o_length, .int q24.2.1, .int q24.2.2.1, .int q24.2.2.2.1])), (h_o_bytes, .inl (ca 0, 200, .inl o_bytes_r)), (h_p1, .inr (5, [.int q24.2.2.2.2.1, .int q24.2.2.2.2.2.1, .int q24.2.2.2.2.2.2.1, .long q24.2.2.2.2.2.2.2.1, .long q24.2.2.2.2.2.2.2.2]))] := hD
  refine lv_istore_n (lv' := [(2, .int q24.1), (0, .ref h_o), (1, .ref h_p1)]) hx hb dX5_readInto_27 rfl hl (by decide) rfl (fun ls hl => ?_)
  refine lv_iload_n hx hb dX5_readInto_28 rfl (lv_at hl 0 rfl) ?_
  refine lv_iconst (v := -1) hx hb dX5_readInto_29 (by decide) ?_
  refine lv_icmp_eq (tgt := 43) hx hb dX5_readInto_30 (by decide) (fun c_30 => ?_) (fun c_30 => ?_)
  · replace hf := ds_t c_30 hf
    exact h1 (J_43 q24.2.2.2.2.1 q24.2.2.2.2.2.1 q24.2.2.2.2.2.2.1 q24.2.2.2.2.2.2.2.1 q24.2.2.2.2.2.2.2.2 o_length q24.2.1 q24.2.2.1 q24.2.2.2.1 _ hf hG _ _ (hP.sub [2, 0, 1] rfl) (hD.sub [2, 0, 1] rfl rfl) hS _ (lv_sub hl [1] rfl))
  · replace hf := ds_f c_30 hf
    refine lv_aload_n hx hb dX5_readInto_33 rfl (lv_at hl 1 rfl) ?_
    refine lv_iconst (v := 1) hx hb dX5_readInto_34 (by decide) ?_
    refine va_put (D := (dC, dI)) (ci := 4) (v := .int (1 : Int32)) (ty := tyX5 2) (C := RX5) (T := TX5) (N := 5) hx hb hts (fun w h => List.mem_cons_of_mem _ (kc_X5 w h)) tyX5 tyX5_ok nmX5 hown hK hP hD hS 0 rfl rfl 2 (by decide) (hg kw_301) (fun _ h9 => h9) rfl (by decide +kernel) rfl rfl (Nat.le_of_ble_eq_true rfl) dX5_readInto_35 (fun H locs hP hD hS => ?_)
    have hP : va_P (dC, dI) vwCl [(h_o, .inr (4, [.ref h_o_bytes, .int o_length, .int (1 : Int32), .int q24.2.2.1, .int q24.2.2.2.1])), (h_o_bytes, .inl (ca 0, 200, .inl o_bytes_r)), (h_p1, .inr (5, [.int q24.2.2.2.2.1, .int q24.2.2.2.2.2.1, .int q24.2.2.2.2.2.2.1, .long q24.2.2.2.2.2.2.2.1, .long q24.2.2.2.2.2.2.2.2]))] H := hP
    have hD : va_D A [(h_o, .inr (4, [.ref h_o_bytes, .int o_length, .int (1 : Int32), .int q24.2.2.1, .int q24.2.2.2.1])), (h_o_bytes, .inl (ca 0, 200, .inl o_bytes_r)), (h_p1, .inr (5, [.int q24.2.2.2.2.1, .int q24.2.2.2.2.2.1, .int q24.2.2.2.2.2.2.1, .long q24.2.2.2.2.2.2.2.1, .long q24.2.2.2.2.2.2.2.2]))] := hD
    refine lv_aload_n hx hb dX5_readInto_38 rfl (lv_at hl 1 rfl) ?_
    refine lv_iload_n hx hb dX5_readInto_39 rfl (lv_at hl 0 rfl) ?_
    refine va_put (D := (dC, dI)) (ci := 4) (v := .int q24.1) (ty := tyX5 3) (C := RX5) (T := TX5) (N := 5) hx hb hts (fun w h => List.mem_cons_of_mem _ (kc_X5 w h)) tyX5 tyX5_ok nmX5 hown hK hP hD hS 0 rfl rfl 3 (by decide) (hg kw_302) (fun _ h9 => h9) rfl (by decide +kernel) rfl rfl (Nat.le_of_ble_eq_true rfl) dX5_readInto_40 (fun H locs hP hD hS => ?_)
    have hP : va_P (dC, dI) vwCl [(h_o, .inr (4, [.ref h_o_bytes, .int o_length, .int (1 : Int32), .int q24.1, .int q24.2.2.2.1])), (h_o_bytes, .inl (ca 0, 200, .inl o_bytes_r)), (h_p1, .inr (5, [.int q24.2.2.2.2.1, .int q24.2.2.2.2.2.1, .int q24.2.2.2.2.2.2.1, .long q24.2.2.2.2.2.2.2.1, .long q24.2.2.2.2.2.2.2.2]))] H := hP
    have hD : va_D A [(h_o, .inr (4, [.ref h_o_bytes, .int o_length, .int (1 : Int32), .int q24.1, .int q24.2.2.2.1])), (h_o_bytes, .inl (ca 0, 200, .inl o_bytes_r)), (h_p1, .inr (5, [.int q24.2.2.2.2.1, .int q24.2.2.2.2.2.1, .int q24.2.2.2.2.2.2.1, .long q24.2.2.2.2.2.2.2.1, .long q24.2.2.2.2.2.2.2.2]))] := hD
    exact h1 (J_43 q24.2.2.2.2.1 q24.2.2.2.2.2.1 q24.2.2.2.2.2.2.1 q24.2.2.2.2.2.2.2.1 q24.2.2.2.2.2.2.2.2 o_length (1 : Int32) q24.1 q24.2.2.2.1 _ hf hG _ _ (hP.sub [2, 0, 1] rfl) (hD.sub [2, 0, 1] rfl rfl) hS _ (lv_sub hl [1] rfl))
