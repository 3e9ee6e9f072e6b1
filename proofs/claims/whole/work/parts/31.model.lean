theorem dX8_shiftsOf_0 : decode cX8_shiftsOf 0 = .ok (.iconst 0, 1) := by decide +kernel
theorem dX8_shiftsOf_1 : decode cX8_shiftsOf 1 = .ok (.istore_n 2, 1) := by decide +kernel
theorem dX8_shiftsOf_2 : decode cX8_shiftsOf 2 = .ok (.iconst 0, 1) := by decide +kernel
theorem dX8_shiftsOf_3 : decode cX8_shiftsOf 3 = .ok (.istore_n 3, 1) := by decide +kernel
theorem dX8_shiftsOf_4 : decode cX8_shiftsOf 4 = .ok (.iload_n 3, 1) := by decide +kernel
theorem dX8_shiftsOf_5 : decode cX8_shiftsOf 5 = .ok (.aload_n 0, 1) := by decide +kernel
theorem dX8_shiftsOf_6 : decode cX8_shiftsOf 6 = .ok (.getfield 19, 3) := by decide +kernel
theorem dX8_shiftsOf_9 : decode cX8_shiftsOf 9 = .ok (.iconst 1, 1) := by decide +kernel
theorem dX8_shiftsOf_10 : decode cX8_shiftsOf 10 = .ok (.iaload, 1) := by decide +kernel
theorem dX8_shiftsOf_11 : decode cX8_shiftsOf 11 = .ok (.if_icmp .ge 57, 3) := by decide +kernel
theorem dX8_shiftsOf_14 : decode cX8_shiftsOf 14 = .ok (.iconst 0, 1) := by decide +kernel
theorem dX8_shiftsOf_15 : decode cX8_shiftsOf 15 = .ok (.istore 4, 2) := by decide +kernel
theorem dX8_shiftsOf_17 : decode cX8_shiftsOf 17 = .ok (.iload 4, 2) := by decide +kernel
theorem dX8_shiftsOf_19 : decode cX8_shiftsOf 19 = .ok (.aload_n 0, 1) := by decide +kernel
theorem dX8_shiftsOf_20 : decode cX8_shiftsOf 20 = .ok (.getfield 19, 3) := by decide +kernel
theorem dX8_shiftsOf_23 : decode cX8_shiftsOf 23 = .ok (.iconst 0, 1) := by decide +kernel
theorem dX8_shiftsOf_24 : decode cX8_shiftsOf 24 = .ok (.iaload, 1) := by decide +kernel
theorem dX8_shiftsOf_25 : decode cX8_shiftsOf 25 = .ok (.if_icmp .ge 37, 3) := by decide +kernel
theorem dX8_shiftsOf_28 : decode cX8_shiftsOf 28 = .ok (.iload_n 2, 1) := by decide +kernel
theorem dX8_shiftsOf_29 : decode cX8_shiftsOf 29 = .ok (.aload_n 0, 1) := by decide +kernel
theorem dX8_shiftsOf_30 : decode cX8_shiftsOf 30 = .ok (.getfield 36, 3) := by decide +kernel
theorem dX8_shiftsOf_33 : decode cX8_shiftsOf 33 = .ok (.bipush 64, 2) := by decide +kernel
theorem dX8_shiftsOf_35 : decode cX8_shiftsOf 35 = .ok (.iload_n 1, 1) := by decide +kernel
theorem dX8_shiftsOf_36 : decode cX8_shiftsOf 36 = .ok (.imul, 1) := by decide +kernel
theorem dX8_shiftsOf_37 : decode cX8_shiftsOf 37 = .ok (.bipush 8, 2) := by decide +kernel
theorem dX8_shiftsOf_39 : decode cX8_shiftsOf 39 = .ok (.iload_n 3, 1) := by decide +kernel
theorem dX8_shiftsOf_40 : decode cX8_shiftsOf 40 = .ok (.imul, 1) := by decide +kernel
theorem dX8_shiftsOf_41 : decode cX8_shiftsOf 41 = .ok (.iadd, 1) := by decide +kernel
theorem dX8_shiftsOf_42 : decode cX8_shiftsOf 42 = .ok (.iload 4, 2) := by decide +kernel
theorem dX8_shiftsOf_44 : decode cX8_shiftsOf 44 = .ok (.iadd, 1) := by decide +kernel
theorem dX8_shiftsOf_45 : decode cX8_shiftsOf 45 = .ok (.baload, 1) := by decide +kernel
theorem dX8_shiftsOf_46 : decode cX8_shiftsOf 46 = .ok (.ifCond .eq 7, 3) := by decide +kernel
theorem dX8_shiftsOf_49 : decode cX8_shiftsOf 49 = .ok (.iconst 1, 1) := by decide +kernel
theorem dX8_shiftsOf_50 : decode cX8_shiftsOf 50 = .ok (.goto 4, 3) := by decide +kernel
theorem dX8_shiftsOf_53 : decode cX8_shiftsOf 53 = .ok (.iconst 0, 1) := by decide +kernel
theorem dX8_shiftsOf_54 : decode cX8_shiftsOf 54 = .ok (.iadd, 1) := by decide +kernel
theorem dX8_shiftsOf_55 : decode cX8_shiftsOf 55 = .ok (.istore_n 2, 1) := by decide +kernel
theorem dX8_shiftsOf_56 : decode cX8_shiftsOf 56 = .ok (.iinc 4 1, 3) := by decide +kernel
theorem dX8_shiftsOf_59 : decode cX8_shiftsOf 59 = .ok (.goto (-42), 3) := by decide +kernel
theorem dX8_shiftsOf_62 : decode cX8_shiftsOf 62 = .ok (.iinc 3 1, 3) := by decide +kernel
theorem dX8_shiftsOf_65 : decode cX8_shiftsOf 65 = .ok (.goto (-61), 3) := by decide +kernel
theorem dX8_shiftsOf_68 : decode cX8_shiftsOf 68 = .ok (.iload_n 2, 1) := by decide +kernel
theorem dX8_shiftsOf_69 : decode cX8_shiftsOf 69 = .ok (.ireturn, 1) := by decide +kernel
def fX8_shiftsOf_62 (v2 : Int32) (v3 : Int32) : Option ((Int32 × Int32) ⊕ (Int32)) :=
  some (.inl (v2, (v3 + 1)))
def fX8_shiftsOf_54 (v4 : Int32) (s0 : Int32) (s1 : Int32) : Option ((Int32 × Int32) ⊕ ((Int32 × Int32) ⊕ (Int32))) :=
  some (.inl ((s1 + s0), (v4 + 1)))
def fX8_shiftsOf_17_b (o_all_r : Nat → Int32) (o_shift_r : Nat → Int32) (p1 : Int32) (v3 : Int32) (v2 : Int32) (v4 : Int32) : Option ((Int32 × Int32) ⊕ ((Int32 × Int32) ⊕ (Int32))) :=
  if (o_all_r (0 : Int32).toNatClampNeg) ≤ v4 then Option.bind (fX8_shiftsOf_62 v2 v3) fun z => some (.inr z) else if ds_in ((((64 : Int32) * p1) + ((8 : Int32) * v3)) + v4) 768 = true then if (o_shift_r ((((64 : Int32) * p1) + ((8 : Int32) * v3)) + v4).toNatClampNeg) = 0 then fX8_shiftsOf_54 v4 (0 : Int32) v2 else fX8_shiftsOf_54 v4 (1 : Int32) v2 else none
def fX8_shiftsOf_17 (o_all_r : Nat → Int32) (o_shift_r : Nat → Int32) (p1 : Int32) (v3 : Int32) (v2 : Int32) (v4 : Int32) : Option ((Int32 × Int32) ⊕ (Int32)) := ds_it (fun s => fX8_shiftsOf_17_b o_all_r o_shift_r p1 v3 s.1 s.2) 1000 (v2, v4)
def fX8_shiftsOf_4_b (o_all_r : Nat → Int32) (o_shift_r : Nat → Int32) (p1 : Int32) (v2 : Int32) (v3 : Int32) : Option ((Int32 × Int32) ⊕ (Int32)) :=
  if (o_all_r (1 : Int32).toNatClampNeg) ≤ v3 then some (.inr v2) else fX8_shiftsOf_17 o_all_r o_shift_r p1 v3 v2 (0 : Int32)
def fX8_shiftsOf_4 (o_all_r : Nat → Int32) (o_shift_r : Nat → Int32) (p1 : Int32) (v2 : Int32) (v3 : Int32) : Option (Int32) := ds_it (fun s => fX8_shiftsOf_4_b o_all_r o_shift_r p1 s.1 s.2) 1000 (v2, v3)
def fX8_shiftsOf (o_all_r : Nat → Int32) (o_shift_r : Nat → Int32) (p1 : Int32) : Option (Int32) :=
  fX8_shiftsOf_4 o_all_r o_shift_r p1 (0 : Int32) (0 : Int32)
set_option maxHeartbeats 4000000 in
set_option maxRecDepth 100000 in
theorem c_X8_shiftsOf (l : Launch) (dC : Nat → ClassId) (dI : Nat → Nat → Nat) (ca : Nat → ClassId) (sa : Nat → Nat) (h_o : Nat) (h_o_plans : Nat) (h_o_makers : Nat) (h_o_halves : Nat) (h_o_all : Nat) (h_o_text : Nat) (h_o_saved : Nat) (h_o_undone : Nat) (h_o_told : Nat) (h_o_shift : Nat) (h_o_rootOf : Nat) (h_o_becomes : Nat) (h_o_comes : Nat) (h_o_next : Nat) (sz : Nat) (o_raised : Int32) (o_undos : Int32) (o_reached : Int32) (o_length : Int32) (o_begin : Int32) (o_letters : Int32) (o_sort : Int32) (o_word : Int64) (o_wrongAt : Int32) (o_badAt : Int32) (o_bad : Int32) (o_firstX : Int32) (o_firstY : Int32) (o_secondX : Int32) (o_secondY : Int32) (o_x : Int32) (o_all_r : Nat → Int32) (o_shift_r : Nat → Int32) (p1 : Int32) (res : Int32) (hf : fX8_shiftsOf o_all_r o_shift_r p1 = some res) : Met l yX8_shiftsOf (Cond.code yX8_shiftsOf cX8_shiftsOf 5 (some .int) :: ds_gw) { frames := 0, cells := 0, slots := 0, locals := 0 } (va_Pc [.ref h_o, .int p1] (ds_Pre dC dI ca sa [(h_o, .inr (7, [.ref h_o_plans, .ref h_o_makers, .ref h_o_halves, .int o_raised, .ref h_o_all, .ref h_o_text, .ref h_o_saved, .ref h_o_undone, .int o_undos, .int o_reached, .int o_length, .int o_begin, .int o_letters, .int o_sort, .long o_word, .int o_wrongAt, .int o_badAt, .int o_bad, .ref h_o_told, .ref h_o_shift, .int o_firstX, .int o_firstY, .int o_secondX, .int o_secondY, .ref h_o_rootOf, .ref h_o_becomes, .ref h_o_comes, .ref h_o_next, .int o_x])), (h_o_all, .inl (ca 0, 350, .inl o_all_r)), (h_o_shift, .inl (ca 3, 768, .inl o_shift_r))] sz)) (va_Qi (fun r (_ : Unit) => r = res) (ds_B dC dI (va_A [(h_o, .inr (7, [.ref h_o_plans, .ref h_o_makers, .ref h_o_halves, .int o_raised, .ref h_o_all, .ref h_o_text, .ref h_o_saved, .ref h_o_undone, .int o_undos, .int o_reached, .int o_length, .int o_begin, .int o_letters, .int o_sort, .long o_word, .int o_wrongAt, .int o_badAt, .int o_bad, .ref h_o_told, .ref h_o_shift, .int o_firstX, .int o_firstY, .int o_secondX, .int o_secondY, .ref h_o_rootOf, .ref h_o_becomes, .ref h_o_comes, .ref h_o_next, .int o_x])), (h_o_all, .inl (ca 0, 350, .inl o_all_r)), (h_o_shift, .inl (ca 3, 768, .inl o_shift_r))] sz) [(h_o, .inr (7, [.ref h_o_plans, .ref h_o_makers, .ref h_o_halves, .int o_raised, .ref h_o_all, .ref h_o_text, .ref h_o_saved, .ref h_o_undone, .int o_undos, .int o_reached, .int o_length, .int o_begin, .int o_letters, .int o_sort, .long o_word, .int o_wrongAt, .int o_badAt, .int o_bad, .ref h_o_told, .ref h_o_shift, .int o_firstX, .int o_firstY, .int o_secondX, .int o_secondY, .ref h_o_rootOf, .ref h_o_becomes, .ref h_o_comes, .ref h_o_next, .int o_x])), (h_o_all, .inl (ca 0, 350, .inl o_all_r)), (h_o_shift, .inl (ca 3, 768, .inl o_shift_r))]) (va_A [(h_o, .inr (7, [.ref h_o_plans, .ref h_o_makers, .ref h_o_halves, .int o_raised, .ref h_o_all, .ref h_o_text, .ref h_o_saved, .ref h_o_undone, .int o_undos, .int o_reached, .int o_length, .int o_begin, .int o_letters, .int o_sort, .long o_word, .int o_wrongAt, .int o_badAt, .int o_bad, .ref h_o_told, .ref h_o_shift, .int o_firstX, .int o_firstY, .int o_secondX, .int o_secondY, .ref h_o_rootOf, .ref h_o_becomes, .ref h_o_comes, .ref h_o_next, .int o_x])), (h_o_all, .inl (ca 0, 350, .inl o_all_r)), (h_o_shift, .inl (ca 3, 768, .inl o_shift_r))] sz)) 0 0 (va_A [(h_o, .inr (7, [.ref h_o_plans, .ref h_o_makers, .ref h_o_halves, .int o_raised, .ref h_o_all, .ref h_o_text, .ref h_o_saved, .ref h_o_undone, .int o_undos, .int o_reached, .int o_length, .int o_begin, .int o_letters, .int o_sort, .long o_word, .int o_wrongAt, .int o_badAt, .int o_bad, .ref h_o_told, .ref h_o_shift, .int o_firstX, .int o_firstY, .int o_secondX, .int o_secondY, .ref h_o_rootOf, .ref h_o_becomes, .ref h_o_comes, .ref h_o_next, .int o_x])), (h_o_all, .inl (ca 0, 350, .inl o_all_r)), (h_o_shift, .inl (ca 3, 768, .inl o_shift_r))] sz) := by
  refine Met.ofW (cc := cX8_shiftsOf) (maxL := 5) (ret := (some .int)) (by decide) rfl ?_
  intro p e s m args below meth c s₁ B hml hv
  obtain ⟨rfl, hsz, hP, hK, hD0, hE⟩ := hv
  have hx := B.exec
  have hb := B.bytes
  have hr := B.returns
  have hts := atoms_spec (ws := Cond.code yX8_shiftsOf cX8_shiftsOf 5 (some .int) :: ds_gw) B.pre
  have hg : ∀ {w : Cond}, w ∈ ds_gw → w.before _ s = true := fun h => hts _ (List.mem_cons_of_mem _ h)
  have hown : s.vm.findClass RX8 = some m.cls := findClass_of_methodNamed B.named
  have hlocks := B.notSynchronized
  subst hsz
  have hD := hD0.self (sz := s.heap.size)
  generalize hAe : va_A [(h_o, .inr (7, [.ref h_o_plans, .ref h_o_makers, .ref h_o_halves, .int o_raised, .ref h_o_all, .ref h_o_text, .ref h_o_saved, .ref h_o_undone, .int o_undos, .int o_reached, .int o_length, .int o_begin, .int o_letters, .int o_sort, .long o_word, .int o_wrongAt, .int o_badAt, .int o_bad, .ref h_o_told, .ref h_o_shift, .int o_firstX, .int o_firstY, .int o_secondX, .int o_secondY, .ref h_o_rootOf, .ref h_o_becomes, .ref h_o_comes, .ref h_o_next, .int o_x])), (h_o_all, .inl (ca 0, 350, .inl o_all_r)), (h_o_shift, .inl (ca 3, 768, .inl o_shift_r))] s.heap.size = A at hD hE ⊢
  have hA : ∀ q : Nat, s.heap.size ≤ q → A q := fun q h => by rw [← hAe]; exact Or.inr h
  have hS : va_S A s.heap s.heap [] := va_S.rf
  have hl := lv_entry ([.ref h_o, .int p1]) (n := 5) (Nat.le_of_ble_eq_true rfl)
  rw [lg_entry_eq]
  generalize (lg_sl ([.ref h_o, .int p1]) ++ List.replicate (5 - (lg_sl ([.ref h_o, .int p1])).length) Slot.unset).toArray = ls at hl ⊢
  have hl : lv_has ls 5 [(0, .ref h_o), (1, .int p1)] := hl
  obtain ⟨G0, eG0⟩ : ∃ G : Int32 → Prop, G = (fun r => r = res) := ⟨_, rfl⟩
  obtain ⟨rr, hrr⟩ : ∃ z, z = res := ⟨_, rfl⟩
  rw [← hrr] at hf
  have hG : G0 rr := by subst eG0; exact hrr
  refine ds_cap (fun WW h1 h2 => ?_)
  have J_4 : ∀ (n : Nat) (v2 : Int32) (v3 : Int32) (rr : Int32) (hf : ds_it (fun s => fX8_shiftsOf_4_b o_all_r o_shift_r p1 s.1 s.2) n (v2, v3) = some rr) (hG : G0 rr) (H : Heap) (locs : List Loc) (hP : va_P (dC, dI) vwCl [(h_o, .inr (7, [.ref h_o_plans, .ref h_o_makers, .ref h_o_halves, .int o_raised, .ref h_o_all, .ref h_o_text, .ref h_o_saved, .ref h_o_undone, .int o_undos, .int o_reached, .int o_length, .int o_begin, .int o_letters, .int o_sort, .long o_word, .int o_wrongAt, .int o_badAt, .int o_bad, .ref h_o_told, .ref h_o_shift, .int o_firstX, .int o_firstY, .int o_secondX, .int o_secondY, .ref h_o_rootOf, .ref h_o_becomes, .ref h_o_comes, .ref h_o_next, .int o_x])), (h_o_all, .inl (ca 0, 350, .inl o_all_r)), (h_o_shift, .inl (ca 3, 768, .inl o_shift_r))] H) (hD : va_D A [(h_o, .inr (7, [.ref h_o_plans, .ref h_o_makers, .ref h_o_halves, .int o_raised, .ref h_o_all, .ref h_o_text, .ref h_o_saved, .ref h_o_undone, .int o_undos, .int o_reached, .int o_length, .int o_begin, .int o_letters, .int o_sort, .long o_word, .int o_wrongAt, .int o_badAt, .int o_bad, .ref h_o_told, .ref h_o_shift, .int o_firstX, .int o_firstY, .int o_secondX, .int o_secondY, .ref h_o_rootOf, .ref h_o_becomes, .ref h_o_comes, .ref h_o_next, .int o_x])), (h_o_all, .inl (ca 0, 350, .inl o_all_r)), (h_o_shift, .inl (ca 3, 768, .inl o_shift_r))]) (hS : va_S A s.heap H locs) (ls : Array Slot) (hl : lv_has ls 5 [(0, .ref h_o), (1, .int p1), (2, .int v2), (3, .int v3)]), WW H locs (F0 m 4 ls []) := by
    intro  n
    induction n with
    | zero => intro v2 v3 rr hf; exact (ds_it_zero hf).elim
    | succ n ih4 =>
      intro v2 v3 rr hf hG H locs hP hD hS ls hl
      refine h2 ?_
      obtain ⟨rr, hf, hG⟩ := ds_it_succ hf hG
      replace hf : fX8_shiftsOf_4_b o_all_r o_shift_r p1 v2 v3 = some rr := hf
      obtain ⟨G1, eG1⟩ : ∃ G : ((Int32 × Int32) ⊕ (Int32)) → Prop, G = ds_G (fun s' => ∃ r', ds_it (fun s => fX8_shiftsOf_4_b o_all_r o_shift_r p1 s.1 s.2) n s' = some r' ∧ G0 r') G0 := ⟨_, rfl⟩
      rw [← eG1] at hG
      have J_62 : ∀ (v2 : Int32) (v3 : Int32) (rr : (Int32 × Int32) ⊕ (Int32)) (hf : fX8_shiftsOf_62 v2 v3 = some rr) (hG : G1 rr) (H : Heap) (locs : List Loc) (hP : va_P (dC, dI) vwCl [(h_o, .inr (7, [.ref h_o_plans, .ref h_o_makers, .ref h_o_halves, .int o_raised, .ref h_o_all, .ref h_o_text, .ref h_o_saved, .ref h_o_undone, .int o_undos, .int o_reached, .int o_length, .int o_begin, .int o_letters, .int o_sort, .long o_word, .int o_wrongAt, .int o_badAt, .int o_bad, .ref h_o_told, .ref h_o_shift, .int o_firstX, .int o_firstY, .int o_secondX, .int o_secondY, .ref h_o_rootOf, .ref h_o_becomes, .ref h_o_comes, .ref h_o_next, .int o_x])), (h_o_all, .inl (ca 0, 350, .inl o_all_r)), (h_o_shift, .inl (ca 3, 768, .inl o_shift_r))] H) (hD : va_D A [(h_o, .inr (7, [.ref h_o_plans, .ref h_o_makers, .ref h_o_halves, .int o_raised, .ref h_o_all, .ref h_o_text, .ref h_o_saved, .ref h_o_undone, .int o_undos, .int o_reached, .int o_length, .int o_begin, .int o_letters, .int o_sort, .long o_word, .int o_wrongAt, .int o_badAt, .int o_bad, .ref h_o_told, .ref h_o_shift, .int o_firstX, .int o_firstY, .int o_secondX, .int o_secondY, .ref h_o_rootOf, .ref h_o_becomes, .ref h_o_comes, .ref h_o_next, .int o_x])), (h_o_all, .inl (ca 0, 350, .inl o_all_r)), (h_o_shift, .inl (ca 3, 768, .inl o_shift_r))]) (hS : va_S A s.heap H locs) (ls : Array Slot) (hl : lv_has ls 5 [(0, .ref h_o), (1, .int p1), (2, .int v2), (3, .int v3)]), WW H locs (F0 m 62 ls []) := by
        intro v2 v3 rr hf hG H locs hP hD hS ls hl
        refine h2 ?_
        unfold fX8_shiftsOf_62 at hf
        refine lv_iinc (v := (v3 + 1)) (lv' := [(3, .int (v3 + 1)), (0, .ref h_o), (1, .int p1), (2, .int v2)]) hx hb dX8_shiftsOf_62 hl (k := 3) rfl rfl (by decide) rfl (fun ls hl => ?_)
        refine lv_goto (tgt := 4) hx hb dX8_shiftsOf_65 (by decide) ?_
        have hf := Option.some.inj hf
        subst hf
        rw [eG1] at hG
        obtain ⟨rr, hf, hG⟩ := hG
        exact h1 (ih4 v2 (v3 + 1) rr hf hG _ _ hP hD hS _ (lv_sub hl [1, 2, 3, 0] rfl))
      have J_17 : ∀ (v3 : Int32) (n : Nat) (v2 : Int32) (v4 : Int32) (rr : (Int32 × Int32) ⊕ (Int32)) (hf : ds_it (fun s => fX8_shiftsOf_17_b o_all_r o_shift_r p1 v3 s.1 s.2) n (v2, v4) = some rr) (hG : G1 rr) (H : Heap) (locs : List Loc) (hP : va_P (dC, dI) vwCl [(h_o, .inr (7, [.ref h_o_plans, .ref h_o_makers, .ref h_o_halves, .int o_raised, .ref h_o_all, .ref h_o_text, .ref h_o_saved, .ref h_o_undone, .int o_undos, .int o_reached, .int o_length, .int o_begin, .int o_letters, .int o_sort, .long o_word, .int o_wrongAt, .int o_badAt, .int o_bad, .ref h_o_told, .ref h_o_shift, .int o_firstX, .int o_firstY, .int o_secondX, .int o_secondY, .ref h_o_rootOf, .ref h_o_becomes, .ref h_o_comes, .ref h_o_next, .int o_x])), (h_o_all, .inl (ca 0, 350, .inl o_all_r)), (h_o_shift, .inl (ca 3, 768, .inl o_shift_r))] H) (hD : va_D A [(h_o, .inr (7, [.ref h_o_plans, .ref h_o_makers, .ref h_o_halves, .int o_raised, .ref h_o_all, .ref h_o_text, .ref h_o_saved, .ref h_o_undone, .int o_undos, .int o_reached, .int o_length, .int o_begin, .int o_letters, .int o_sort, .long o_word, .int o_wrongAt, .int o_badAt, .int o_bad, .ref h_o_told, .ref h_o_shift, .int o_firstX, .int o_firstY, .int o_secondX, .int o_secondY, .ref h_o_rootOf, .ref h_o_becomes, .ref h_o_comes, .ref h_o_next, .int o_x])), (h_o_all, .inl (ca 0, 350, .inl o_all_r)), (h_o_shift, .inl (ca 3, 768, .inl o_shift_r))]) (hS : va_S A s.heap H locs) (ls : Array Slot) (hl : lv_has ls 5 [(0, .ref h_o), (1, .int p1), (2, .int v2), (3, .int v3), (4, .int v4)]), WW H locs (F0 m 17 ls []) := by
        intro v3 n
        induction n with
        | zero => intro v2 v4 rr hf; exact (ds_it_zero hf).elim
        | succ n ih17 =>
          intro v2 v4 rr hf hG H locs hP hD hS ls hl
          refine h2 ?_
          obtain ⟨rr, hf, hG⟩ := ds_it_succ hf hG
          replace hf : fX8_shiftsOf_17_b o_all_r o_shift_r p1 v3 v2 v4 = some rr := hf
          obtain ⟨G2, eG2⟩ : ∃ G : ((Int32 × Int32) ⊕ ((Int32 × Int32) ⊕ (Int32))) → Prop, G = ds_G (fun s' => ∃ r', ds_it (fun s => fX8_shiftsOf_17_b o_all_r o_shift_r p1 v3 s.1 s.2) n s' = some r' ∧ G1 r') G1 := ⟨_, rfl⟩
          rw [← eG2] at hG
          have J_54 : ∀ (v4 : Int32) (s0 : Int32) (s1 : Int32) (rr : (Int32 × Int32) ⊕ ((Int32 × Int32) ⊕ (Int32))) (hf : fX8_shiftsOf_54 v4 s0 s1 = some rr) (hG : G2 rr) (H : Heap) (locs : List Loc) (hP : va_P (dC, dI) vwCl [(h_o, .inr (7, [.ref h_o_plans, .ref h_o_makers, .ref h_o_halves, .int o_raised, .ref h_o_all, .ref h_o_text, .ref h_o_saved, .ref h_o_undone, .int o_undos, .int o_reached, .int o_length, .int o_begin, .int o_letters, .int o_sort, .long o_word, .int o_wrongAt, .int o_badAt, .int o_bad, .ref h_o_told, .ref h_o_shift, .int o_firstX, .int o_firstY, .int o_secondX, .int o_secondY, .ref h_o_rootOf, .ref h_o_becomes, .ref h_o_comes, .ref h_o_next, .int o_x])), (h_o_all, .inl (ca 0, 350, .inl o_all_r)), (h_o_shift, .inl (ca 3, 768, .inl o_shift_r))] H) (hD : va_D A [(h_o, .inr (7, [.ref h_o_plans, .ref h_o_makers, .ref h_o_halves, .int o_raised, .ref h_o_all, .ref h_o_text, .ref h_o_saved, .ref h_o_undone, .int o_undos, .int o_reached, .int o_length, .int o_begin, .int o_letters, .int o_sort, .long o_word, .int o_wrongAt, .int o_badAt, .int o_bad, .ref h_o_told, .ref h_o_shift, .int o_firstX, .int o_firstY, .int o_secondX, .int o_secondY, .ref h_o_rootOf, .ref h_o_becomes, .ref h_o_comes, .ref h_o_next, .int o_x])), (h_o_all, .inl (ca 0, 350, .inl o_all_r)), (h_o_shift, .inl (ca 3, 768, .inl o_shift_r))]) (hS : va_S A s.heap H locs) (ls : Array Slot) (hl : lv_has ls 5 [(0, .ref h_o), (1, .int p1), (3, .int v3), (4, .int v4)]), WW H locs (F0 m 54 ls [.int s0, .int s1]) := by
            intro v4 s0 s1 rr hf hG H locs hP hD hS ls hl
            refine h2 ?_
            unfold fX8_shiftsOf_54 at hf
            refine lv_iadd hx hb dX8_shiftsOf_54 ?_
            refine lv_istore_n (lv' := [(2, .int (s1 + s0)), (0, .ref h_o), (1, .int p1), (3, .int v3), (4, .int v4)]) hx hb dX8_shiftsOf_55 rfl hl (by decide) rfl (fun ls hl => ?_)
            refine lv_iinc (v := (v4 + 1)) (lv' := [(4, .int (v4 + 1)), (2, .int (s1 + s0)), (0, .ref h_o), (1, .int p1), (3, .int v3)]) hx hb dX8_shiftsOf_56 hl (k := 4) rfl rfl (by decide) rfl (fun ls hl => ?_)
            refine lv_goto (tgt := 17) hx hb dX8_shiftsOf_59 (by decide) ?_
            have hf := Option.some.inj hf
            subst hf
            rw [eG2] at hG
            obtain ⟨rr, hf, hG⟩ := hG
            exact h1 (ih17 (s1 + s0) (v4 + 1) rr hf hG _ _ hP hD hS _ (lv_sub hl [2, 3, 1, 4, 0] rfl))
          unfold fX8_shiftsOf_17_b at hf
          refine lv_iload hx hb dX8_shiftsOf_17 (lv_at hl 4 rfl) ?_
          refine lv_aload_n hx hb dX8_shiftsOf_19 rfl (lv_at hl 0 rfl) ?_
          refine va_get (D := (dC, dI)) (ci := 7) (v := .ref h_o_all) (C := RX8) (T := TX8) (N := 29) hx hb hts (fun w h => List.mem_cons_of_mem _ (kc_X8 w h)) hown hK hP 0 rfl rfl 4 (by decide) (hg kw_594) (fun _ h9 => h9) rfl dX8_shiftsOf_20 ?_
          refine lv_iconst (v := 0) hx hb dX8_shiftsOf_23 (by decide) ?_
          refine va_iald hx hb hK hP 1 0 rfl rfl (ds_in_ok (i := 0) (n := 350) (by decide)) dX8_shiftsOf_24 ?_
          refine lv_icmp_ge (tgt := 62) hx hb dX8_shiftsOf_25 (by decide) (fun c_25 => ?_) (fun c_25 => ?_)
          · replace hf := ds_t c_25 hf
            obtain ⟨rr, hr_0, hf⟩ := ds_ob hf
            have hf := Option.some.inj hf
            subst hf
            rw [eG2] at hG
            replace hG : G1 rr := hG
            have hf := hr_0
            exact h1 (J_62 v2 v3 _ hf hG _ _ hP hD hS _ (lv_sub hl [0, 1, 2, 3] rfl))
          · replace hf := ds_f c_25 hf
            refine lv_iload_n hx hb dX8_shiftsOf_28 rfl (lv_at hl 2 rfl) ?_
            refine lv_aload_n hx hb dX8_shiftsOf_29 rfl (lv_at hl 0 rfl) ?_
            refine va_get (D := (dC, dI)) (ci := 7) (v := .ref h_o_shift) (C := RX8) (T := TX8) (N := 29) hx hb hts (fun w h => List.mem_cons_of_mem _ (kc_X8 w h)) hown hK hP 0 rfl rfl 19 (by decide) (hg kw_650) (fun _ h9 => h9) rfl dX8_shiftsOf_30 ?_
            refine lv_bipush (v := 64) hx hb dX8_shiftsOf_33 (by decide) ?_
            refine lv_iload_n hx hb dX8_shiftsOf_35 rfl (lv_at hl 1 rfl) ?_
            refine lv_imul hx hb dX8_shiftsOf_36 ?_
            refine lv_bipush (v := 8) hx hb dX8_shiftsOf_37 (by decide) ?_
            refine lv_iload_n hx hb dX8_shiftsOf_39 rfl (lv_at hl 3 rfl) ?_
            refine lv_imul hx hb dX8_shiftsOf_40 ?_
            refine lv_iadd hx hb dX8_shiftsOf_41 ?_
            refine lv_iload hx hb dX8_shiftsOf_42 (lv_at hl 4 rfl) ?_
            refine lv_iadd hx hb dX8_shiftsOf_44 ?_
            obtain ⟨i_45, hf⟩ := ds_ci hf
            refine va_zald hx hb hK hP 2 3 rfl rfl i_45 dX8_shiftsOf_45 ?_
            refine lv_if_eq (tgt := 53) hx hb dX8_shiftsOf_46 (by decide) (fun c_46 => ?_) (fun c_46 => ?_)
            · replace hf := ds_t c_46 hf
              refine lv_iconst (v := 0) hx hb dX8_shiftsOf_53 (by decide) ?_
              exact h1 (J_54 v4 (0 : Int32) v2 _ hf hG _ _ hP hD hS _ (lv_sub hl [0, 1, 3, 4] rfl))
            · replace hf := ds_f c_46 hf
              refine lv_iconst (v := 1) hx hb dX8_shiftsOf_49 (by decide) ?_
              refine lv_goto (tgt := 54) hx hb dX8_shiftsOf_50 (by decide) ?_
              exact h1 (J_54 v4 (1 : Int32) v2 _ hf hG _ _ hP hD hS _ (lv_sub hl [0, 1, 3, 4] rfl))
      unfold fX8_shiftsOf_4_b at hf
      refine lv_iload_n hx hb dX8_shiftsOf_4 rfl (lv_at hl 3 rfl) ?_
      refine lv_aload_n hx hb dX8_shiftsOf_5 rfl (lv_at hl 0 rfl) ?_
      refine va_get (D := (dC, dI)) (ci := 7) (v := .ref h_o_all) (C := RX8) (T := TX8) (N := 29) hx hb hts (fun w h => List.mem_cons_of_mem _ (kc_X8 w h)) hown hK hP 0 rfl rfl 4 (by decide) (hg kw_594) (fun _ h9 => h9) rfl dX8_shiftsOf_6 ?_
      refine lv_iconst (v := 1) hx hb dX8_shiftsOf_9 (by decide) ?_
      refine va_iald hx hb hK hP 1 0 rfl rfl (ds_in_ok (i := 1) (n := 350) (by decide)) dX8_shiftsOf_10 ?_
      refine lv_icmp_ge (tgt := 68) hx hb dX8_shiftsOf_11 (by decide) (fun c_11 => ?_) (fun c_11 => ?_)
      · replace hf := ds_t c_11 hf
        refine lv_iload_n hx hb dX8_shiftsOf_68 rfl (lv_at hl 2 rfl) ?_
        have hf := Option.some.inj hf
        subst hf
        rw [eG1] at hG
        replace hG : G0 _ := hG
        rw [eG0] at hG
        have hG : _ = res := hG
        subst hG
        exact W.iret (v := v2) hx hb hr (fun t ht hW => ⟨⟨v2, (), rfl, rfl, by rw [ht]; exact hP, hD⟩, hS.F ht⟩) hS.2.2 dX8_shiftsOf_69
      · replace hf := ds_f c_11 hf
        refine lv_iconst (v := 0) hx hb dX8_shiftsOf_14 (by decide) ?_
        refine lv_istore (lv' := [(4, .int (0 : Int32)), (0, .ref h_o), (1, .int p1), (2, .int v2), (3, .int v3)]) hx hb dX8_shiftsOf_15 hl (by decide) rfl (fun ls hl => ?_)
        exact h1 (J_17 v3 1000 v2 (0 : Int32) _ hf hG _ _ hP hD hS _ (lv_sub hl [1, 2, 3, 4, 0] rfl))
  unfold fX8_shiftsOf at hf
  refine lv_iconst (v := 0) hx hb dX8_shiftsOf_0 (by decide) ?_
  refine lv_istore_n (lv' := [(2, .int (0 : Int32)), (0, .ref h_o), (1, .int p1)]) hx hb dX8_shiftsOf_1 rfl hl (by decide) rfl (fun ls hl => ?_)
  refine lv_iconst (v := 0) hx hb dX8_shiftsOf_2 (by decide) ?_
  refine lv_istore_n (lv' := [(3, .int (0 : Int32)), (2, .int (0 : Int32)), (0, .ref h_o), (1, .int p1)]) hx hb dX8_shiftsOf_3 rfl hl (by decide) rfl (fun ls hl => ?_)
  exact h1 (J_4  1000 (0 : Int32) (0 : Int32) _ hf hG _ _ hP hD hS _ (lv_sub hl [2, 3, 1, 0] rfl))
theorem dX8_longOf_0 : decode cX8_longOf 0 = .ok (.iload_n 1, 1) := by decide +kernel
theorem dX8_longOf_1 : decode cX8_longOf 1 = .ok (.iload_n 1, 1) := by decide +kernel
theorem dX8_longOf_2 : decode cX8_longOf 2 = .ok (.imul, 1) := by decide +kernel
theorem dX8_longOf_3 : decode cX8_longOf 3 = .ok (.iload_n 2, 1) := by decide +kernel
theorem dX8_longOf_4 : decode cX8_longOf 4 = .ok (.iload_n 2, 1) := by decide +kernel
theorem dX8_longOf_5 : decode cX8_longOf 5 = .ok (.imul, 1) := by decide +kernel
theorem dX8_longOf_6 : decode cX8_longOf 6 = .ok (.iadd, 1) := by decide +kernel
theorem dX8_longOf_7 : decode cX8_longOf 7 = .ok (.aload_n 0, 1) := by decide +kernel
theorem dX8_longOf_8 : decode cX8_longOf 8 = .ok (.getfield 19, 3) := by decide +kernel
theorem dX8_longOf_11 : decode cX8_longOf 11 = .ok (.iconst 2, 1) := by decide +kernel
theorem dX8_longOf_12 : decode cX8_longOf 12 = .ok (.iaload, 1) := by decide +kernel
theorem dX8_longOf_13 : decode cX8_longOf 13 = .ok (.iconst 1, 1) := by decide +kernel
theorem dX8_longOf_14 : decode cX8_longOf 14 = .ok (.if_icmp .ne 9, 3) := by decide +kernel
theorem dX8_longOf_17 : decode cX8_longOf 17 = .ok (.iload_n 1, 1) := by decide +kernel
theorem dX8_longOf_18 : decode cX8_longOf 18 = .ok (.iload_n 2, 1) := by decide +kernel
theorem dX8_longOf_19 : decode cX8_longOf 19 = .ok (.imul, 1) := by decide +kernel
theorem dX8_longOf_20 : decode cX8_longOf 20 = .ok (.goto 4, 3) := by decide +kernel
theorem dX8_longOf_23 : decode cX8_longOf 23 = .ok (.iconst 0, 1) := by decide +kernel
theorem dX8_longOf_24 : decode cX8_longOf 24 = .ok (.iadd, 1) := by decide +kernel
theorem dX8_longOf_25 : decode cX8_longOf 25 = .ok (.ireturn, 1) := by decide +kernel
def fX8_longOf_24 (s0 : Int32) (s1 : Int32) : Option (Int32) :=
  some (s1 + s0)
def fX8_longOf (o_all_r : Nat → Int32) (p1 : Int32) (p2 : Int32) : Option (Int32) :=
  if (o_all_r (2 : Int32).toNatClampNeg) = (1 : Int32) then fX8_longOf_24 (p1 * p2) ((p1 * p1) + (p2 * p2)) else fX8_longOf_24 (0 : Int32) ((p1 * p1) + (p2 * p2))
set_option maxHeartbeats 4000000 in
set_option maxRecDepth 100000 in
theorem c_X8_longOf (l : Launch) (dC : Nat → ClassId) (dI : Nat → Nat → Nat) (ca : Nat → ClassId) (sa : Nat → Nat) (h_o : Nat) (h_o_plans : Nat) (h_o_makers : Nat) (h_o_halves : Nat) (h_o_all : Nat) (h_o_text : Nat) (h_o_saved : Nat) (h_o_undone : Nat) (h_o_told : Nat) (h_o_shift : Nat) (h_o_rootOf : Nat) (h_o_becomes : Nat) (h_o_comes : Nat) (h_o_next : Nat) (sz : Nat) (o_raised : Int32) (o_undos : Int32) (o_reached : Int32) (o_length : Int32) (o_begin : Int32) (o_letters : Int32) (o_sort : Int32) (o_word : Int64) (o_wrongAt : Int32) (o_badAt : Int32) (o_bad : Int32) (o_firstX : Int32) (o_firstY : Int32) (o_secondX : Int32) (o_secondY : Int32) (o_x : Int32) (o_all_r : Nat → Int32) (p1 : Int32) (p2 : Int32) (res : Int32) (hf : fX8_longOf o_all_r p1 p2 = some res) : Met l yX8_longOf (Cond.code yX8_longOf cX8_longOf 3 (some .int) :: ds_gw) { frames := 0, cells := 0, slots := 0, locals := 0 } (va_Pc [.ref h_o, .int p1, .int p2] (ds_Pre dC dI ca sa [(h_o, .inr (7, [.ref h_o_plans, .ref h_o_makers, .ref h_o_halves, .int o_raised, .ref h_o_all, .ref h_o_text, .ref h_o_saved, .ref h_o_undone, .int o_undos, .int o_reached, .int o_length, .int o_begin, .int o_letters, .int o_sort, .long o_word, .int o_wrongAt, .int o_badAt, .int o_bad, .ref h_o_told, .ref h_o_shift, .int o_firstX, .int o_firstY, .int o_secondX, .int o_secondY, .ref h_o_rootOf, .ref h_o_becomes, .ref h_o_comes, .ref h_o_next, .int o_x])), (h_o_all, .inl (ca 0, 350, .inl o_all_r))] sz)) (va_Qi (fun r (_ : Unit) => r = res) (ds_B dC dI (va_A [(h_o, .inr (7, [.ref h_o_plans, .ref h_o_makers, .ref h_o_halves, .int o_raised, .ref h_o_all, .ref h_o_text, .ref h_o_saved, .ref h_o_undone, .int o_undos, .int o_reached, .int o_length, .int o_begin, .int o_letters, .int o_sort, .long o_word, .int o_wrongAt, .int o_badAt, .int o_bad, .ref h_o_told, .ref h_o_shift, .int o_firstX, .int o_firstY, .int o_secondX, .int o_secondY, .ref h_o_rootOf, .ref h_o_becomes, .ref h_o_comes, .ref h_o_next, .int o_x])), (h_o_all, .inl (ca 0, 350, .inl o_all_r))] sz) [(h_o, .inr (7, [.ref h_o_plans, .ref h_o_makers, .ref h_o_halves, .int o_raised, .ref h_o_all, .ref h_o_text, .ref h_o_saved, .ref h_o_undone, .int o_undos, .int o_reached, .int o_length, .int o_begin, .int o_letters, .int o_sort, .long o_word, .int o_wrongAt, .int o_badAt, .int o_bad, .ref h_o_told, .ref h_o_shift, .int o_firstX, .int o_firstY, .int o_secondX, .int o_secondY, .ref h_o_rootOf, .ref h_o_becomes, .ref h_o_comes, .ref h_o_next, .int o_x])), (h_o_all, .inl (ca 0, 350, .inl o_all_r))]) (va_A [(h_o, .inr (7, [.ref h_o_plans, .ref h_o_makers, .ref h_o_halves, .int o_raised, .ref h_o_all, .ref h_o_text, .ref h_o_saved, .ref h_o_undone, .int o_undos, .int o_reached, .int o_length, .int o_begin, .int o_letters, .int o_sort, .long o_word, .int o_wrongAt, .int o_badAt, .int o_bad, .ref h_o_told, .ref h_o_shift, .int o_firstX, .int o_firstY, .int o_secondX, .int o_secondY, .ref h_o_rootOf, .ref h_o_becomes, .ref h_o_comes, .ref h_o_next, .int o_x])), (h_o_all, .inl (ca 0, 350, .inl o_all_r))] sz)) 0 0 (va_A [(h_o, .inr (7, [.ref h_o_plans, .ref h_o_makers, .ref h_o_halves, .int o_raised, .ref h_o_all, .ref h_o_text, .ref h_o_saved, .ref h_o_undone, .int o_undos, .int o_reached, .int o_length, .int o_begin, .int o_letters, .int o_sort, .long o_word, .int o_wrongAt, .int o_badAt, .int o_bad, .ref h_o_told, .ref h_o_shift, .int o_firstX, .int o_firstY, .int o_secondX, .int o_secondY, .ref h_o_rootOf, .ref h_o_becomes, .ref h_o_comes, .ref h_o_next, .int o_x])), (h_o_all, .inl (ca 0, 350, .inl o_all_r))] sz) := by
  refine Met.ofW (cc := cX8_longOf) (maxL := 3) (ret := (some .int)) (by decide) rfl ?_
  intro p e s m args below meth c s₁ B hml hv
  obtain ⟨rfl, hsz, hP, hK, hD0, hE⟩ := hv
  have hx := B.exec
  have hb := B.bytes
  have hr := B.returns
  have hts := atoms_spec (ws := Cond.code yX8_longOf cX8_longOf 3 (some .int) :: ds_gw) B.pre
  have hg : ∀ {w : Cond}, w ∈ ds_gw → w.before _ s = true := fun h => hts _ (List.mem_cons_of_mem _ h)
  have hown : s.vm.findClass RX8 = some m.cls := findClass_of_methodNamed B.named
  have hlocks := B.notSynchronized
  subst hsz
  have hD := hD0.self (sz := s.heap.size)
  generalize hAe : va_A [(h_o, .inr (7, [.ref h_o_plans, .ref h_o_makers, .ref h_o_halves, .int o_raised, .ref h_o_all, .ref h_o_text, .ref h_o_saved, .ref h_o_undone, .int o_undos, .int o_reached, .int o_length, .int o_begin, .int o_letters, .int o_sort, .long o_word, .int o_wrongAt, .int o_badAt, .int o_bad, .ref h_o_told, .ref h_o_shift, .int o_firstX, .int o_firstY, .int o_secondX, .int o_secondY, .ref h_o_rootOf, .ref h_o_becomes, .ref h_o_comes, .ref h_o_next, .int o_x])), (h_o_all, .inl (ca 0, 350, .inl o_all_r))] s.heap.size = A at hD hE ⊢
  have hA : ∀ q : Nat, s.heap.size ≤ q → A q := fun q h => by rw [← hAe]; exact Or.inr h
  have hS : va_S A s.heap s.heap [] := va_S.rf
  have hl := lv_entry ([.ref h_o, .int p1, .int p2]) (n := 3) (Nat.le_of_ble_eq_true rfl)
  rw [lg_entry_eq]
  generalize (lg_sl ([.ref h_o, .int p1, .int p2]) ++ List.replicate (3 - (lg_sl ([.ref h_o, .int p1, .int p2])).length) Slot.unset).toArray = ls at hl ⊢
  have hl : lv_has ls 3 [(0, .ref h_o), (1, .int p1), (2, .int p2)] := hl
  obtain ⟨G0, eG0⟩ : ∃ G : Int32 → Prop, G = (fun r => r = res) := ⟨_, rfl⟩
  obtain ⟨rr, hrr⟩ : ∃ z, z = res := ⟨_, rfl⟩
  rw [← hrr] at hf
  have hG : G0 rr := by subst eG0; exact hrr
  refine ds_cap (fun WW h1 h2 => ?_)
  have J_24 : ∀ (s0 : Int32) (s1 : Int32) (rr : Int32) (hf : fX8_longOf_24 s0 s1 = some rr) (hG : G0 rr) (H : Heap) (locs : List Loc) (hP : va_P (dC, dI) vwCl [(h_o, .inr (7, [.ref h_o_plans, .ref h_o_makers, .ref h_o_halves, .int o_raised, .ref h_o_all, .ref h_o_text, .ref h_o_saved, .ref h_o_undone, .int o_undos, .int o_reached, .int o_length, .int o_begin, .int o_letters, .int o_sort, .long o_word, .int o_wrongAt, .int o_badAt, .int o_bad, .ref h_o_told, .ref h_o_shift, .int o_firstX, .int o_firstY, .int o_secondX, .int o_secondY, .ref h_o_rootOf, .ref h_o_becomes, .ref h_o_comes, .ref h_o_next, .int o_x])), (h_o_all, .inl (ca 0, 350, .inl o_all_r))] H) (hD : va_D A [(h_o, .inr (7, [.ref h_o_plans, .ref h_o_makers, .ref h_o_halves, .int o_raised, .ref h_o_all, .ref h_o_text, .ref h_o_saved, .ref h_o_undone, .int o_undos, .int o_reached, .int o_length, .int o_begin, .int o_letters, .int o_sort, .long o_word, .int o_wrongAt, .int o_badAt, .int o_bad, .ref h_o_told, .ref h_o_shift, .int o_firstX, .int o_firstY, .int o_secondX, .int o_secondY, .ref h_o_rootOf, .ref h_o_becomes, .ref h_o_comes, .ref h_o_next, .int o_x])), (h_o_all, .inl (ca 0, 350, .inl o_all_r))]) (hS : va_S A s.heap H locs) (ls : Array Slot) (hl : lv_has ls 3 []), WW H locs (F0 m 24 ls [.int s0, .int s1]) := by
    intro s0 s1 rr hf hG H locs hP hD hS ls hl
    refine h2 ?_
    unfold fX8_longOf_24 at hf
    refine lv_iadd hx hb dX8_longOf_24 ?_
    have hf := Option.some.inj hf
    subst hf
    rw [eG0] at hG
    have hG : _ = res := hG
    subst hG
    exact W.iret (v := (s1 + s0)) hx hb hr (fun t ht hW => ⟨⟨(s1 + s0), (), rfl, rfl, by rw [ht]; exact hP, hD⟩, hS.F ht⟩) hS.2.2 dX8_longOf_25
  unfold fX8_longOf at hf
  refine lv_iload_n hx hb dX8_longOf_0 rfl (lv_at hl 1 rfl) ?_
  refine lv_iload_n hx hb dX8_longOf_1 rfl (lv_at hl 1 rfl) ?_
  refine lv_imul hx hb dX8_longOf_2 ?_
  refine lv_iload_n hx hb dX8_longOf_3 rfl (lv_at hl 2 rfl) ?_
  refine lv_iload_n hx hb dX8_longOf_4 rfl (lv_at hl 2 rfl) ?_
  refine lv_imul hx hb dX8_longOf_5 ?_
  refine lv_iadd hx hb dX8_longOf_6 ?_
  refine lv_aload_n hx hb dX8_longOf_7 rfl (lv_at hl 0 rfl) ?_
  refine va_get (D := (dC, dI)) (ci := 7) (v := .ref h_o_all) (C := RX8) (T := TX8) (N := 29) hx hb hts (fun w h => List.mem_cons_of_mem _ (kc_X8 w h)) hown hK hP 0 rfl rfl 4 (by decide) (hg kw_594) (fun _ h9 => h9) rfl dX8_longOf_8 ?_
  refine lv_iconst (v := 2) hx hb dX8_longOf_11 (by decide) ?_
  refine va_iald hx hb hK hP 1 0 rfl rfl (ds_in_ok (i := 2) (n := 350) (by decide)) dX8_longOf_12 ?_
  refine lv_iconst (v := 1) hx hb dX8_longOf_13 (by decide) ?_
  refine lv_icmp_ne (tgt := 23) hx hb dX8_longOf_14 (by decide) (fun c_14 => ?_) (fun c_14 => ?_)
  · replace hf := ds_f c_14 hf
    refine lv_iconst (v := 0) hx hb dX8_longOf_23 (by decide) ?_
    exact h1 (J_24 (0 : Int32) ((p1 * p1) + (p2 * p2)) _ hf hG _ _ hP hD hS _ (lv_sub hl [] rfl))
  · replace hf := ds_t c_14 hf
    refine lv_iload_n hx hb dX8_longOf_17 rfl (lv_at hl 1 rfl) ?_
    refine lv_iload_n hx hb dX8_longOf_18 rfl (lv_at hl 2 rfl) ?_
    refine lv_imul hx hb dX8_longOf_19 ?_
    refine lv_goto (tgt := 24) hx hb dX8_longOf_20 (by decide) ?_
    exact h1 (J_24 (p1 * p2) ((p1 * p1) + (p2 * p2)) _ hf hG _ _ hP hD hS _ (lv_sub hl [] rfl))
theorem dX8_isAhead_0 : decode cX8_isAhead 0 = .ok (.aload_n 0, 1) := by decide +kernel
theorem dX8_isAhead_1 : decode cX8_isAhead 1 = .ok (.iload_n 1, 1) := by decide +kernel
theorem dX8_isAhead_2 : decode cX8_isAhead 2 = .ok (.iload_n 2, 1) := by decide +kernel
theorem dX8_isAhead_3 : decode cX8_isAhead 3 = .ok (.invokevirtual 148, 3) := by decide +kernel
theorem dX8_isAhead_6 : decode cX8_isAhead 6 = .ok (.aload_n 0, 1) := by decide +kernel
theorem dX8_isAhead_7 : decode cX8_isAhead 7 = .ok (.iload_n 3, 1) := by decide +kernel
theorem dX8_isAhead_8 : decode cX8_isAhead 8 = .ok (.iload 4, 2) := by decide +kernel
theorem dX8_isAhead_10 : decode cX8_isAhead 10 = .ok (.invokevirtual 148, 3) := by decide +kernel
theorem dX8_isAhead_13 : decode cX8_isAhead 13 = .ok (.isub, 1) := by decide +kernel
theorem dX8_isAhead_14 : decode cX8_isAhead 14 = .ok (.istore 5, 2) := by decide +kernel
theorem dX8_isAhead_16 : decode cX8_isAhead 16 = .ok (.iload 5, 2) := by decide +kernel
theorem dX8_isAhead_18 : decode cX8_isAhead 18 = .ok (.ifCond .eq 16, 3) := by decide +kernel
theorem dX8_isAhead_21 : decode cX8_isAhead 21 = .ok (.iload 5, 2) := by decide +kernel
theorem dX8_isAhead_23 : decode cX8_isAhead 23 = .ok (.ifCond .ge 7, 3) := by decide +kernel
theorem dX8_isAhead_26 : decode cX8_isAhead 26 = .ok (.iconst 1, 1) := by decide +kernel
theorem dX8_isAhead_27 : decode cX8_isAhead 27 = .ok (.goto 36, 3) := by decide +kernel
theorem dX8_isAhead_30 : decode cX8_isAhead 30 = .ok (.iconst 0, 1) := by decide +kernel
theorem dX8_isAhead_31 : decode cX8_isAhead 31 = .ok (.goto 32, 3) := by decide +kernel
theorem dX8_isAhead_34 : decode cX8_isAhead 34 = .ok (.iload_n 1, 1) := by decide +kernel
theorem dX8_isAhead_35 : decode cX8_isAhead 35 = .ok (.iload_n 3, 1) := by decide +kernel
theorem dX8_isAhead_36 : decode cX8_isAhead 36 = .ok (.if_icmp .eq 16, 3) := by decide +kernel
theorem dX8_isAhead_39 : decode cX8_isAhead 39 = .ok (.iload_n 1, 1) := by decide +kernel
theorem dX8_isAhead_40 : decode cX8_isAhead 40 = .ok (.iload_n 3, 1) := by decide +kernel
theorem dX8_isAhead_41 : decode cX8_isAhead 41 = .ok (.if_icmp .le 7, 3) := by decide +kernel
theorem dX8_isAhead_44 : decode cX8_isAhead 44 = .ok (.iconst 1, 1) := by decide +kernel
theorem dX8_isAhead_45 : decode cX8_isAhead 45 = .ok (.goto 18, 3) := by decide +kernel
theorem dX8_isAhead_48 : decode cX8_isAhead 48 = .ok (.iconst 0, 1) := by decide +kernel
theorem dX8_isAhead_49 : decode cX8_isAhead 49 = .ok (.goto 14, 3) := by decide +kernel
theorem dX8_isAhead_52 : decode cX8_isAhead 52 = .ok (.iload_n 2, 1) := by decide +kernel
theorem dX8_isAhead_53 : decode cX8_isAhead 53 = .ok (.iload 4, 2) := by decide +kernel
theorem dX8_isAhead_55 : decode cX8_isAhead 55 = .ok (.if_icmp .le 7, 3) := by decide +kernel
theorem dX8_isAhead_58 : decode cX8_isAhead 58 = .ok (.iconst 1, 1) := by decide +kernel
theorem dX8_isAhead_59 : decode cX8_isAhead 59 = .ok (.goto 4, 3) := by decide +kernel
theorem dX8_isAhead_62 : decode cX8_isAhead 62 = .ok (.iconst 0, 1) := by decide +kernel
theorem dX8_isAhead_63 : decode cX8_isAhead 63 = .ok (.ireturn, 1) := by decide +kernel
def fX8_isAhead (o_all_r : Nat → Int32) (p1 : Int32) (p2 : Int32) (p3 : Int32) (p4 : Int32) : Option (Int32) :=
  Option.bind (fX8_longOf o_all_r p1 p2) fun q3 => Option.bind (fX8_longOf o_all_r p3 p4) fun q10 => if (q3 - q10) = 0 then if p1 = p3 then if p2 ≤ p4 then some (0 : Int32) else some (1 : Int32) else if p1 ≤ p3 then some (0 : Int32) else some (1 : Int32) else if 0 ≤ (q3 - q10) then some (0 : Int32) else some (1 : Int32)
set_option maxHeartbeats 4000000 in
set_option maxRecDepth 100000 in
theorem c_X8_isAhead (l : Launch) (dC : Nat → ClassId) (dI : Nat → Nat → Nat) (ca : Nat → ClassId) (sa : Nat → Nat) (h_o : Nat) (h_o_plans : Nat) (h_o_makers : Nat) (h_o_halves : Nat) (h_o_all : Nat) (h_o_text : Nat) (h_o_saved : Nat) (h_o_undone : Nat) (h_o_told : Nat) (h_o_shift : Nat) (h_o_rootOf : Nat) (h_o_becomes : Nat) (h_o_comes : Nat) (h_o_next : Nat) (sz : Nat) (o_raised : Int32) (o_undos : Int32) (o_reached : Int32) (o_length : Int32) (o_begin : Int32) (o_letters : Int32) (o_sort : Int32) (o_word : Int64) (o_wrongAt : Int32) (o_badAt : Int32) (o_bad : Int32) (o_firstX : Int32) (o_firstY : Int32) (o_secondX : Int32) (o_secondY : Int32) (o_x : Int32) (o_all_r : Nat → Int32) (p1 : Int32) (p2 : Int32) (p3 : Int32) (p4 : Int32) (res : Int32) (hf : fX8_isAhead o_all_r p1 p2 p3 p4 = some res) : Met l yX8_isAhead (Cond.code yX8_isAhead cX8_isAhead 6 (some .boolean) :: ds_gw) { frames := 1, cells := 0, slots := 0, locals := 22 } (va_Pc [.ref h_o, .int p1, .int p2, .int p3, .int p4] (ds_Pre dC dI ca sa [(h_o, .inr (7, [.ref h_o_plans, .ref h_o_makers, .ref h_o_halves, .int o_raised, .ref h_o_all, .ref h_o_text, .ref h_o_saved, .ref h_o_undone, .int o_undos, .int o_reached, .int o_length, .int o_begin, .int o_letters, .int o_sort, .long o_word, .int o_wrongAt, .int o_badAt, .int o_bad, .ref h_o_told, .ref h_o_shift, .int o_firstX, .int o_firstY, .int o_secondX, .int o_secondY, .ref h_o_rootOf, .ref h_o_becomes, .ref h_o_comes, .ref h_o_next, .int o_x])), (h_o_all, .inl (ca 0, 350, .inl o_all_r))] sz)) (va_Qi (fun r (_ : Unit) => r = res) (ds_B dC dI (va_A [(h_o, .inr (7, [.ref h_o_plans, .ref h_o_makers, .ref h_o_halves, .int o_raised, .ref h_o_all, .ref h_o_text, .ref h_o_saved, .ref h_o_undone, .int o_undos, .int o_reached, .int o_length, .int o_begin, .int o_letters, .int o_sort, .long o_word, .int o_wrongAt, .int o_badAt, .int o_bad, .ref h_o_told, .ref h_o_shift, .int o_firstX, .int o_firstY, .int o_secondX, .int o_secondY, .ref h_o_rootOf, .ref h_o_becomes, .ref h_o_comes, .ref h_o_next, .int o_x])), (h_o_all, .inl (ca 0, 350, .inl o_all_r))] sz) [(h_o, .inr (7, [.ref h_o_plans, .ref h_o_makers, .ref h_o_halves, .int o_raised, .ref h_o_all, .ref h_o_text, .ref h_o_saved, .ref h_o_undone, .int o_undos, .int o_reached, .int o_length, .int o_begin, .int o_letters, .int o_sort, .long o_word, .int o_wrongAt, .int o_badAt, .int o_bad, .ref h_o_told, .ref h_o_shift, .int o_firstX, .int o_firstY, .int o_secondX, .int o_secondY, .ref h_o_rootOf, .ref h_o_becomes, .ref h_o_comes, .ref h_o_next, .int o_x])), (h_o_all, .inl (ca 0, 350, .inl o_all_r))]) (va_A [(h_o, .inr (7, [.ref h_o_plans, .ref h_o_makers, .ref h_o_halves, .int o_raised, .ref h_o_all, .ref h_o_text, .ref h_o_saved, .ref h_o_undone, .int o_undos, .int o_reached, .int o_length, .int o_begin, .int o_letters, .int o_sort, .long o_word, .int o_wrongAt, .int o_badAt, .int o_bad, .ref h_o_told, .ref h_o_shift, .int o_firstX, .int o_firstY, .int o_secondX, .int o_secondY, .ref h_o_rootOf, .ref h_o_becomes, .ref h_o_comes, .ref h_o_next, .int o_x])), (h_o_all, .inl (ca 0, 350, .inl o_all_r))] sz)) 0 0 (va_A [(h_o, .inr (7, [.ref h_o_plans, .ref h_o_makers, .ref h_o_halves, .int o_raised, .ref h_o_all, .ref h_o_text, .ref h_o_saved, .ref h_o_undone, .int o_undos, .int o_reached, .int o_length, .int o_begin, .int o_letters, .int o_sort, .long o_word, .int o_wrongAt, .int o_badAt, .int o_bad, .ref h_o_told, .ref h_o_shift, .int o_firstX, .int o_firstY, .int o_secondX, .int o_secondY, .ref h_o_rootOf, .ref h_o_becomes, .ref h_o_comes, .ref h_o_next, .int o_x])), (h_o_all, .inl (ca 0, 350, .inl o_all_r))] sz) := by
  refine Met.ofW (cc := cX8_isAhead) (maxL := 6) (ret := (some .boolean)) (by decide) rfl ?_
  intro p e s m args below meth c s₁ B hml hv
  obtain ⟨rfl, hsz, hP, hK, hD0, hE⟩ := hv
  have hx := B.exec
  have hb := B.bytes
  have hr := B.returns
  have hts := atoms_spec (ws := Cond.code yX8_isAhead cX8_isAhead 6 (some .boolean) :: ds_gw) B.pre
  have hg : ∀ {w : Cond}, w ∈ ds_gw → w.before _ s = true := fun h => hts _ (List.mem_cons_of_mem _ h)
  have hown : s.vm.findClass RX8 = some m.cls := findClass_of_methodNamed B.named
  have hlocks := B.notSynchronized
  subst hsz
  have hD := hD0.self (sz := s.heap.size)
  generalize hAe : va_A [(h_o, .inr (7, [.ref h_o_plans, .ref h_o_makers, .ref h_o_halves, .int o_raised, .ref h_o_all, .ref h_o_text, .ref h_o_saved, .ref h_o_undone, .int o_undos, .int o_reached, .int o_length, .int o_begin, .int o_letters, .int o_sort, .long o_word, .int o_wrongAt, .int o_badAt, .int o_bad, .ref h_o_told, .ref h_o_shift, .int o_firstX, .int o_firstY, .int o_secondX, .int o_secondY, .ref h_o_rootOf, .ref h_o_becomes, .ref h_o_comes, .ref h_o_next, .int o_x])), (h_o_all, .inl (ca 0, 350, .inl o_all_r))] s.heap.size = A at hD hE ⊢
  have hA : ∀ q : Nat, s.heap.size ≤ q → A q := fun q h => by rw [← hAe]; exact Or.inr h
  have hS : va_S A s.heap s.heap [] := va_S.rf
  have hl := lv_entry ([.ref h_o, .int p1, .int p2, .int p3, .int p4]) (n := 6) (Nat.le_of_ble_eq_true rfl)
  rw [lg_entry_eq]
  generalize (lg_sl ([.ref h_o, .int p1, .int p2, .int p3, .int p4]) ++ List.replicate (6 - (lg_sl ([.ref h_o, .int p1, .int p2, .int p3, .int p4])).length) Slot.unset).toArray = ls at hl ⊢
  have hl : lv_has ls 6 [(0, .ref h_o), (1, .int p1), (2, .int p2), (3, .int p3), (4, .int p4)] := hl
  obtain ⟨G0, eG0⟩ : ∃ G : Int32 → Prop, G = (fun r => r = res) := ⟨_, rfl⟩
  obtain ⟨rr, hrr⟩ : ∃ z, z = res := ⟨_, rfl⟩
  rw [← hrr] at hf
  have hG : G0 rr := by subst eG0; exact hrr
  unfold fX8_isAhead at hf
  refine lv_aload_n hx hb dX8_isAhead_0 rfl (lv_at hl 0 rfl) ?_
  refine lv_iload_n hx hb dX8_isAhead_1 rfl (lv_at hl 1 rfl) ?_
  refine lv_iload_n hx hb dX8_isAhead_2 rfl (lv_at hl 2 rfl) ?_
  obtain ⟨q3, hq3, hf⟩ := ds_ob hf
  refine ds_calli (wr := []) (va_runV (As := [.int p1, .int p2]) (rest := []) ⟨hx, hb, hml, hown, hts⟩ (c_X8_longOf l dC dI ca sa h_o h_o_plans h_o_makers h_o_halves h_o_all h_o_text h_o_saved h_o_undone h_o_told h_o_shift h_o_rootOf h_o_becomes h_o_comes h_o_next s.heap.size o_raised o_undos o_reached o_length o_begin o_letters o_sort o_word o_wrongAt o_badAt o_bad o_firstX o_firstY o_secondX o_secondY o_x o_all_r p1 p2 q3 hq3) (cwV 2 hts (ds_gV kw_675 kw_676 kw_677 kw_597 kw_678) rfl rfl rfl (by decide +kernel) ⟨Nat.le_of_ble_eq_true rfl, Nat.le_of_ble_eq_true rfl⟩) ⟨ds_blind, va_recv hK hP (ci := 7) (q0 := 0) rfl rfl, ds_at hP hD hK hE hS hA [0, 1] rfl rfl _⟩ rfl rfl hl.1 rfl (lv_room (Nat.le_of_ble_eq_true rfl)) dX8_isAhead_3 ⟨Nat.zero_le _, Nat.zero_le _⟩) hP hD hS hA [0, 1] [] rfl rfl rfl (by decide) (fun H locs hP hD hS => ?_)
  have hP : va_P (dC, dI) vwCl [(h_o, .inr (7, [.ref h_o_plans, .ref h_o_makers, .ref h_o_halves, .int o_raised, .ref h_o_all, .ref h_o_text, .ref h_o_saved, .ref h_o_undone, .int o_undos, .int o_reached, .int o_length, .int o_begin, .int o_letters, .int o_sort, .long o_word, .int o_wrongAt, .int o_badAt, .int o_bad, .ref h_o_told, .ref h_o_shift, .int o_firstX, .int o_firstY, .int o_secondX, .int o_secondY, .ref h_o_rootOf, .ref h_o_becomes, .ref h_o_comes, .ref h_o_next, .int o_x])), (h_o_all, .inl (ca 0, 350, .inl o_all_r))] H := hP
  have hD : va_D A [(h_o, .inr (7, [.ref h_o_plans, .ref h_o_makers, .ref h_o_halves, .int o_raised, .ref h_o_all, .ref h_o_text, .ref h_o_saved, .ref h_o_undone, .int o_undos, .int o_reached, .int o_length, .int o_begin, .int o_letters, .int o_sort, .long o_word, .int o_wrongAt, .int o_badAt, .int o_bad, .ref h_o_told, .ref h_o_shift, .int o_firstX, .int o_firstY, .int o_secondX, .int o_secondY, .ref h_o_rootOf, .ref h_o_becomes, .ref h_o_comes, .ref h_o_next, .int o_x])), (h_o_all, .inl (ca 0, 350, .inl o_all_r))] := hD
  refine lv_aload_n hx hb dX8_isAhead_6 rfl (lv_at hl 0 rfl) ?_
  refine lv_iload_n hx hb dX8_isAhead_7 rfl (lv_at hl 3 rfl) ?_
  refine lv_iload hx hb dX8_isAhead_8 (lv_at hl 4 rfl) ?_
  obtain ⟨q10, hq10, hf⟩ := ds_ob hf
  refine ds_calli (wr := []) (va_runV (As := [.int p3, .int p4]) (rest := [.int q3]) ⟨hx, hb, hml, hown, hts⟩ (c_X8_longOf l dC dI ca sa h_o h_o_plans h_o_makers h_o_halves h_o_all h_o_text h_o_saved h_o_undone h_o_told h_o_shift h_o_rootOf h_o_becomes h_o_comes h_o_next H.size o_raised o_undos o_reached o_length o_begin o_letters o_sort o_word o_wrongAt o_badAt o_bad o_firstX o_firstY o_secondX o_secondY o_x o_all_r p3 p4 q10 hq10) (cwV 2 hts (ds_gV kw_675 kw_676 kw_677 kw_597 kw_678) rfl rfl rfl (by decide +kernel) ⟨Nat.le_of_ble_eq_true rfl, Nat.le_of_ble_eq_true rfl⟩) ⟨ds_blind, va_recv hK hP (ci := 7) (q0 := 0) rfl rfl, ds_at hP hD hK hE hS hA [0, 1] rfl rfl _⟩ rfl rfl hl.1 rfl (lv_room (Nat.le_of_ble_eq_true rfl)) dX8_isAhead_10 ⟨Nat.zero_le _, Nat.zero_le _⟩) hP hD hS hA [0, 1] [] rfl rfl rfl (by decide) (fun H locs hP hD hS => ?_)
  have hP : va_P (dC, dI) vwCl [(h_o, .inr (7, [.ref h_o_plans, .ref h_o_makers, .ref h_o_halves, .int o_raised, .ref h_o_all, .ref h_o_text, .ref h_o_saved, .ref h_o_undone, .int o_undos, .int o_reached, .int o_length, .int o_begin, .int o_letters, .int o_sort, .long o_word, .int o_wrongAt, .int o_badAt, .int o_bad, .ref h_o_told, .ref h_o_shift, .int o_firstX, .int o_firstY, .int o_secondX, .int o_secondY, .ref h_o_rootOf, .ref h_o_becomes, .ref h_o_comes, .ref h_o_next, .int o_x])), (h_o_all, .inl (ca 0, 350, .inl o_all_r))] H := hP
  have hD : va_D A [(h_o, .inr (7, [.ref h_o_plans, .ref h_o_makers, .ref h_o_halves, .int o_raised, .ref h_o_all, .ref h_o_text, .ref h_o_saved, .ref h_o_undone, .int o_undos, .int o_reached, .int o_length, .int o_begin, .int o_letters, .int o_sort, .long o_word, .int o_wrongAt, .int o_badAt, .int o_bad, .ref h_o_told, .ref h_o_shift, .int o_firstX, .int o_firstY, .int o_secondX, .int o_secondY, .ref h_o_rootOf, .ref h_o_becomes, .ref h_o_comes, .ref h_o_next, .int o_x])), (h_o_all, .inl (ca 0, 350, .inl o_all_r))] := hD
  refine lv_isub hx hb dX8_isAhead_13 ?_
  refine lv_istore (lv' := [(5, .int (q3 - q10)), (0, .ref h_o), (1, .int p1), (2, .int p2), (3, .int p3), (4, .int p4)]) hx hb dX8_isAhead_14 hl (by decide) rfl (fun ls hl => ?_)
  refine lv_iload hx hb dX8_isAhead_16 (lv_at hl 0 rfl) ?_
  refine lv_if_eq (tgt := 34) hx hb dX8_isAhead_18 (by decide) (fun c_18 => ?_) (fun c_18 => ?_)
  · replace hf := ds_t c_18 hf
    refine lv_iload_n hx hb dX8_isAhead_34 rfl (lv_at hl 2 rfl) ?_
    refine lv_iload_n hx hb dX8_isAhead_35 rfl (lv_at hl 4 rfl) ?_
    refine lv_icmp_eq (tgt := 52) hx hb dX8_isAhead_36 (by decide) (fun c_36 => ?_) (fun c_36 => ?_)
    · replace hf := ds_t c_36 hf
      refine lv_iload_n hx hb dX8_isAhead_52 rfl (lv_at hl 3 rfl) ?_
      refine lv_iload hx hb dX8_isAhead_53 (lv_at hl 5 rfl) ?_
      refine lv_icmp_le (tgt := 62) hx hb dX8_isAhead_55 (by decide) (fun c_55 => ?_) (fun c_55 => ?_)
      · replace hf := ds_t c_55 hf
        refine lv_iconst (v := 0) hx hb dX8_isAhead_62 (by decide) ?_
        have hf := Option.some.inj hf
        subst hf
        rw [eG0] at hG
        have hG : _ = res := hG
        subst hG
        exact W.zret (v := (0 : Int32)) (ty := .boolean) hx hb hr rfl (fun t ht hW => ⟨⟨(0 : Int32), (), rfl, rfl, by rw [ht]; exact hP, hD⟩, hS.F ht⟩) hS.2.2 dX8_isAhead_63
      · replace hf := ds_f c_55 hf
        refine lv_iconst (v := 1) hx hb dX8_isAhead_58 (by decide) ?_
        refine lv_goto (tgt := 63) hx hb dX8_isAhead_59 (by decide) ?_
        have hf := Option.some.inj hf
        subst hf
        rw [eG0] at hG
        have hG : _ = res := hG
        subst hG
        exact W.zret (v := (1 : Int32)) (ty := .boolean) hx hb hr rfl (fun t ht hW => ⟨⟨(1 : Int32), (), rfl, rfl, by rw [ht]; exact hP, hD⟩, hS.F ht⟩) hS.2.2 dX8_isAhead_63
    · replace hf := ds_f c_36 hf
      refine lv_iload_n hx hb dX8_isAhead_39 rfl (lv_at hl 2 rfl) ?_
      refine lv_iload_n hx hb dX8_isAhead_40 rfl (lv_at hl 4 rfl) ?_
      refine lv_icmp_le (tgt := 48) hx hb dX8_isAhead_41 (by decide) (fun c_41 => ?_) (fun c_41 => ?_)
      · replace hf := ds_t c_41 hf
        refine lv_iconst (v := 0) hx hb dX8_isAhead_48 (by decide) ?_
        refine lv_goto (tgt := 63) hx hb dX8_isAhead_49 (by decide) ?_
        have hf := Option.some.inj hf
        subst hf
        rw [eG0] at hG
        have hG : _ = res := hG
        subst hG
        exact W.zret (v := (0 : Int32)) (ty := .boolean) hx hb hr rfl (fun t ht hW => ⟨⟨(0 : Int32), (), rfl, rfl, by rw [ht]; exact hP, hD⟩, hS.F ht⟩) hS.2.2 dX8_isAhead_63
      · replace hf := ds_f c_41 hf
        refine lv_iconst (v := 1) hx hb dX8_isAhead_44 (by decide) ?_
        refine lv_goto (tgt := 63) hx hb dX8_isAhead_45 (by decide) ?_
        have hf := Option.some.inj hf
        subst hf
        rw [eG0] at hG
        have hG : _ = res := hG
        subst hG
        exact W.zret (v := (1 : Int32)) (ty := .boolean) hx hb hr rfl (fun t ht hW => ⟨⟨(1 : Int32), (), rfl, rfl, by rw [ht]; exact hP, hD⟩, hS.F ht⟩) hS.2.2 dX8_isAhead_63
  · replace hf := ds_f c_18 hf
    refine lv_iload hx hb dX8_isAhead_21 (lv_at hl 0 rfl) ?_
    refine lv_if_ge (tgt := 30) hx hb dX8_isAhead_23 (by decide) (fun c_23 => ?_) (fun c_23 => ?_)
    · replace hf := ds_t c_23 hf
      refine lv_iconst (v := 0) hx hb dX8_isAhead_30 (by decide) ?_
      refine lv_goto (tgt := 63) hx hb dX8_isAhead_31 (by decide) ?_
      have hf := Option.some.inj hf
      subst hf
      rw [eG0] at hG
      have hG : _ = res := hG
      subst hG
      exact W.zret (v := (0 : Int32)) (ty := .boolean) hx hb hr rfl (fun t ht hW => ⟨⟨(0 : Int32), (), rfl, rfl, by rw [ht]; exact hP, hD⟩, hS.F ht⟩) hS.2.2 dX8_isAhead_63
    · replace hf := ds_f c_23 hf
      refine lv_iconst (v := 1) hx hb dX8_isAhead_26 (by decide) ?_
      refine lv_goto (tgt := 63) hx hb dX8_isAhead_27 (by decide) ?_
      have hf := Option.some.inj hf
      subst hf
      rw [eG0] at hG
      have hG : _ = res := hG
      subst hG
      exact W.zret (v := (1 : Int32)) (ty := .boolean) hx hb hr rfl (fun t ht hW => ⟨⟨(1 : Int32), (), rfl, rfl, by rw [ht]; exact hP, hD⟩, hS.F ht⟩) hS.2.2 dX8_isAhead_63
theorem dX8_laysSteps_0 : decode cX8_laysSteps 0 = .ok (.aload_n 0, 1) := by decide +kernel
theorem dX8_laysSteps_1 : decode cX8_laysSteps 1 = .ok (.iconst 0, 1) := by decide +kernel
theorem dX8_laysSteps_2 : decode cX8_laysSteps 2 = .ok (.putfield 151, 3) := by decide +kernel
theorem dX8_laysSteps_5 : decode cX8_laysSteps 5 = .ok (.aload_n 0, 1) := by decide +kernel
theorem dX8_laysSteps_6 : decode cX8_laysSteps 6 = .ok (.iconst 0, 1) := by decide +kernel
theorem dX8_laysSteps_7 : decode cX8_laysSteps 7 = .ok (.putfield 154, 3) := by decide +kernel
theorem dX8_laysSteps_10 : decode cX8_laysSteps 10 = .ok (.aload_n 0, 1) := by decide +kernel
theorem dX8_laysSteps_11 : decode cX8_laysSteps 11 = .ok (.iconst 0, 1) := by decide +kernel
theorem dX8_laysSteps_12 : decode cX8_laysSteps 12 = .ok (.putfield 157, 3) := by decide +kernel
theorem dX8_laysSteps_15 : decode cX8_laysSteps 15 = .ok (.aload_n 0, 1) := by decide +kernel
theorem dX8_laysSteps_16 : decode cX8_laysSteps 16 = .ok (.iconst 0, 1) := by decide +kernel
theorem dX8_laysSteps_17 : decode cX8_laysSteps 17 = .ok (.putfield 160, 3) := by decide +kernel
theorem dX8_laysSteps_20 : decode cX8_laysSteps 20 = .ok (.bipush (-10), 2) := by decide +kernel
theorem dX8_laysSteps_22 : decode cX8_laysSteps 22 = .ok (.istore_n 1, 1) := by decide +kernel
theorem dX8_laysSteps_23 : decode cX8_laysSteps 23 = .ok (.iload_n 1, 1) := by decide +kernel
theorem dX8_laysSteps_24 : decode cX8_laysSteps 24 = .ok (.bipush 10, 2) := by decide +kernel
theorem dX8_laysSteps_26 : decode cX8_laysSteps 26 = .ok (.if_icmp .gt 92, 3) := by decide +kernel
theorem dX8_laysSteps_29 : decode cX8_laysSteps 29 = .ok (.bipush (-10), 2) := by decide +kernel
theorem dX8_laysSteps_31 : decode cX8_laysSteps 31 = .ok (.istore_n 2, 1) := by decide +kernel
theorem dX8_laysSteps_32 : decode cX8_laysSteps 32 = .ok (.iload_n 2, 1) := by decide +kernel
theorem dX8_laysSteps_33 : decode cX8_laysSteps 33 = .ok (.bipush 10, 2) := by decide +kernel
theorem dX8_laysSteps_35 : decode cX8_laysSteps 35 = .ok (.if_icmp .gt 77, 3) := by decide +kernel
theorem dX8_laysSteps_38 : decode cX8_laysSteps 38 = .ok (.aload_n 0, 1) := by decide +kernel
theorem dX8_laysSteps_39 : decode cX8_laysSteps 39 = .ok (.iload_n 1, 1) := by decide +kernel
theorem dX8_laysSteps_40 : decode cX8_laysSteps 40 = .ok (.iload_n 2, 1) := by decide +kernel
theorem dX8_laysSteps_41 : decode cX8_laysSteps 41 = .ok (.invokevirtual 137, 3) := by decide +kernel
theorem dX8_laysSteps_44 : decode cX8_laysSteps 44 = .ok (.ifCond .eq 15, 3) := by decide +kernel
theorem dX8_laysSteps_47 : decode cX8_laysSteps 47 = .ok (.iload_n 1, 1) := by decide +kernel
theorem dX8_laysSteps_48 : decode cX8_laysSteps 48 = .ok (.ifCond .ne 7, 3) := by decide +kernel
theorem dX8_laysSteps_51 : decode cX8_laysSteps 51 = .ok (.iload_n 2, 1) := by decide +kernel
theorem dX8_laysSteps_52 : decode cX8_laysSteps 52 = .ok (.ifCond .eq 7, 3) := by decide +kernel
theorem dX8_laysSteps_55 : decode cX8_laysSteps 55 = .ok (.iconst 1, 1) := by decide +kernel
theorem dX8_laysSteps_56 : decode cX8_laysSteps 56 = .ok (.goto 4, 3) := by decide +kernel
theorem dX8_laysSteps_59 : decode cX8_laysSteps 59 = .ok (.iconst 0, 1) := by decide +kernel
theorem dX8_laysSteps_60 : decode cX8_laysSteps 60 = .ok (.istore_n 3, 1) := by decide +kernel
theorem dX8_laysSteps_61 : decode cX8_laysSteps 61 = .ok (.iload_n 3, 1) := by decide +kernel
theorem dX8_laysSteps_62 : decode cX8_laysSteps 62 = .ok (.ifCond .eq 44, 3) := by decide +kernel
theorem dX8_laysSteps_65 : decode cX8_laysSteps 65 = .ok (.aload_n 0, 1) := by decide +kernel
theorem dX8_laysSteps_66 : decode cX8_laysSteps 66 = .ok (.getfield 151, 3) := by decide +kernel
theorem dX8_laysSteps_69 : decode cX8_laysSteps 69 = .ok (.ifCond .ne 10, 3) := by decide +kernel
theorem dX8_laysSteps_72 : decode cX8_laysSteps 72 = .ok (.aload_n 0, 1) := by decide +kernel
theorem dX8_laysSteps_73 : decode cX8_laysSteps 73 = .ok (.getfield 154, 3) := by decide +kernel
theorem dX8_laysSteps_76 : decode cX8_laysSteps 76 = .ok (.ifCond .eq 20, 3) := by decide +kernel
theorem dX8_laysSteps_79 : decode cX8_laysSteps 79 = .ok (.aload_n 0, 1) := by decide +kernel
theorem dX8_laysSteps_80 : decode cX8_laysSteps 80 = .ok (.iload_n 1, 1) := by decide +kernel
theorem dX8_laysSteps_81 : decode cX8_laysSteps 81 = .ok (.iload_n 2, 1) := by decide +kernel
theorem dX8_laysSteps_82 : decode cX8_laysSteps 82 = .ok (.aload_n 0, 1) := by decide +kernel
theorem dX8_laysSteps_83 : decode cX8_laysSteps 83 = .ok (.getfield 151, 3) := by decide +kernel
theorem dX8_laysSteps_86 : decode cX8_laysSteps 86 = .ok (.aload_n 0, 1) := by decide +kernel
theorem dX8_laysSteps_87 : decode cX8_laysSteps 87 = .ok (.getfield 154, 3) := by decide +kernel
theorem dX8_laysSteps_90 : decode cX8_laysSteps 90 = .ok (.invokevirtual 163, 3) := by decide +kernel
theorem dX8_laysSteps_93 : decode cX8_laysSteps 93 = .ok (.ifCond .eq 13, 3) := by decide +kernel
theorem dX8_laysSteps_96 : decode cX8_laysSteps 96 = .ok (.aload_n 0, 1) := by decide +kernel
theorem dX8_laysSteps_97 : decode cX8_laysSteps 97 = .ok (.iload_n 1, 1) := by decide +kernel
theorem dX8_laysSteps_98 : decode cX8_laysSteps 98 = .ok (.putfield 151, 3) := by decide +kernel
theorem dX8_laysSteps_101 : decode cX8_laysSteps 101 = .ok (.aload_n 0, 1) := by decide +kernel
theorem dX8_laysSteps_102 : decode cX8_laysSteps 102 = .ok (.iload_n 2, 1) := by decide +kernel
theorem dX8_laysSteps_103 : decode cX8_laysSteps 103 = .ok (.putfield 154, 3) := by decide +kernel
theorem dX8_laysSteps_106 : decode cX8_laysSteps 106 = .ok (.iinc 2 1, 3) := by decide +kernel
theorem dX8_laysSteps_109 : decode cX8_laysSteps 109 = .ok (.goto (-77), 3) := by decide +kernel
theorem dX8_laysSteps_112 : decode cX8_laysSteps 112 = .ok (.iinc 1 1, 3) := by decide +kernel
theorem dX8_laysSteps_115 : decode cX8_laysSteps 115 = .ok (.goto (-92), 3) := by decide +kernel
theorem dX8_laysSteps_118 : decode cX8_laysSteps 118 = .ok (.bipush (-10), 2) := by decide +kernel
theorem dX8_laysSteps_120 : decode cX8_laysSteps 120 = .ok (.istore_n 1, 1) := by decide +kernel
theorem dX8_laysSteps_121 : decode cX8_laysSteps 121 = .ok (.iload_n 1, 1) := by decide +kernel
theorem dX8_laysSteps_122 : decode cX8_laysSteps 122 = .ok (.bipush 10, 2) := by decide +kernel
theorem dX8_laysSteps_124 : decode cX8_laysSteps 124 = .ok (.if_icmp .gt 99, 3) := by decide +kernel
theorem dX8_laysSteps_127 : decode cX8_laysSteps 127 = .ok (.bipush (-10), 2) := by decide +kernel
theorem dX8_laysSteps_129 : decode cX8_laysSteps 129 = .ok (.istore_n 2, 1) := by decide +kernel
theorem dX8_laysSteps_130 : decode cX8_laysSteps 130 = .ok (.iload_n 2, 1) := by decide +kernel
theorem dX8_laysSteps_131 : decode cX8_laysSteps 131 = .ok (.bipush 10, 2) := by decide +kernel
theorem dX8_laysSteps_133 : decode cX8_laysSteps 133 = .ok (.if_icmp .gt 84, 3) := by decide +kernel
theorem dX8_laysSteps_136 : decode cX8_laysSteps 136 = .ok (.aload_n 0, 1) := by decide +kernel
theorem dX8_laysSteps_137 : decode cX8_laysSteps 137 = .ok (.iload_n 1, 1) := by decide +kernel
theorem dX8_laysSteps_138 : decode cX8_laysSteps 138 = .ok (.iload_n 2, 1) := by decide +kernel
theorem dX8_laysSteps_139 : decode cX8_laysSteps 139 = .ok (.invokevirtual 137, 3) := by decide +kernel
theorem dX8_laysSteps_142 : decode cX8_laysSteps 142 = .ok (.ifCond .eq 22, 3) := by decide +kernel
theorem dX8_laysSteps_145 : decode cX8_laysSteps 145 = .ok (.iload_n 1, 1) := by decide +kernel
theorem dX8_laysSteps_146 : decode cX8_laysSteps 146 = .ok (.aload_n 0, 1) := by decide +kernel
theorem dX8_laysSteps_147 : decode cX8_laysSteps 147 = .ok (.getfield 154, 3) := by decide +kernel
theorem dX8_laysSteps_150 : decode cX8_laysSteps 150 = .ok (.imul, 1) := by decide +kernel
theorem dX8_laysSteps_151 : decode cX8_laysSteps 151 = .ok (.iload_n 2, 1) := by decide +kernel
theorem dX8_laysSteps_152 : decode cX8_laysSteps 152 = .ok (.aload_n 0, 1) := by decide +kernel
theorem dX8_laysSteps_153 : decode cX8_laysSteps 153 = .ok (.getfield 151, 3) := by decide +kernel
theorem dX8_laysSteps_156 : decode cX8_laysSteps 156 = .ok (.imul, 1) := by decide +kernel
theorem dX8_laysSteps_157 : decode cX8_laysSteps 157 = .ok (.if_icmp .eq 7, 3) := by decide +kernel
theorem dX8_laysSteps_160 : decode cX8_laysSteps 160 = .ok (.iconst 1, 1) := by decide +kernel
theorem dX8_laysSteps_161 : decode cX8_laysSteps 161 = .ok (.goto 4, 3) := by decide +kernel
theorem dX8_laysSteps_164 : decode cX8_laysSteps 164 = .ok (.iconst 0, 1) := by decide +kernel
theorem dX8_laysSteps_165 : decode cX8_laysSteps 165 = .ok (.istore_n 3, 1) := by decide +kernel
theorem dX8_laysSteps_166 : decode cX8_laysSteps 166 = .ok (.iload_n 3, 1) := by decide +kernel
theorem dX8_laysSteps_167 : decode cX8_laysSteps 167 = .ok (.ifCond .eq 44, 3) := by decide +kernel
theorem dX8_laysSteps_170 : decode cX8_laysSteps 170 = .ok (.aload_n 0, 1) := by decide +kernel
theorem dX8_laysSteps_171 : decode cX8_laysSteps 171 = .ok (.getfield 157, 3) := by decide +kernel
theorem dX8_laysSteps_174 : decode cX8_laysSteps 174 = .ok (.ifCond .ne 10, 3) := by decide +kernel
theorem dX8_laysSteps_177 : decode cX8_laysSteps 177 = .ok (.aload_n 0, 1) := by decide +kernel
theorem dX8_laysSteps_178 : decode cX8_laysSteps 178 = .ok (.getfield 160, 3) := by decide +kernel
theorem dX8_laysSteps_181 : decode cX8_laysSteps 181 = .ok (.ifCond .eq 20, 3) := by decide +kernel
theorem dX8_laysSteps_184 : decode cX8_laysSteps 184 = .ok (.aload_n 0, 1) := by decide +kernel
theorem dX8_laysSteps_185 : decode cX8_laysSteps 185 = .ok (.iload_n 1, 1) := by decide +kernel
theorem dX8_laysSteps_186 : decode cX8_laysSteps 186 = .ok (.iload_n 2, 1) := by decide +kernel
theorem dX8_laysSteps_187 : decode cX8_laysSteps 187 = .ok (.aload_n 0, 1) := by decide +kernel
theorem dX8_laysSteps_188 : decode cX8_laysSteps 188 = .ok (.getfield 157, 3) := by decide +kernel
theorem dX8_laysSteps_191 : decode cX8_laysSteps 191 = .ok (.aload_n 0, 1) := by decide +kernel
theorem dX8_laysSteps_192 : decode cX8_laysSteps 192 = .ok (.getfield 160, 3) := by decide +kernel
theorem dX8_laysSteps_195 : decode cX8_laysSteps 195 = .ok (.invokevirtual 163, 3) := by decide +kernel
theorem dX8_laysSteps_198 : decode cX8_laysSteps 198 = .ok (.ifCond .eq 13, 3) := by decide +kernel
theorem dX8_laysSteps_201 : decode cX8_laysSteps 201 = .ok (.aload_n 0, 1) := by decide +kernel
theorem dX8_laysSteps_202 : decode cX8_laysSteps 202 = .ok (.iload_n 1, 1) := by decide +kernel
theorem dX8_laysSteps_203 : decode cX8_laysSteps 203 = .ok (.putfield 157, 3) := by decide +kernel
theorem dX8_laysSteps_206 : decode cX8_laysSteps 206 = .ok (.aload_n 0, 1) := by decide +kernel
theorem dX8_laysSteps_207 : decode cX8_laysSteps 207 = .ok (.iload_n 2, 1) := by decide +kernel
theorem dX8_laysSteps_208 : decode cX8_laysSteps 208 = .ok (.putfield 160, 3) := by decide +kernel
theorem dX8_laysSteps_211 : decode cX8_laysSteps 211 = .ok (.iinc 2 1, 3) := by decide +kernel
theorem dX8_laysSteps_214 : decode cX8_laysSteps 214 = .ok (.goto (-84), 3) := by decide +kernel
theorem dX8_laysSteps_217 : decode cX8_laysSteps 217 = .ok (.iinc 1 1, 3) := by decide +kernel
theorem dX8_laysSteps_220 : decode cX8_laysSteps 220 = .ok (.goto (-99), 3) := by decide +kernel
theorem dX8_laysSteps_223 : decode cX8_laysSteps 223 = .ok (.return_, 1) := by decide +kernel
def fX8_laysSteps_217 (o_secondX : Int32) (o_secondY : Int32) (v1 : Int32) : Option ((Int32 × Int32 × Int32) ⊕ (Int32 × Int32 × Int32 × Int32)) :=
  some (.inl ((v1 + 1), o_secondX, o_secondY))
def fX8_laysSteps_211 (o_secondX : Int32) (o_secondY : Int32) (v2 : Int32) : Option ((Int32 × Int32 × Int32) ⊕ ((Int32 × Int32 × Int32) ⊕ (Int32 × Int32 × Int32 × Int32))) :=
  some (.inl ((v2 + 1), o_secondX, o_secondY))
def fX8_laysSteps_201 (v1 : Int32) (v2 : Int32) : Option ((Int32 × Int32 × Int32) ⊕ ((Int32 × Int32 × Int32) ⊕ (Int32 × Int32 × Int32 × Int32))) :=
  fX8_laysSteps_211 v1 v2 v2
def fX8_laysSteps_184 (o_secondX : Int32) (o_secondY : Int32) (o_all_r : Nat → Int32) (v1 : Int32) (v2 : Int32) : Option ((Int32 × Int32 × Int32) ⊕ ((Int32 × Int32 × Int32) ⊕ (Int32 × Int32 × Int32 × Int32))) :=
  Option.bind (fX8_isAhead o_all_r v1 v2 o_secondX o_secondY) fun q195 => if q195 = 0 then fX8_laysSteps_211 o_secondX o_secondY v2 else fX8_laysSteps_201 v1 v2
def fX8_laysSteps_165 (o_secondX : Int32) (o_secondY : Int32) (o_all_r : Nat → Int32) (v1 : Int32) (v2 : Int32) (s0 : Int32) : Option ((Int32 × Int32 × Int32) ⊕ ((Int32 × Int32 × Int32) ⊕ (Int32 × Int32 × Int32 × Int32))) :=
  if s0 = 0 then fX8_laysSteps_211 o_secondX o_secondY v2 else if o_secondX = 0 then if o_secondY = 0 then fX8_laysSteps_201 v1 v2 else fX8_laysSteps_184 o_secondX o_secondY o_all_r v1 v2 else fX8_laysSteps_184 o_secondX o_secondY o_all_r v1 v2
def fX8_laysSteps_164 (o_secondX : Int32) (o_secondY : Int32) (o_all_r : Nat → Int32) (v1 : Int32) (v2 : Int32) : Option ((Int32 × Int32 × Int32) ⊕ ((Int32 × Int32 × Int32) ⊕ (Int32 × Int32 × Int32 × Int32))) :=
  fX8_laysSteps_165 o_secondX o_secondY o_all_r v1 v2 (0 : Int32)
def fX8_laysSteps_130_b (o_firstX : Int32) (o_firstY : Int32) (o_all_r : Nat → Int32) (o_shift_r : Nat → Int32) (v1 : Int32) (v2 : Int32) (o_secondX : Int32) (o_secondY : Int32) : Option ((Int32 × Int32 × Int32) ⊕ ((Int32 × Int32 × Int32) ⊕ (Int32 × Int32 × Int32 × Int32))) :=
  if (10 : Int32) < v2 then Option.bind (fX8_laysSteps_217 o_secondX o_secondY v1) fun z => some (.inr z) else Option.bind (fX8_isStep o_all_r o_shift_r v1 v2) fun q139 => if q139 = 0 then fX8_laysSteps_164 o_secondX o_secondY o_all_r v1 v2 else if (v1 * o_firstY) = (v2 * o_firstX) then fX8_laysSteps_164 o_secondX o_secondY o_all_r v1 v2 else fX8_laysSteps_165 o_secondX o_secondY o_all_r v1 v2 (1 : Int32)
def fX8_laysSteps_130 (o_firstX : Int32) (o_firstY : Int32) (o_all_r : Nat → Int32) (o_shift_r : Nat → Int32) (v1 : Int32) (v2 : Int32) (o_secondX : Int32) (o_secondY : Int32) : Option ((Int32 × Int32 × Int32) ⊕ (Int32 × Int32 × Int32 × Int32)) := ds_it (fun s => fX8_laysSteps_130_b o_firstX o_firstY o_all_r o_shift_r v1 s.1 s.2.1 s.2.2) 1000 (v2, o_secondX, o_secondY)
def fX8_laysSteps_121_b (o_firstX : Int32) (o_firstY : Int32) (o_all_r : Nat → Int32) (o_shift_r : Nat → Int32) (v1 : Int32) (o_secondX : Int32) (o_secondY : Int32) : Option ((Int32 × Int32 × Int32) ⊕ (Int32 × Int32 × Int32 × Int32)) :=
  if (10 : Int32) < v1 then some (.inr (o_firstX, o_firstY, o_secondX, o_secondY)) else fX8_laysSteps_130 o_firstX o_firstY o_all_r o_shift_r v1 (-10 : Int32) o_secondX o_secondY
def fX8_laysSteps_121 (o_firstX : Int32) (o_firstY : Int32) (o_all_r : Nat → Int32) (o_shift_r : Nat → Int32) (v1 : Int32) (o_secondX : Int32) (o_secondY : Int32) : Option (Int32 × Int32 × Int32 × Int32) := ds_it (fun s => fX8_laysSteps_121_b o_firstX o_firstY o_all_r o_shift_r s.1 s.2.1 s.2.2) 1000 (v1, o_secondX, o_secondY)
def fX8_laysSteps_118 (o_firstX : Int32) (o_firstY : Int32) (o_secondX : Int32) (o_secondY : Int32) (o_all_r : Nat → Int32) (o_shift_r : Nat → Int32) : Option (Int32 × Int32 × Int32 × Int32) :=
  fX8_laysSteps_121 o_firstX o_firstY o_all_r o_shift_r (-10 : Int32) o_secondX o_secondY
def fX8_laysSteps_112 (o_firstX : Int32) (o_firstY : Int32) (v1 : Int32) : Option ((Int32 × Int32 × Int32) ⊕ (Int32 × Int32 × Int32 × Int32)) :=
  some (.inl ((v1 + 1), o_firstX, o_firstY))
def fX8_laysSteps_106 (o_firstX : Int32) (o_firstY : Int32) (v2 : Int32) : Option ((Int32 × Int32 × Int32) ⊕ ((Int32 × Int32 × Int32) ⊕ (Int32 × Int32 × Int32 × Int32))) :=
  some (.inl ((v2 + 1), o_firstX, o_firstY))
def fX8_laysSteps_96 (v1 : Int32) (v2 : Int32) : Option ((Int32 × Int32 × Int32) ⊕ ((Int32 × Int32 × Int32) ⊕ (Int32 × Int32 × Int32 × Int32))) :=
  fX8_laysSteps_106 v1 v2 v2
def fX8_laysSteps_79 (o_firstX : Int32) (o_firstY : Int32) (o_all_r : Nat → Int32) (v1 : Int32) (v2 : Int32) : Option ((Int32 × Int32 × Int32) ⊕ ((Int32 × Int32 × Int32) ⊕ (Int32 × Int32 × Int32 × Int32))) :=
  Option.bind (fX8_isAhead o_all_r v1 v2 o_firstX o_firstY) fun q90 => if q90 = 0 then fX8_laysSteps_106 o_firstX o_firstY v2 else fX8_laysSteps_96 v1 v2
def fX8_laysSteps_60 (o_firstX : Int32) (o_firstY : Int32) (o_all_r : Nat → Int32) (v1 : Int32) (v2 : Int32) (s0 : Int32) : Option ((Int32 × Int32 × Int32) ⊕ ((Int32 × Int32 × Int32) ⊕ (Int32 × Int32 × Int32 × Int32))) :=
  if s0 = 0 then fX8_laysSteps_106 o_firstX o_firstY v2 else if o_firstX = 0 then if o_firstY = 0 then fX8_laysSteps_96 v1 v2 else fX8_laysSteps_79 o_firstX o_firstY o_all_r v1 v2 else fX8_laysSteps_79 o_firstX o_firstY o_all_r v1 v2
def fX8_laysSteps_59 (o_firstX : Int32) (o_firstY : Int32) (o_all_r : Nat → Int32) (v1 : Int32) (v2 : Int32) : Option ((Int32 × Int32 × Int32) ⊕ ((Int32 × Int32 × Int32) ⊕ (Int32 × Int32 × Int32 × Int32))) :=
  fX8_laysSteps_60 o_firstX o_firstY o_all_r v1 v2 (0 : Int32)
def fX8_laysSteps_55 (o_firstX : Int32) (o_firstY : Int32) (o_all_r : Nat → Int32) (v1 : Int32) (v2 : Int32) : Option ((Int32 × Int32 × Int32) ⊕ ((Int32 × Int32 × Int32) ⊕ (Int32 × Int32 × Int32 × Int32))) :=
  fX8_laysSteps_60 o_firstX o_firstY o_all_r v1 v2 (1 : Int32)
def fX8_laysSteps_32_b (o_all_r : Nat → Int32) (o_shift_r : Nat → Int32) (v1 : Int32) (v2 : Int32) (o_firstX : Int32) (o_firstY : Int32) : Option ((Int32 × Int32 × Int32) ⊕ ((Int32 × Int32 × Int32) ⊕ (Int32 × Int32 × Int32 × Int32))) :=
  if (10 : Int32) < v2 then Option.bind (fX8_laysSteps_112 o_firstX o_firstY v1) fun z => some (.inr z) else Option.bind (fX8_isStep o_all_r o_shift_r v1 v2) fun q41 => if q41 = 0 then fX8_laysSteps_59 o_firstX o_firstY o_all_r v1 v2 else if v1 = 0 then if v2 = 0 then fX8_laysSteps_59 o_firstX o_firstY o_all_r v1 v2 else fX8_laysSteps_55 o_firstX o_firstY o_all_r v1 v2 else fX8_laysSteps_55 o_firstX o_firstY o_all_r v1 v2
def fX8_laysSteps_32 (o_all_r : Nat → Int32) (o_shift_r : Nat → Int32) (v1 : Int32) (v2 : Int32) (o_firstX : Int32) (o_firstY : Int32) : Option ((Int32 × Int32 × Int32) ⊕ (Int32 × Int32 × Int32 × Int32)) := ds_it (fun s => fX8_laysSteps_32_b o_all_r o_shift_r v1 s.1 s.2.1 s.2.2) 1000 (v2, o_firstX, o_firstY)
def fX8_laysSteps_23_b (o_secondX : Int32) (o_secondY : Int32) (o_all_r : Nat → Int32) (o_shift_r : Nat → Int32) (v1 : Int32) (o_firstX : Int32) (o_firstY : Int32) : Option ((Int32 × Int32 × Int32) ⊕ (Int32 × Int32 × Int32 × Int32)) :=
  if (10 : Int32) < v1 then Option.bind (fX8_laysSteps_118 o_firstX o_firstY o_secondX o_secondY o_all_r o_shift_r) fun z => some (.inr z) else fX8_laysSteps_32 o_all_r o_shift_r v1 (-10 : Int32) o_firstX o_firstY
def fX8_laysSteps_23 (o_secondX : Int32) (o_secondY : Int32) (o_all_r : Nat → Int32) (o_shift_r : Nat → Int32) (v1 : Int32) (o_firstX : Int32) (o_firstY : Int32) : Option (Int32 × Int32 × Int32 × Int32) := ds_it (fun s => fX8_laysSteps_23_b o_secondX o_secondY o_all_r o_shift_r s.1 s.2.1 s.2.2) 1000 (v1, o_firstX, o_firstY)
def fX8_laysSteps (o_all_r : Nat → Int32) (o_shift_r : Nat → Int32) : Option (Int32 × Int32 × Int32 × Int32) :=
  fX8_laysSteps_23 (0 : Int32) (0 : Int32) o_all_r o_shift_r (-10 : Int32) (0 : Int32) (0 : Int32)
set_option maxHeartbeats 4000000 in
set_option maxRecDepth 100000 in
theorem c_X8_laysSteps (l : Launch) (dC : Nat → ClassId) (dI : Nat → Nat → Nat) (ca : Nat → ClassId) (sa : Nat → Nat) (h_o : Nat) (h_o_plans : Nat) (h_o_makers : Nat) (h_o_halves : Nat) (h_o_all : Nat) (h_o_text : Nat) (h_o_saved : Nat) (h_o_undone : Nat) (h_o_told : Nat) (h_o_shift : Nat) (h_o_rootOf : Nat) (h_o_becomes : Nat) (h_o_comes : Nat) (h_o_next : Nat) (sz : Nat) (o_raised : Int32) (o_undos : Int32) (o_reached : Int32) (o_length : Int32) (o_begin : Int32) (o_letters : Int32) (o_sort : Int32) (o_word : Int64) (o_wrongAt : Int32) (o_badAt : Int32) (o_bad : Int32) (o_firstX : Int32) (o_firstY : Int32) (o_secondX : Int32) (o_secondY : Int32) (o_x : Int32) (o_all_r : Nat → Int32) (o_shift_r : Nat → Int32) (res : Int32 × Int32 × Int32 × Int32) (hf : fX8_laysSteps o_all_r o_shift_r = some res) : Met l yX8_laysSteps (Cond.code yX8_laysSteps cX8_laysSteps 4 none :: ds_gw) { frames := 3, cells := 0, slots := 0, locals := 66 } (va_Pc [.ref h_o] (ds_Pre dC dI ca sa [(h_o, .inr (7, [.ref h_o_plans, .ref h_o_makers, .ref h_o_halves, .int o_raised, .ref h_o_all, .ref h_o_text, .ref h_o_saved, .ref h_o_undone, .int o_undos, .int o_reached, .int o_length, .int o_begin, .int o_letters, .int o_sort, .long o_word, .int o_wrongAt, .int o_badAt, .int o_bad, .ref h_o_told, .ref h_o_shift, .int o_firstX, .int o_firstY, .int o_secondX, .int o_secondY, .ref h_o_rootOf, .ref h_o_becomes, .ref h_o_comes, .ref h_o_next, .int o_x])), (h_o_all, .inl (ca 0, 350, .inl o_all_r)), (h_o_shift, .inl (ca 3, 768, .inl o_shift_r))] sz)) (va_Qv (fun (_ : Unit) => True) (ds_B dC dI (va_A [(h_o, .inr (7, [.ref h_o_plans, .ref h_o_makers, .ref h_o_halves, .int o_raised, .ref h_o_all, .ref h_o_text, .ref h_o_saved, .ref h_o_undone, .int o_undos, .int o_reached, .int o_length, .int o_begin, .int o_letters, .int o_sort, .long o_word, .int o_wrongAt, .int o_badAt, .int o_bad, .ref h_o_told, .ref h_o_shift, .int o_firstX, .int o_firstY, .int o_secondX, .int o_secondY, .ref h_o_rootOf, .ref h_o_becomes, .ref h_o_comes, .ref h_o_next, .int o_x])), (h_o_all, .inl (ca 0, 350, .inl o_all_r)), (h_o_shift, .inl (ca 3, 768, .inl o_shift_r))] sz) [(h_o, .inr (7, [.ref h_o_plans, .ref h_o_makers, .ref h_o_halves, .int o_raised, .ref h_o_all, .ref h_o_text, .ref h_o_saved, .ref h_o_undone, .int o_undos, .int o_reached, .int o_length, .int o_begin, .int o_letters, .int o_sort, .long o_word, .int o_wrongAt, .int o_badAt, .int o_bad, .ref h_o_told, .ref h_o_shift, .int res.1, .int res.2.1, .int res.2.2.1, .int res.2.2.2, .ref h_o_rootOf, .ref h_o_becomes, .ref h_o_comes, .ref h_o_next, .int o_x])), (h_o_all, .inl (ca 0, 350, .inl o_all_r)), (h_o_shift, .inl (ca 3, 768, .inl o_shift_r))]) (va_A [(h_o, .inr (7, [.ref h_o_plans, .ref h_o_makers, .ref h_o_halves, .int o_raised, .ref h_o_all, .ref h_o_text, .ref h_o_saved, .ref h_o_undone, .int o_undos, .int o_reached, .int o_length, .int o_begin, .int o_letters, .int o_sort, .long o_word, .int o_wrongAt, .int o_badAt, .int o_bad, .ref h_o_told, .ref h_o_shift, .int o_firstX, .int o_firstY, .int o_secondX, .int o_secondY, .ref h_o_rootOf, .ref h_o_becomes, .ref h_o_comes, .ref h_o_next, .int o_x])), (h_o_all, .inl (ca 0, 350, .inl o_all_r)), (h_o_shift, .inl (ca 3, 768, .inl o_shift_r))] sz)) 0 0 (va_A [(h_o, .inr (7, [.ref h_o_plans, .ref h_o_makers, .ref h_o_halves, .int o_raised, .ref h_o_all, .ref h_o_text, .ref h_o_saved, .ref h_o_undone, .int o_undos, .int o_reached, .int o_length, .int o_begin, .int o_letters, .int o_sort, .long o_word, .int o_wrongAt, .int o_badAt, .int o_bad, .ref h_o_told, .ref h_o_shift, .int o_firstX, .int o_firstY, .int o_secondX, .int o_secondY, .ref h_o_rootOf, .ref h_o_becomes, .ref h_o_comes, .ref h_o_next, .int o_x])), (h_o_all, .inl (ca 0, 350, .inl o_all_r)), (h_o_shift, .inl (ca 3, 768, .inl o_shift_r))] sz) := by
  refine Met.ofW (cc := cX8_laysSteps) (maxL := 4) (ret := none) (by decide) rfl ?_
  intro p e s m args below meth c s₁ B hml hv
  obtain ⟨rfl, hsz, hP, hK, hD0, hE⟩ := hv
  have hx := B.exec
  have hb := B.bytes
  have hr := B.returns
  have hts := atoms_spec (ws := Cond.code yX8_laysSteps cX8_laysSteps 4 none :: ds_gw) B.pre
  have hg : ∀ {w : Cond}, w ∈ ds_gw → w.before _ s = true := fun h => hts _ (List.mem_cons_of_mem _ h)
  have hown : s.vm.findClass RX8 = some m.cls := findClass_of_methodNamed B.named
  have hlocks := B.notSynchronized
  subst hsz
  have hD := hD0.self (sz := s.heap.size)
  generalize hAe : va_A [(h_o, .inr (7, [.ref h_o_plans, .ref h_o_makers, .ref h_o_halves, .int o_raised, .ref h_o_all, .ref h_o_text, .ref h_o_saved, .ref h_o_undone, .int o_undos, .int o_reached, .int o_length, .int o_begin, .int o_letters, .int o_sort, .long o_word, .int o_wrongAt, .int o_badAt, .int o_bad, .ref h_o_told, .ref h_o_shift, .int o_firstX, .int o_firstY, .int o_secondX, .int o_secondY, .ref h_o_rootOf, .ref h_o_becomes, .ref h_o_comes, .ref h_o_next, .int o_x])), (h_o_all, .inl (ca 0, 350, .inl o_all_r)), (h_o_shift, .inl (ca 3, 768, .inl o_shift_r))] s.heap.size = A at hD hE ⊢
  have hA : ∀ q : Nat, s.heap.size ≤ q → A q := fun q h => by rw [← hAe]; exact Or.inr h
  have hS : va_S A s.heap s.heap [] := va_S.rf
  have hl := lv_entry ([.ref h_o]) (n := 4) (Nat.le_of_ble_eq_true rfl)
  rw [lg_entry_eq]
  generalize (lg_sl ([.ref h_o]) ++ List.replicate (4 - (lg_sl ([.ref h_o])).length) Slot.unset).toArray = ls at hl ⊢
  have hl : lv_has ls 4 [(0, .ref h_o)] := hl
  obtain ⟨G0, eG0⟩ : ∃ G : (Int32 × Int32 × Int32 × Int32) → Prop, G = (fun r => r = res) := ⟨_, rfl⟩
  obtain ⟨rr, hrr⟩ : ∃ z, z = res := ⟨_, rfl⟩
  rw [← hrr] at hf
  have hG : G0 rr := by subst eG0; exact hrr
  refine ds_cap (fun WW h1 h2 => ?_)
  have J_121 : ∀ (o_firstX : Int32) (o_firstY : Int32) (n : Nat) (v1 : Int32) (o_secondX : Int32) (o_secondY : Int32) (rr : Int32 × Int32 × Int32 × Int32) (hf : ds_it (fun s => fX8_laysSteps_121_b o_firstX o_firstY o_all_r o_shift_r s.1 s.2.1 s.2.2) n (v1, o_secondX, o_secondY) = some rr) (hG : G0 rr) (H : Heap) (locs : List Loc) (hP : va_P (dC, dI) vwCl [(h_o, .inr (7, [.ref h_o_plans, .ref h_o_makers, .ref h_o_halves, .int o_raised, .ref h_o_all, .ref h_o_text, .ref h_o_saved, .ref h_o_undone, .int o_undos, .int o_reached, .int o_length, .int o_begin, .int o_letters, .int o_sort, .long o_word, .int o_wrongAt, .int o_badAt, .int o_bad, .ref h_o_told, .ref h_o_shift, .int o_firstX, .int o_firstY, .int o_secondX, .int o_secondY, .ref h_o_rootOf, .ref h_o_becomes, .ref h_o_comes, .ref h_o_next, .int o_x])), (h_o_all, .inl (ca 0, 350, .inl o_all_r)), (h_o_shift, .inl (ca 3, 768, .inl o_shift_r))] H) (hD : va_D A [(h_o, .inr (7, [.ref h_o_plans, .ref h_o_makers, .ref h_o_halves, .int o_raised, .ref h_o_all, .ref h_o_text, .ref h_o_saved, .ref h_o_undone, .int o_undos, .int o_reached, .int o_length, .int o_begin, .int o_letters, .int o_sort, .long o_word, .int o_wrongAt, .int o_badAt, .int o_bad, .ref h_o_told, .ref h_o_shift, .int o_firstX, .int o_firstY, .int o_secondX, .int o_secondY, .ref h_o_rootOf, .ref h_o_becomes, .ref h_o_comes, .ref h_o_next, .int o_x])), (h_o_all, .inl (ca 0, 350, .inl o_all_r)), (h_o_shift, .inl (ca 3, 768, .inl o_shift_r))]) (hS : va_S A s.heap H locs) (ls : Array Slot) (hl : lv_has ls 4 [(0, .ref h_o), (1, .int v1)]), WW H locs (F0 m 121 ls []) := by
    intro o_firstX o_firstY n
    induction n with
    | zero => intro v1 o_secondX o_secondY rr hf; exact (ds_it_zero hf).elim
    | succ n ih121 =>
      intro v1 o_secondX o_secondY rr hf hG H locs hP hD hS ls hl
      refine h2 ?_
      obtain ⟨rr, hf, hG⟩ := ds_it_succ hf hG
      replace hf : fX8_laysSteps_121_b o_firstX o_firstY o_all_r o_shift_r v1 o_secondX o_secondY = some rr := hf
      obtain ⟨G1, eG1⟩ : ∃ G : ((Int32 × Int32 × Int32) ⊕ (Int32 × Int32 × Int32 × Int32)) → Prop, G = ds_G (fun s' => ∃ r', ds_it (fun s => fX8_laysSteps_121_b o_firstX o_firstY o_all_r o_shift_r s.1 s.2.1 s.2.2) n s' = some r' ∧ G0 r') G0 := ⟨_, rfl⟩
      rw [← eG1] at hG
      have J_217 : ∀ (v1 : Int32) (o_secondX : Int32) (o_secondY : Int32) (rr : (Int32 × Int32 × Int32) ⊕ (Int32 × Int32 × Int32 × Int32)) (hf : fX8_laysSteps_217 o_secondX o_secondY v1 = some rr) (hG : G1 rr) (H : Heap) (locs : List Loc) (hP : va_P (dC, dI) vwCl [(h_o, .inr (7, [.ref h_o_plans, .ref h_o_makers, .ref h_o_halves, .int o_raised, .ref h_o_all, .ref h_o_text, .ref h_o_saved, .ref h_o_undone, .int o_undos, .int o_reached, .int o_length, .int o_begin, .int o_letters, .int o_sort, .long o_word, .int o_wrongAt, .int o_badAt, .int o_bad, .ref h_o_told, .ref h_o_shift, .int o_firstX, .int o_firstY, .int o_secondX, .int o_secondY, .ref h_o_rootOf, .ref h_o_becomes, .ref h_o_comes, .ref h_o_next, .int o_x])), (h_o_all, .inl (ca 0, 350, .inl o_all_r)), (h_o_shift, .inl (ca 3, 768, .inl o_shift_r))] H) (hD : va_D A [(h_o, .inr (7, [.ref h_o_plans, .ref h_o_makers, .ref h_o_halves, .int o_raised, .ref h_o_all, .ref h_o_text, .ref h_o_saved, .ref h_o_undone, .int o_undos, .int o_reached, .int o_length, .int o_begin, .int o_letters, .int o_sort, .long o_word, .int o_wrongAt, .int o_badAt, .int o_bad, .ref h_o_told, .ref h_o_shift, .int o_firstX, .int o_firstY, .int o_secondX, .int o_secondY, .ref h_o_rootOf, .ref h_o_becomes, .ref h_o_comes, .ref h_o_next, .int o_x])), (h_o_all, .inl (ca 0, 350, .inl o_all_r)), (h_o_shift, .inl (ca 3, 768, .inl o_shift_r))]) (hS : va_S A s.heap H locs) (ls : Array Slot) (hl : lv_has ls 4 [(0, .ref h_o), (1, .int v1)]), WW H locs (F0 m 217 ls []) := by
        intro v1 o_secondX o_secondY rr hf hG H locs hP hD hS ls hl
        refine h2 ?_
        unfold fX8_laysSteps_217 at hf
        refine lv_iinc (v := (v1 + 1)) (lv' := [(1, .int (v1 + 1)), (0, .ref h_o)]) hx hb dX8_laysSteps_217 hl (k := 1) rfl rfl (by decide) rfl (fun ls hl => ?_)
        refine lv_goto (tgt := 121) hx hb dX8_laysSteps_220 (by decide) ?_
        have hf := Option.some.inj hf
        subst hf
        rw [eG1] at hG
        obtain ⟨rr, hf, hG⟩ := hG
        exact h1 (ih121 (v1 + 1) o_secondX o_secondY rr hf hG _ _ hP hD hS _ (lv_sub hl [1, 0] rfl))
      have J_130 : ∀ (v1 : Int32) (n : Nat) (v2 : Int32) (o_secondX : Int32) (o_secondY : Int32) (rr : (Int32 × Int32 × Int32) ⊕ (Int32 × Int32 × Int32 × Int32)) (hf : ds_it (fun s => fX8_laysSteps_130_b o_firstX o_firstY o_all_r o_shift_r v1 s.1 s.2.1 s.2.2) n (v2, o_secondX, o_secondY) = some rr) (hG : G1 rr) (H : Heap) (locs : List Loc) (hP : va_P (dC, dI) vwCl [(h_o, .inr (7, [.ref h_o_plans, .ref h_o_makers, .ref h_o_halves, .int o_raised, .ref h_o_all, .ref h_o_text, .ref h_o_saved, .ref h_o_undone, .int o_undos, .int o_reached, .int o_length, .int o_begin, .int o_letters, .int o_sort, .long o_word, .int o_wrongAt, .int o_badAt, .int o_bad, .ref h_o_told, .ref h_o_shift, .int o_firstX, .int o_firstY, .int o_secondX, .int o_secondY, .ref h_o_rootOf, .ref h_o_becomes, .ref h_o_comes, .ref h_o_next, .int o_x])), (h_o_all, .inl (ca 0, 350, .inl o_all_r)), (h_o_shift, .inl (ca 3, 768, .inl o_shift_r))] H) (hD : va_D A [(h_o, .inr (7, [.ref h_o_plans, .ref h_o_makers, .ref h_o_halves, .int o_raised, .ref h_o_all, .ref h_o_text, .ref h_o_saved, .ref h_o_undone, .int o_undos, .int o_reached, .int o_length, .int o_begin, .int o_letters, .int o_sort, .long o_word, .int o_wrongAt, .int o_badAt, .int o_bad, .ref h_o_told, .ref h_o_shift, .int o_firstX, .int o_firstY, .int o_secondX, .int o_secondY, .ref h_o_rootOf, .ref h_o_becomes, .ref h_o_comes, .ref h_o_next, .int o_x])), (h_o_all, .inl (ca 0, 350, .inl o_all_r)), (h_o_shift, .inl (ca 3, 768, .inl o_shift_r))]) (hS : va_S A s.heap H locs) (ls : Array Slot) (hl : lv_has ls 4 [(0, .ref h_o), (1, .int v1), (2, .int v2)]), WW H locs (F0 m 130 ls []) := by
        intro v1 n
        induction n with
        | zero => intro v2 o_secondX o_secondY rr hf; exact (ds_it_zero hf).elim
        | succ n ih130 =>
          intro v2 o_secondX o_secondY rr hf hG H locs hP hD hS ls hl
          refine h2 ?_
          obtain ⟨rr, hf, hG⟩ := ds_it_succ hf hG
          replace hf : fX8_laysSteps_130_b o_firstX o_firstY o_all_r o_shift_r v1 v2 o_secondX o_secondY = some rr := hf
          obtain ⟨G2, eG2⟩ : ∃ G : ((Int32 × Int32 × Int32) ⊕ ((Int32 × Int32 × Int32) ⊕ (Int32 × Int32 × Int32 × Int32))) → Prop, G = ds_G (fun s' => ∃ r', ds_it (fun s => fX8_laysSteps_130_b o_firstX o_firstY o_all_r o_shift_r v1 s.1 s.2.1 s.2.2) n s' = some r' ∧ G1 r') G1 := ⟨_, rfl⟩
          rw [← eG2] at hG
          have J_211 : ∀ (v2 : Int32) (o_secondX : Int32) (o_secondY : Int32) (rr : (Int32 × Int32 × Int32) ⊕ ((Int32 × Int32 × Int32) ⊕ (Int32 × Int32 × Int32 × Int32))) (hf : fX8_laysSteps_211 o_secondX o_secondY v2 = some rr) (hG : G2 rr) (H : Heap) (locs : List Loc) (hP : va_P (dC, dI) vwCl [(h_o, .inr (7, [.ref h_o_plans, .ref h_o_makers, .ref h_o_halves, .int o_raised, .ref h_o_all, .ref h_o_text, .ref h_o_saved, .ref h_o_undone, .int o_undos, .int o_reached, .int o_length, .int o_begin, .int o_letters, .int o_sort, .long o_word, .int o_wrongAt, .int o_badAt, .int o_bad, .ref h_o_told, .ref h_o_shift, .int o_firstX, .int o_firstY, .int o_secondX, .int o_secondY, .ref h_o_rootOf, .ref h_o_becomes, .ref h_o_comes, .ref h_o_next, .int o_x])), (h_o_all, .inl (ca 0, 350, .inl o_all_r)), (h_o_shift, .inl (ca 3, 768, .inl o_shift_r))] H) (hD : va_D A [(h_o, .inr (7, [.ref h_o_plans, .ref h_o_makers, .ref h_o_halves, .int o_raised, .ref h_o_all, .ref h_o_text, .ref h_o_saved, .ref h_o_undone, .int o_undos, .int o_reached, .int o_length, .int o_begin, .int o_letters, .int o_sort, .long o_word, .int o_wrongAt, .int o_badAt, .int o_bad, .ref h_o_told, .ref h_o_shift, .int o_firstX, .int o_firstY, .int o_secondX, .int o_secondY, .ref h_o_rootOf, .ref h_o_becomes, .ref h_o_comes, .ref h_o_next, .int o_x])), (h_o_all, .inl (ca 0, 350, .inl o_all_r)), (h_o_shift, .inl (ca 3, 768, .inl o_shift_r))]) (hS : va_S A s.heap H locs) (ls : Array Slot) (hl : lv_has ls 4 [(0, .ref h_o), (1, .int v1), (2, .int v2)]), WW H locs (F0 m 211 ls []) := by
            intro v2 o_secondX o_secondY rr hf hG H locs hP hD hS ls hl
            refine h2 ?_
            unfold fX8_laysSteps_211 at hf
            refine lv_iinc (v := (v2 + 1)) (lv' := [(2, .int (v2 + 1)), (0, .ref h_o), (1, .int v1)]) hx hb dX8_laysSteps_211 hl (k := 2) rfl rfl (by decide) rfl (fun ls hl => ?_)
            refine lv_goto (tgt := 130) hx hb dX8_laysSteps_214 (by decide) ?_
            have hf := Option.some.inj hf
            subst hf
            rw [eG2] at hG
            obtain ⟨rr, hf, hG⟩ := hG
            exact h1 (ih130 (v2 + 1) o_secondX o_secondY rr hf hG _ _ hP hD hS _ (lv_sub hl [1, 2, 0] rfl))
          have J_201 : ∀ (v2 : Int32) (o_secondX : Int32) (o_secondY : Int32) (rr : (Int32 × Int32 × Int32) ⊕ ((Int32 × Int32 × Int32) ⊕ (Int32 × Int32 × Int32 × Int32))) (hf : fX8_laysSteps_201 v1 v2 = some rr) (hG : G2 rr) (H : Heap) (locs : List Loc) (hP : va_P (dC, dI) vwCl [(h_o, .inr (7, [.ref h_o_plans, .ref h_o_makers, .ref h_o_halves, .int o_raised, .ref h_o_all, .ref h_o_text, .ref h_o_saved, .ref h_o_undone, .int o_undos, .int o_reached, .int o_length, .int o_begin, .int o_letters, .int o_sort, .long o_word, .int o_wrongAt, .int o_badAt, .int o_bad, .ref h_o_told, .ref h_o_shift, .int o_firstX, .int o_firstY, .int o_secondX, .int o_secondY, .ref h_o_rootOf, .ref h_o_becomes, .ref h_o_comes, .ref h_o_next, .int o_x])), (h_o_all, .inl (ca 0, 350, .inl o_all_r)), (h_o_shift, .inl (ca 3, 768, .inl o_shift_r))] H) (hD : va_D A [(h_o, .inr (7, [.ref h_o_plans, .ref h_o_makers, .ref h_o_halves, .int o_raised, .ref h_o_all, .ref h_o_text, .ref h_o_saved, .ref h_o_undone, .int o_undos, .int o_reached, .int o_length, .int o_begin, .int o_letters, .int o_sort, .long o_word, .int o_wrongAt, .int o_badAt, .int o_bad, .ref h_o_told, .ref h_o_shift, .int o_firstX, .int o_firstY, .int o_secondX, .int o_secondY, .ref h_o_rootOf, .ref h_o_becomes, .ref h_o_comes, .ref h_o_next, .int o_x])), (h_o_all, .inl (ca 0, 350, .inl o_all_r)), (h_o_shift, .inl (ca 3, 768, .inl o_shift_r))]) (hS : va_S A s.heap H locs) (ls : Array Slot) (hl : lv_has ls 4 [(0, .ref h_o), (1, .int v1), (2, .int v2)]), WW H locs (F0 m 201 ls []) := by
            intro v2 o_secondX o_secondY rr hf hG H locs hP hD hS ls hl
            refine h2 ?_
            unfold fX8_laysSteps_201 at hf
            refine lv_aload_n hx hb dX8_laysSteps_201 rfl (lv_at hl 0 rfl) ?_
            refine lv_iload_n hx hb dX8_laysSteps_202 rfl (lv_at hl 1 rfl) ?_
            refine va_put (D := (dC, dI)) (ci := 7) (v := .int v1) (ty := tyX8 22) (C := RX8) (T := TX8) (N := 29) hx hb hts (fun w h => List.mem_cons_of_mem _ (kc_X8 w h)) tyX8 tyX8_ok nmX8 hown hK hP hD hS 0 rfl rfl 22 (by decide) (hg kw_679) (fun _ h9 => h9) rfl (by decide +kernel) rfl rfl (Nat.le_of_ble_eq_true rfl) dX8_laysSteps_203 (fun H locs hP hD hS => ?_)
            have hP : va_P (dC, dI) vwCl [(h_o, .inr (7, [.ref h_o_plans, .ref h_o_makers, .ref h_o_halves, .int o_raised, .ref h_o_all, .ref h_o_text, .ref h_o_saved, .ref h_o_undone, .int o_undos, .int o_reached, .int o_length, .int o_begin, .int o_letters, .int o_sort, .long o_word, .int o_wrongAt, .int o_badAt, .int o_bad, .ref h_o_told, .ref h_o_shift, .int o_firstX, .int o_firstY, .int v1, .int o_secondY, .ref h_o_rootOf, .ref h_o_becomes, .ref h_o_comes, .ref h_o_next, .int o_x])), (h_o_all, .inl (ca 0, 350, .inl o_all_r)), (h_o_shift, .inl (ca 3, 768, .inl o_shift_r))] H := hP
            have hD : va_D A [(h_o, .inr (7, [.ref h_o_plans, .ref h_o_makers, .ref h_o_halves, .int o_raised, .ref h_o_all, .ref h_o_text, .ref h_o_saved, .ref h_o_undone, .int o_undos, .int o_reached, .int o_length, .int o_begin, .int o_letters, .int o_sort, .long o_word, .int o_wrongAt, .int o_badAt, .int o_bad, .ref h_o_told, .ref h_o_shift, .int o_firstX, .int o_firstY, .int v1, .int o_secondY, .ref h_o_rootOf, .ref h_o_becomes, .ref h_o_comes, .ref h_o_next, .int o_x])), (h_o_all, .inl (ca 0, 350, .inl o_all_r)), (h_o_shift, .inl (ca 3, 768, .inl o_shift_r))] := hD
            refine lv_aload_n hx hb dX8_laysSteps_206 rfl (lv_at hl 0 rfl) ?_
            refine lv_iload_n hx hb dX8_laysSteps_207 rfl (lv_at hl 2 rfl) ?_
            refine va_put (D := (dC, dI)) (ci := 7) (v := .int v2) (ty := tyX8 23) (C := RX8) (T := TX8) (N := 29) hx hb hts (fun w h => List.mem_cons_of_mem _ (kc_X8 w h)) tyX8 tyX8_ok nmX8 hown hK hP hD hS 0 rfl rfl 23 (by decide) (hg kw_680) (fun _ h9 => h9) rfl (by decide +kernel) rfl rfl (Nat.le_of_ble_eq_true rfl) dX8_laysSteps_208 (fun H locs hP hD hS => ?_)
            have hP : va_P (dC, dI) vwCl [(h_o, .inr (7, [.ref h_o_plans, .ref h_o_makers, .ref h_o_halves, .int o_raised, .ref h_o_all, .ref h_o_text, .ref h_o_saved, .ref h_o_undone, .int o_undos, .int o_reached, .int o_length, .int o_begin, .int o_letters, .int o_sort, .long o_word, .int o_wrongAt, .int o_badAt, .int o_bad, .ref h_o_told, .ref h_o_shift, .int o_firstX, .int o_firstY, .int v1, .int v2, .ref h_o_rootOf, .ref h_o_becomes, .ref h_o_comes, .ref h_o_next, .int o_x])), (h_o_all, .inl (ca 0, 350, .inl o_all_r)), (h_o_shift, .inl (ca 3, 768, .inl o_shift_r))] H := hP
            have hD : va_D A [(h_o, .inr (7, [.ref h_o_plans, .ref h_o_makers, .ref h_o_halves, .int o_raised, .ref h_o_all, .ref h_o_text, .ref h_o_saved, .ref h_o_undone, .int o_undos, .int o_reached, .int o_length, .int o_begin, .int o_letters, .int o_sort, .long o_word, .int o_wrongAt, .int o_badAt, .int o_bad, .ref h_o_told, .ref h_o_shift, .int o_firstX, .int o_firstY, .int v1, .int v2, .ref h_o_rootOf, .ref h_o_becomes, .ref h_o_comes, .ref h_o_next, .int o_x])), (h_o_all, .inl (ca 0, 350, .inl o_all_r)), (h_o_shift, .inl (ca 3, 768, .inl o_shift_r))] := hD
            exact h1 (J_211 v2 v1 v2 _ hf hG _ _ hP hD hS _ (lv_sub hl [0, 1, 2] rfl))
          have J_184 : ∀ (v2 : Int32) (o_secondX : Int32) (o_secondY : Int32) (rr : (Int32 × Int32 × Int32) ⊕ ((Int32 × Int32 × Int32) ⊕ (Int32 × Int32 × Int32 × Int32))) (hf : fX8_laysSteps_184 o_secondX o_secondY o_all_r v1 v2 = some rr) (hG : G2 rr) (H : Heap) (locs : List Loc) (hP : va_P (dC, dI) vwCl [(h_o, .inr (7, [.ref h_o_plans, .ref h_o_makers, .ref h_o_halves, .int o_raised, .ref h_o_all, .ref h_o_text, .ref h_o_saved, .ref h_o_undone, .int o_undos, .int o_reached, .int o_length, .int o_begin, .int o_letters, .int o_sort, .long o_word, .int o_wrongAt, .int o_badAt, .int o_bad, .ref h_o_told, .ref h_o_shift, .int o_firstX, .int o_firstY, .int o_secondX, .int o_secondY, .ref h_o_rootOf, .ref h_o_becomes, .ref h_o_comes, .ref h_o_next, .int o_x])), (h_o_all, .inl (ca 0, 350, .inl o_all_r)), (h_o_shift, .inl (ca 3, 768, .inl o_shift_r))] H) (hD : va_D A [(h_o, .inr (7, [.ref h_o_plans, .ref h_o_makers, .ref h_o_halves, .int o_raised, .ref h_o_all, .ref h_o_text, .ref h_o_saved, .ref h_o_undone, .int o_undos, .int o_reached, .int o_length, .int o_begin, .int o_letters, .int o_sort, .long o_word, .int o_wrongAt, .int o_badAt, .int o_bad, .ref h_o_told, .ref h_o_shift, .int o_firstX, .int o_firstY, .int o_secondX, .int o_secondY, .ref h_o_rootOf, .ref h_o_becomes, .ref h_o_comes, .ref h_o_next, .int o_x])), (h_o_all, .inl (ca 0, 350, .inl o_all_r)), (h_o_shift, .inl (ca 3, 768, .inl o_shift_r))]) (hS : va_S A s.heap H locs) (ls : Array Slot) (hl : lv_has ls 4 [(0, .ref h_o), (1, .int v1), (2, .int v2)]), WW H locs (F0 m 184 ls []) := by
            intro v2 o_secondX o_secondY rr hf hG H locs hP hD hS ls hl
            refine h2 ?_
            unfold fX8_laysSteps_184 at hf
            refine lv_aload_n hx hb dX8_laysSteps_184 rfl (lv_at hl 0 rfl) ?_
            refine lv_iload_n hx hb dX8_laysSteps_185 rfl (lv_at hl 1 rfl) ?_
            refine lv_iload_n hx hb dX8_laysSteps_186 rfl (lv_at hl 2 rfl) ?_
            refine lv_aload_n hx hb dX8_laysSteps_187 rfl (lv_at hl 0 rfl) ?_
            refine va_get (D := (dC, dI)) (ci := 7) (v := .int o_secondX) (C := RX8) (T := TX8) (N := 29) hx hb hts (fun w h => List.mem_cons_of_mem _ (kc_X8 w h)) hown hK hP 0 rfl rfl 22 (by decide) (hg kw_679) (fun _ h9 => h9) rfl dX8_laysSteps_188 ?_
            refine lv_aload_n hx hb dX8_laysSteps_191 rfl (lv_at hl 0 rfl) ?_
            refine va_get (D := (dC, dI)) (ci := 7) (v := .int o_secondY) (C := RX8) (T := TX8) (N := 29) hx hb hts (fun w h => List.mem_cons_of_mem _ (kc_X8 w h)) hown hK hP 0 rfl rfl 23 (by decide) (hg kw_680) (fun _ h9 => h9) rfl dX8_laysSteps_192 ?_
            obtain ⟨q195, hq195, hf⟩ := ds_ob hf
            refine ds_calli (wr := [(h_o_shift, .inl (ca 3, 768, .inl o_shift_r))]) (va_runV (As := [.int v1, .int v2, .int o_secondX, .int o_secondY]) (rest := []) ⟨hx, hb, hml, hown, hts⟩ (c_X8_isAhead l dC dI ca sa h_o h_o_plans h_o_makers h_o_halves h_o_all h_o_text h_o_saved h_o_undone h_o_told h_o_shift h_o_rootOf h_o_becomes h_o_comes h_o_next H.size o_raised o_undos o_reached o_length o_begin o_letters o_sort o_word o_wrongAt o_badAt o_bad o_firstX o_firstY o_secondX o_secondY o_x o_all_r v1 v2 o_secondX o_secondY q195 hq195) (cwV 4 hts (ds_gV kw_681 kw_682 kw_683 kw_597 kw_684) rfl rfl rfl (by decide +kernel) ⟨Nat.le_of_ble_eq_true rfl, Nat.le_of_ble_eq_true rfl⟩) ⟨ds_blind, va_recv hK hP (ci := 7) (q0 := 0) rfl rfl, ds_at hP hD hK hE hS hA [0, 1] rfl rfl _⟩ rfl rfl hl.1 rfl (lv_room (Nat.le_of_ble_eq_true rfl)) dX8_laysSteps_195 ⟨Nat.zero_le _, Nat.zero_le _⟩) hP hD hS hA [0, 1] [2] rfl rfl rfl (by decide) (fun H locs hP hD hS => ?_)
            have hP : va_P (dC, dI) vwCl [(h_o_shift, .inl (ca 3, 768, .inl o_shift_r)), (h_o, .inr (7, [.ref h_o_plans, .ref h_o_makers, .ref h_o_halves, .int o_raised, .ref h_o_all, .ref h_o_text, .ref h_o_saved, .ref h_o_undone, .int o_undos, .int o_reached, .int o_length, .int o_begin, .int o_letters, .int o_sort, .long o_word, .int o_wrongAt, .int o_badAt, .int o_bad, .ref h_o_told, .ref h_o_shift, .int o_firstX, .int o_firstY, .int o_secondX, .int o_secondY, .ref h_o_rootOf, .ref h_o_becomes, .ref h_o_comes, .ref h_o_next, .int o_x])), (h_o_all, .inl (ca 0, 350, .inl o_all_r))] H := hP
            have hD : va_D A [(h_o_shift, .inl (ca 3, 768, .inl o_shift_r)), (h_o, .inr (7, [.ref h_o_plans, .ref h_o_makers, .ref h_o_halves, .int o_raised, .ref h_o_all, .ref h_o_text, .ref h_o_saved, .ref h_o_undone, .int o_undos, .int o_reached, .int o_length, .int o_begin, .int o_letters, .int o_sort, .long o_word, .int o_wrongAt, .int o_badAt, .int o_bad, .ref h_o_told, .ref h_o_shift, .int o_firstX, .int o_firstY, .int o_secondX, .int o_secondY, .ref h_o_rootOf, .ref h_o_becomes, .ref h_o_comes, .ref h_o_next, .int o_x])), (h_o_all, .inl (ca 0, 350, .inl o_all_r))] := hD
            refine lv_if_eq (tgt := 211) hx hb dX8_laysSteps_198 (by decide) (fun c_198 => ?_) (fun c_198 => ?_)
            · replace hf := ds_t c_198 hf
              exact h1 (J_211 v2 o_secondX o_secondY _ hf hG _ _ (hP.sub [1, 2, 0] rfl) (hD.sub [1, 2, 0] rfl rfl) hS _ (lv_sub hl [0, 1, 2] rfl))
            · replace hf := ds_f c_198 hf
              exact h1 (J_201 v2 o_secondX o_secondY _ hf hG _ _ (hP.sub [1, 2, 0] rfl) (hD.sub [1, 2, 0] rfl rfl) hS _ (lv_sub hl [0, 1, 2] rfl))
          have J_165 : ∀ (v2 : Int32) (s0 : Int32) (o_secondX : Int32) (o_secondY : Int32) (rr : (Int32 × Int32 × Int32) ⊕ ((Int32 × Int32 × Int32) ⊕ (Int32 × Int32 × Int32 × Int32))) (hf : fX8_laysSteps_165 o_secondX o_secondY o_all_r v1 v2 s0 = some rr) (hG : G2 rr) (H : Heap) (locs : List Loc) (hP : va_P (dC, dI) vwCl [(h_o, .inr (7, [.ref h_o_plans, .ref h_o_makers, .ref h_o_halves, .int o_raised, .ref h_o_all, .ref h_o_text, .ref h_o_saved, .ref h_o_undone, .int o_undos, .int o_reached, .int o_length, .int o_begin, .int o_letters, .int o_sort, .long o_word, .int o_wrongAt, .int o_badAt, .int o_bad, .ref h_o_told, .ref h_o_shift, .int o_firstX, .int o_firstY, .int o_secondX, .int o_secondY, .ref h_o_rootOf, .ref h_o_becomes, .ref h_o_comes, .ref h_o_next, .int o_x])), (h_o_all, .inl (ca 0, 350, .inl o_all_r)), (h_o_shift, .inl (ca 3, 768, .inl o_shift_r))] H) (hD : va_D A [(h_o, .inr (7, [.ref h_o_plans, .ref h_o_makers, .ref h_o_halves, .int o_raised, .ref h_o_all, .ref h_o_text, .ref h_o_saved, .ref h_o_undone, .int o_undos, .int o_reached, .int o_length, .int o_begin, .int o_letters, .int o_sort, .long o_word, .int o_wrongAt, .int o_badAt, .int o_bad, .ref h_o_told, .ref h_o_shift, .int o_firstX, .int o_firstY, .int o_secondX, .int o_secondY, .ref h_o_rootOf, .ref h_o_becomes, .ref h_o_comes, .ref h_o_next, .int o_x])), (h_o_all, .inl (ca 0, 350, .inl o_all_r)), (h_o_shift, .inl (ca 3, 768, .inl o_shift_r))]) (hS : va_S A s.heap H locs) (ls : Array Slot) (hl : lv_has ls 4 [(0, .ref h_o), (1, .int v1), (2, .int v2)]), WW H locs (F0 m 165 ls [.int s0]) := by
            intro v2 s0 o_secondX o_secondY rr hf hG H locs hP hD hS ls hl
            refine h2 ?_
            unfold fX8_laysSteps_165 at hf
            refine lv_istore_n (lv' := [(3, .int s0), (0, .ref h_o), (1, .int v1), (2, .int v2)]) hx hb dX8_laysSteps_165 rfl hl (by decide) rfl (fun ls hl => ?_)
            refine lv_iload_n hx hb dX8_laysSteps_166 rfl (lv_at hl 0 rfl) ?_
            refine lv_if_eq (tgt := 211) hx hb dX8_laysSteps_167 (by decide) (fun c_167 => ?_) (fun c_167 => ?_)
            · replace hf := ds_t c_167 hf
              exact h1 (J_211 v2 o_secondX o_secondY _ hf hG _ _ hP hD hS _ (lv_sub hl [1, 2, 3] rfl))
            · replace hf := ds_f c_167 hf
              refine lv_aload_n hx hb dX8_laysSteps_170 rfl (lv_at hl 1 rfl) ?_
              refine va_get (D := (dC, dI)) (ci := 7) (v := .int o_secondX) (C := RX8) (T := TX8) (N := 29) hx hb hts (fun w h => List.mem_cons_of_mem _ (kc_X8 w h)) hown hK hP 0 rfl rfl 22 (by decide) (hg kw_679) (fun _ h9 => h9) rfl dX8_laysSteps_171 ?_
              refine lv_if_ne (tgt := 184) hx hb dX8_laysSteps_174 (by decide) (fun c_174 => ?_) (fun c_174 => ?_)
              · replace hf := ds_f c_174 hf
                exact h1 (J_184 v2 o_secondX o_secondY _ hf hG _ _ hP hD hS _ (lv_sub hl [1, 2, 3] rfl))
              · replace hf := ds_t c_174 hf
                refine lv_aload_n hx hb dX8_laysSteps_177 rfl (lv_at hl 1 rfl) ?_
                refine va_get (D := (dC, dI)) (ci := 7) (v := .int o_secondY) (C := RX8) (T := TX8) (N := 29) hx hb hts (fun w h => List.mem_cons_of_mem _ (kc_X8 w h)) hown hK hP 0 rfl rfl 23 (by decide) (hg kw_680) (fun _ h9 => h9) rfl dX8_laysSteps_178 ?_
                refine lv_if_eq (tgt := 201) hx hb dX8_laysSteps_181 (by decide) (fun c_181 => ?_) (fun c_181 => ?_)
                · replace hf := ds_t c_181 hf
                  exact h1 (J_201 v2 o_secondX o_secondY _ hf hG _ _ hP hD hS _ (lv_sub hl [1, 2, 3] rfl))
                · replace hf := ds_f c_181 hf
                  exact h1 (J_184 v2 o_secondX o_secondY _ hf hG _ _ hP hD hS _ (lv_sub hl [1, 2, 3] rfl))
          have J_164 : ∀ (v2 : Int32) (o_secondX : Int32) (o_secondY : Int32) (rr : (Int32 × Int32 × Int32) ⊕ ((Int32 × Int32 × Int32) ⊕ (Int32 × Int32 × Int32 × Int32))) (hf : fX8_laysSteps_164 o_secondX o_secondY o_all_r v1 v2 = some rr) (hG : G2 rr) (H : Heap) (locs : List Loc) (hP : va_P (dC, dI) vwCl [(h_o, .inr (7, [.ref h_o_plans, .ref h_o_makers, .ref h_o_halves, .int o_raised, .ref h_o_all, .ref h_o_text, .ref h_o_saved, .ref h_o_undone, .int o_undos, .int o_reached, .int o_length, .int o_begin, .int o_letters, .int o_sort, .long o_word, .int o_wrongAt, .int o_badAt, .int o_bad, .ref h_o_told, .ref h_o_shift, .int o_firstX, .int o_firstY, .int o_secondX, .int o_secondY, .ref h_o_rootOf, .ref h_o_becomes, .ref h_o_comes, .ref h_o_next, .int o_x])), (h_o_all, .inl (ca 0, 350, .inl o_all_r)), (h_o_shift, .inl (ca 3, 768, .inl o_shift_r))] H) (hD : va_D A [(h_o, .inr (7, [.ref h_o_plans, .ref h_o_makers, .ref h_o_halves, .int o_raised, .ref h_o_all, .ref h_o_text, .ref h_o_saved, .ref h_o_undone, .int o_undos, .int o_reached, .int o_length, .int o_begin, .int o_letters, .int o_sort, .long o_word, .int o_wrongAt, .int o_badAt, .int o_bad, .ref h_o_told, .ref h_o_shift, .int o_firstX, .int o_firstY, .int o_secondX, .int o_secondY, .ref h_o_rootOf, .ref h_o_becomes, .ref h_o_comes, .ref h_o_next, .int o_x])), (h_o_all, .inl (ca 0, 350, .inl o_all_r)), (h_o_shift, .inl (ca 3, 768, .inl o_shift_r))]) (hS : va_S A s.heap H locs) (ls : Array Slot) (hl : lv_has ls 4 [(0, .ref h_o), (1, .int v1), (2, .int v2)]), WW H locs (F0 m 164 ls []) := by
            intro v2 o_secondX o_secondY rr hf hG H locs hP hD hS ls hl
            refine h2 ?_
            unfold fX8_laysSteps_164 at hf
            refine lv_iconst (v := 0) hx hb dX8_laysSteps_164 (by decide) ?_
            exact h1 (J_165 v2 (0 : Int32) o_secondX o_secondY _ hf hG _ _ hP hD hS _ (lv_sub hl [0, 1, 2] rfl))
          unfold fX8_laysSteps_130_b at hf
          refine lv_iload_n hx hb dX8_laysSteps_130 rfl (lv_at hl 2 rfl) ?_
          refine lv_bipush (v := 10) hx hb dX8_laysSteps_131 (by decide) ?_
          refine lv_icmp_gt (tgt := 217) hx hb dX8_laysSteps_133 (by decide) (fun c_133 => ?_) (fun c_133 => ?_)
          · replace hf := ds_t c_133 hf
            obtain ⟨rr, hr_0, hf⟩ := ds_ob hf
            have hf := Option.some.inj hf
            subst hf
            rw [eG2] at hG
            replace hG : G1 rr := hG
            have hf := hr_0
            exact h1 (J_217 v1 o_secondX o_secondY _ hf hG _ _ hP hD hS _ (lv_sub hl [0, 1] rfl))
          · replace hf := ds_f c_133 hf
            refine lv_aload_n hx hb dX8_laysSteps_136 rfl (lv_at hl 0 rfl) ?_
            refine lv_iload_n hx hb dX8_laysSteps_137 rfl (lv_at hl 1 rfl) ?_
            refine lv_iload_n hx hb dX8_laysSteps_138 rfl (lv_at hl 2 rfl) ?_
            obtain ⟨q139, hq139, hf⟩ := ds_ob hf
            refine ds_calli (wr := []) (va_runV (As := [.int v1, .int v2]) (rest := []) ⟨hx, hb, hml, hown, hts⟩ (c_X8_isStep l dC dI ca sa h_o h_o_plans h_o_makers h_o_halves h_o_all h_o_text h_o_saved h_o_undone h_o_told h_o_shift h_o_rootOf h_o_becomes h_o_comes h_o_next H.size o_raised o_undos o_reached o_length o_begin o_letters o_sort o_word o_wrongAt o_badAt o_bad o_firstX o_firstY o_secondX o_secondY o_x o_all_r o_shift_r v1 v2 q139 hq139) (cwV 2 hts (ds_gV kw_663 kw_664 kw_665 kw_597 kw_666) rfl rfl rfl (by decide +kernel) ⟨Nat.le_of_ble_eq_true rfl, Nat.le_of_ble_eq_true rfl⟩) ⟨ds_blind, va_recv hK hP (ci := 7) (q0 := 0) rfl rfl, ds_at hP hD hK hE hS hA [0, 1, 2] rfl rfl _⟩ rfl rfl hl.1 rfl (lv_room (Nat.le_of_ble_eq_true rfl)) dX8_laysSteps_139 ⟨Nat.zero_le _, Nat.zero_le _⟩) hP hD hS hA [0, 1, 2] [] rfl rfl rfl (by decide) (fun H locs hP hD hS => ?_)
            have hP : va_P (dC, dI) vwCl [(h_o, .inr (7, [.ref h_o_plans, .ref h_o_makers, .ref h_o_halves, .int o_raised, .ref h_o_all, .ref h_o_text, .ref h_o_saved, .ref h_o_undone, .int o_undos, .int o_reached, .int o_length, .int o_begin, .int o_letters, .int o_sort, .long o_word, .int o_wrongAt, .int o_badAt, .int o_bad, .ref h_o_told, .ref h_o_shift, .int o_firstX, .int o_firstY, .int o_secondX, .int o_secondY, .ref h_o_rootOf, .ref h_o_becomes, .ref h_o_comes, .ref h_o_next, .int o_x])), (h_o_all, .inl (ca 0, 350, .inl o_all_r)), (h_o_shift, .inl (ca 3, 768, .inl o_shift_r))] H := hP
            have hD : va_D A [(h_o, .inr (7, [.ref h_o_plans, .ref h_o_makers, .ref h_o_halves, .int o_raised, .ref h_o_all, .ref h_o_text, .ref h_o_saved, .ref h_o_undone, .int o_undos, .int o_reached, .int o_length, .int o_begin, .int o_letters, .int o_sort, .long o_word, .int o_wrongAt, .int o_badAt, .int o_bad, .ref h_o_told, .ref h_o_shift, .int o_firstX, .int o_firstY, .int o_secondX, .int o_secondY, .ref h_o_rootOf, .ref h_o_becomes, .ref h_o_comes, .ref h_o_next, .int o_x])), (h_o_all, .inl (ca 0, 350, .inl o_all_r)), (h_o_shift, .inl (ca 3, 768, .inl o_shift_r))] := hD
            refine lv_if_eq (tgt := 164) hx hb dX8_laysSteps_142 (by decide) (fun c_142 => ?_) (fun c_142 => ?_)
            · replace hf := ds_t c_142 hf
              exact h1 (J_164 v2 o_secondX o_secondY _ hf hG _ _ hP hD hS _ (lv_sub hl [0, 1, 2] rfl))
            · replace hf := ds_f c_142 hf
              refine lv_iload_n hx hb dX8_laysSteps_145 rfl (lv_at hl 1 rfl) ?_
              refine lv_aload_n hx hb dX8_laysSteps_146 rfl (lv_at hl 0 rfl) ?_
              refine va_get (D := (dC, dI)) (ci := 7) (v := .int o_firstY) (C := RX8) (T := TX8) (N := 29) hx hb hts (fun w h => List.mem_cons_of_mem _ (kc_X8 w h)) hown hK hP 0 rfl rfl 21 (by decide) (hg kw_685) (fun _ h9 => h9) rfl dX8_laysSteps_147 ?_
              refine lv_imul hx hb dX8_laysSteps_150 ?_
              refine lv_iload_n hx hb dX8_laysSteps_151 rfl (lv_at hl 2 rfl) ?_
              refine lv_aload_n hx hb dX8_laysSteps_152 rfl (lv_at hl 0 rfl) ?_
              refine va_get (D := (dC, dI)) (ci := 7) (v := .int o_firstX) (C := RX8) (T := TX8) (N := 29) hx hb hts (fun w h => List.mem_cons_of_mem _ (kc_X8 w h)) hown hK hP 0 rfl rfl 20 (by decide) (hg kw_686) (fun _ h9 => h9) rfl dX8_laysSteps_153 ?_
              refine lv_imul hx hb dX8_laysSteps_156 ?_
              refine lv_icmp_eq (tgt := 164) hx hb dX8_laysSteps_157 (by decide) (fun c_157 => ?_) (fun c_157 => ?_)
              · replace hf := ds_t c_157 hf
                exact h1 (J_164 v2 o_secondX o_secondY _ hf hG _ _ hP hD hS _ (lv_sub hl [0, 1, 2] rfl))
              · replace hf := ds_f c_157 hf
                refine lv_iconst (v := 1) hx hb dX8_laysSteps_160 (by decide) ?_
                refine lv_goto (tgt := 165) hx hb dX8_laysSteps_161 (by decide) ?_
                exact h1 (J_165 v2 (1 : Int32) o_secondX o_secondY _ hf hG _ _ hP hD hS _ (lv_sub hl [0, 1, 2] rfl))
      unfold fX8_laysSteps_121_b at hf
      refine lv_iload_n hx hb dX8_laysSteps_121 rfl (lv_at hl 1 rfl) ?_
      refine lv_bipush (v := 10) hx hb dX8_laysSteps_122 (by decide) ?_
      refine lv_icmp_gt (tgt := 223) hx hb dX8_laysSteps_124 (by decide) (fun c_124 => ?_) (fun c_124 => ?_)
      · replace hf := ds_t c_124 hf
        have hf := Option.some.inj hf
        subst hf
        rw [eG1] at hG
        replace hG : G0 _ := hG
        rw [eG0] at hG
        have hG : _ = res := hG
        subst hG
        exact W.vret hx hb hr (fun t ht hW => ⟨⟨(), rfl, trivial, by rw [ht]; exact hP, hD⟩, hS.F ht⟩) hS.2.2 dX8_laysSteps_223
      · replace hf := ds_f c_124 hf
        refine lv_bipush (v := -10) hx hb dX8_laysSteps_127 (by decide) ?_
        refine lv_istore_n (lv' := [(2, .int (-10 : Int32)), (0, .ref h_o), (1, .int v1)]) hx hb dX8_laysSteps_129 rfl hl (by decide) rfl (fun ls hl => ?_)
        exact h1 (J_130 v1 1000 (-10 : Int32) o_secondX o_secondY _ hf hG _ _ hP hD hS _ (lv_sub hl [1, 2, 0] rfl))
  have J_118 : ∀ (o_firstX : Int32) (o_firstY : Int32) (o_secondX : Int32) (o_secondY : Int32) (rr : Int32 × Int32 × Int32 × Int32) (hf : fX8_laysSteps_118 o_firstX o_firstY o_secondX o_secondY o_all_r o_shift_r = some rr) (hG : G0 rr) (H : Heap) (locs : List Loc) (hP : va_P (dC, dI) vwCl [(h_o, .inr (7, [.ref h_o_plans, .ref h_o_makers, .ref h_o_halves, .int o_raised, .ref h_o_all, .ref h_o_text, .ref h_o_saved, .ref h_o_undone, .int o_undos, .int o_reached, .int o_length, .int o_begin, .int o_letters, .int o_sort, .long o_word, .int o_wrongAt, .int o_badAt, .int o_bad, .ref h_o_told, .ref h_o_shift, .int o_firstX, .int o_firstY, .int o_secondX, .int o_secondY, .ref h_o_rootOf, .ref h_o_becomes, .ref h_o_comes, .ref h_o_next, .int o_x])), (h_o_all, .inl (ca 0, 350, .inl o_all_r)), (h_o_shift, .inl (ca 3, 768, .inl o_shift_r))] H) (hD : va_D A [(h_o, .inr (7, [.ref h_o_plans, .ref h_o_makers, .ref h_o_halves, .int o_raised, .ref h_o_all, .ref h_o_text, .ref h_o_saved, .ref h_o_undone, .int o_undos, .int o_reached, .int o_length, .int o_begin, .int o_letters, .int o_sort, .long o_word, .int o_wrongAt, .int o_badAt, .int o_bad, .ref h_o_told, .ref h_o_shift, .int o_firstX, .int o_firstY, .int o_secondX, .int o_secondY, .ref h_o_rootOf, .ref h_o_becomes, .ref h_o_comes, .ref h_o_next, .int o_x])), (h_o_all, .inl (ca 0, 350, .inl o_all_r)), (h_o_shift, .inl (ca 3, 768, .inl o_shift_r))]) (hS : va_S A s.heap H locs) (ls : Array Slot) (hl : lv_has ls 4 [(0, .ref h_o)]), WW H locs (F0 m 118 ls []) := by
    intro o_firstX o_firstY o_secondX o_secondY rr hf hG H locs hP hD hS ls hl
    refine h2 ?_
    unfold fX8_laysSteps_118 at hf
    refine lv_bipush (v := -10) hx hb dX8_laysSteps_118 (by decide) ?_
    refine lv_istore_n (lv' := [(1, .int (-10 : Int32)), (0, .ref h_o)]) hx hb dX8_laysSteps_120 rfl hl (by decide) rfl (fun ls hl => ?_)
    exact h1 (J_121 o_firstX o_firstY 1000 (-10 : Int32) o_secondX o_secondY _ hf hG _ _ hP hD hS _ (lv_sub hl [1, 0] rfl))
  have J_23 : ∀ (o_secondX : Int32) (o_secondY : Int32) (n : Nat) (v1 : Int32) (o_firstX : Int32) (o_firstY : Int32) (rr : Int32 × Int32 × Int32 × Int32) (hf : ds_it (fun s => fX8_laysSteps_23_b o_secondX o_secondY o_all_r o_shift_r s.1 s.2.1 s.2.2) n (v1, o_firstX, o_firstY) = some rr) (hG : G0 rr) (H : Heap) (locs : List Loc) (hP : va_P (dC, dI) vwCl [(h_o, .inr (7, [.ref h_o_plans, .ref h_o_makers, .ref h_o_halves, .int o_raised, .ref h_o_all, .ref h_o_text, .ref h_o_saved, .ref h_o_undone, .int o_undos, .int o_reached, .int o_length, .int o_begin, .int o_letters, .int o_sort, .long o_word, .int o_wrongAt, .int o_badAt, .int o_bad, .ref h_o_told, .ref h_o_shift, .int o_firstX, .int o_firstY, .int o_secondX, .int o_secondY, .ref h_o_rootOf, .ref h_o_becomes, .ref h_o_comes, .ref h_o_next, .int o_x])), (h_o_all, .inl (ca 0, 350, .inl o_all_r)), (h_o_shift, .inl (ca 3, 768, .inl o_shift_r))] H) (hD : va_D A [(h_o, .inr (7, [.ref h_o_plans, .ref h_o_makers, .ref h_o_halves, .int o_raised, .ref h_o_all, .ref h_o_text, .ref h_o_saved, .ref h_o_undone, .int o_undos, .int o_reached, .int o_length, .int o_begin, .int o_letters, .int o_sort, .long o_word, .int o_wrongAt, .int o_badAt, .int o_bad, .ref h_o_told, .ref h_o_shift, .int o_firstX, .int o_firstY, .int o_secondX, .int o_secondY, .ref h_o_rootOf, .ref h_o_becomes, .ref h_o_comes, .ref h_o_next, .int o_x])), (h_o_all, .inl (ca 0, 350, .inl o_all_r)), (h_o_shift, .inl (ca 3, 768, .inl o_shift_r))]) (hS : va_S A s.heap H locs) (ls : Array Slot) (hl : lv_has ls 4 [(0, .ref h_o), (1, .int v1)]), WW H locs (F0 m 23 ls []) := by
    intro o_secondX o_secondY n
    induction n with
    | zero => intro v1 o_firstX o_firstY rr hf; exact (ds_it_zero hf).elim
    | succ n ih23 =>
      intro v1 o_firstX o_firstY rr hf hG H locs hP hD hS ls hl
      refine h2 ?_
      obtain ⟨rr, hf, hG⟩ := ds_it_succ hf hG
      replace hf : fX8_laysSteps_23_b o_secondX o_secondY o_all_r o_shift_r v1 o_firstX o_firstY = some rr := hf
      obtain ⟨G1, eG1⟩ : ∃ G : ((Int32 × Int32 × Int32) ⊕ (Int32 × Int32 × Int32 × Int32)) → Prop, G = ds_G (fun s' => ∃ r', ds_it (fun s => fX8_laysSteps_23_b o_secondX o_secondY o_all_r o_shift_r s.1 s.2.1 s.2.2) n s' = some r' ∧ G0 r') G0 := ⟨_, rfl⟩
      rw [← eG1] at hG
      have J_112 : ∀ (v1 : Int32) (o_firstX : Int32) (o_firstY : Int32) (rr : (Int32 × Int32 × Int32) ⊕ (Int32 × Int32 × Int32 × Int32)) (hf : fX8_laysSteps_112 o_firstX o_firstY v1 = some rr) (hG : G1 rr) (H : Heap) (locs : List Loc) (hP : va_P (dC, dI) vwCl [(h_o, .inr (7, [.ref h_o_plans, .ref h_o_makers, .ref h_o_halves, .int o_raised, .ref h_o_all, .ref h_o_text, .ref h_o_saved, .ref h_o_undone, .int o_undos, .int o_reached, .int o_length, .int o_begin, .int o_letters, .int o_sort, .long o_word, .int o_wrongAt, .int o_badAt, .int o_bad, .ref h_o_told, .ref h_o_shift, .int o_firstX, .int o_firstY, .int o_secondX, .int o_secondY, .ref h_o_rootOf, .ref h_o_becomes, .ref h_o_comes, .ref h_o_next, .int o_x])), (h_o_all, .inl (ca 0, 350, .inl o_all_r)), (h_o_shift, .inl (ca 3, 768, .inl o_shift_r))] H) (hD : va_D A [(h_o, .inr (7, [.ref h_o_plans, .ref h_o_makers, .ref h_o_halves, .int o_raised, .ref h_o_all, .ref h_o_text, .ref h_o_saved, .ref h_o_undone, .int o_undos, .int o_reached, .int o_length, .int o_begin, .int o_letters, .int o_sort, .long o_word, .int o_wrongAt, .int o_badAt, .int o_bad, .ref h_o_told, .ref h_o_shift, .int o_firstX, .int o_firstY, .int o_secondX, .int o_secondY, .ref h_o_rootOf, .ref h_o_becomes, .ref h_o_comes, .ref h_o_next, .int o_x])), (h_o_all, .inl (ca 0, 350, .inl o_all_r)), (h_o_shift, .inl (ca 3, 768, .inl o_shift_r))]) (hS : va_S A s.heap H locs) (ls : Array Slot) (hl : lv_has ls 4 [(0, .ref h_o), (1, .int v1)]), WW H locs (F0 m 112 ls []) := by
        intro v1 o_firstX o_firstY rr hf hG H locs hP hD hS ls hl
        refine h2 ?_
        unfold fX8_laysSteps_112 at hf
        refine lv_iinc (v := (v1 + 1)) (lv' := [(1, .int (v1 + 1)), (0, .ref h_o)]) hx hb dX8_laysSteps_112 hl (k := 1) rfl rfl (by decide) rfl (fun ls hl => ?_)
        refine lv_goto (tgt := 23) hx hb dX8_laysSteps_115 (by decide) ?_
        have hf := Option.some.inj hf
        subst hf
        rw [eG1] at hG
        obtain ⟨rr, hf, hG⟩ := hG
        exact h1 (ih23 (v1 + 1) o_firstX o_firstY rr hf hG _ _ hP hD hS _ (lv_sub hl [1, 0] rfl))
      have J_32 : ∀ (v1 : Int32) (n : Nat) (v2 : Int32) (o_firstX : Int32) (o_firstY : Int32) (rr : (Int32 × Int32 × Int32) ⊕ (Int32 × Int32 × Int32 × Int32)) (hf : ds_it (fun s => fX8_laysSteps_32_b o_all_r o_shift_r v1 s.1 s.2.1 s.2.2) n (v2, o_firstX, o_firstY) = some rr) (hG : G1 rr) (H : Heap) (locs : List Loc) (hP : va_P (dC, dI) vwCl [(h_o, .inr (7, [.ref h_o_plans, .ref h_o_makers, .ref h_o_halves, .int o_raised, .ref h_o_all, .ref h_o_text, .ref h_o_saved, .ref h_o_undone, .int o_undos, .int o_reached, .int o_length, .int o_begin, .int o_letters, .int o_sort, .long o_word, .int o_wrongAt, .int o_badAt, .int o_bad, .ref h_o_told, .ref h_o_shift, .int o_firstX, .int o_firstY, .int o_secondX, .int o_secondY, .ref h_o_rootOf, .ref h_o_becomes, .ref h_o_comes, .ref h_o_next, .int o_x])), (h_o_all, .inl (ca 0, 350, .inl o_all_r)), (h_o_shift, .inl (ca 3, 768, .inl o_shift_r))] H) (hD : va_D A [(h_o, .inr (7, [.ref h_o_plans, .ref h_o_makers, .ref h_o_halves, .int o_raised, .ref h_o_all, .ref h_o_text, .ref h_o_saved, .ref h_o_undone, .int o_undos, .int o_reached, .int o_length, .int o_begin, .int o_letters, .int o_sort, .long o_word, .int o_wrongAt, .int o_badAt, .int o_bad, .ref h_o_told, .ref h_o_shift, .int o_firstX, .int o_firstY, .int o_secondX, .int o_secondY, .ref h_o_rootOf, .ref h_o_becomes, .ref h_o_comes, .ref h_o_next, .int o_x])), (h_o_all, .inl (ca 0, 350, .inl o_all_r)), (h_o_shift, .inl (ca 3, 768, .inl o_shift_r))]) (hS : va_S A s.heap H locs) (ls : Array Slot) (hl : lv_has ls 4 [(0, .ref h_o), (1, .int v1), (2, .int v2)]), WW H locs (F0 m 32 ls []) := by
        intro v1 n
        induction n with
        | zero => intro v2 o_firstX o_firstY rr hf; exact (ds_it_zero hf).elim
        | succ n ih32 =>
          intro v2 o_firstX o_firstY rr hf hG H locs hP hD hS ls hl
          refine h2 ?_
          obtain ⟨rr, hf, hG⟩ := ds_it_succ hf hG
          replace hf : fX8_laysSteps_32_b o_all_r o_shift_r v1 v2 o_firstX o_firstY = some rr := hf
          obtain ⟨G2, eG2⟩ : ∃ G : ((Int32 × Int32 × Int32) ⊕ ((Int32 × Int32 × Int32) ⊕ (Int32 × Int32 × Int32 × Int32))) → Prop, G = ds_G (fun s' => ∃ r', ds_it (fun s => fX8_laysSteps_32_b o_all_r o_shift_r v1 s.1 s.2.1 s.2.2) n s' = some r' ∧ G1 r') G1 := ⟨_, rfl⟩
          rw [← eG2] at hG
          have J_106 : ∀ (v2 : Int32) (o_firstX : Int32) (o_firstY : Int32) (rr : (Int32 × Int32 × Int32) ⊕ ((Int32 × Int32 × Int32) ⊕ (Int32 × Int32 × Int32 × Int32))) (hf : fX8_laysSteps_106 o_firstX o_firstY v2 = some rr) (hG : G2 rr) (H : Heap) (locs : List Loc) (hP : va_P (dC, dI) vwCl [(h_o, .inr (7, [.ref h_o_plans, .ref h_o_makers, .ref h_o_halves, .int o_raised, .ref h_o_all, .ref h_o_text, .ref h_o_saved, .ref h_o_undone, .int o_undos, .int o_reached, .int o_length, .int o_begin, .int o_letters, .int o_sort, .long o_word, .int o_wrongAt, .int o_badAt, .int o_bad, .ref h_o_told, .ref h_o_shift, .int o_firstX, .int o_firstY, .int o_secondX, .int o_secondY, .ref h_o_rootOf, .ref h_o_becomes, .ref h_o_comes, .ref h_o_next, .int o_x])), (h_o_all, .inl (ca 0, 350, .inl o_all_r)), (h_o_shift, .inl (ca 3, 768, .inl o_shift_r))] H) (hD : va_D A [(h_o, .inr (7, [.ref h_o_plans, .ref h_o_makers, .ref h_o_halves, .int o_raised, .ref h_o_all, .ref h_o_text, .ref h_o_saved, .ref h_o_undone, .int o_undos, .int o_reached, .int o_length, .int o_begin, .int o_letters, .int o_sort, .long o_word, .int o_wrongAt, .int o_badAt, .int o_bad, .ref h_o_told, .ref h_o_shift, .int o_firstX, .int o_firstY, .int o_secondX, .int o_secondY, .ref h_o_rootOf, .ref h_o_becomes, .ref h_o_comes, .ref h_o_next, .int o_x])), (h_o_all, .inl (ca 0, 350, .inl o_all_r)), (h_o_shift, .inl (ca 3, 768, .inl o_shift_r))]) (hS : va_S A s.heap H locs) (ls : Array Slot) (hl : lv_has ls 4 [(0, .ref h_o), (1, .int v1), (2, .int v2)]), WW H locs (F0 m 106 ls []) := by
            intro v2 o_firstX o_firstY rr hf hG H locs hP hD hS ls hl
            refine h2 ?_
            unfold fX8_laysSteps_106 at hf
            refine lv_iinc (v := (v2 + 1)) (lv' := [(2, .int (v2 + 1)), (0, .ref h_o), (1, .int v1)]) hx hb dX8_laysSteps_106 hl (k := 2) rfl rfl (by decide) rfl (fun ls hl => ?_)
            refine lv_goto (tgt := 32) hx hb dX8_laysSteps_109 (by decide) ?_
            have hf := Option.some.inj hf
            subst hf
            rw [eG2] at hG
            obtain ⟨rr, hf, hG⟩ := hG
            exact h1 (ih32 (v2 + 1) o_firstX o_firstY rr hf hG _ _ hP hD hS _ (lv_sub hl [1, 2, 0] rfl))
          have J_96 : ∀ (v2 : Int32) (o_firstX : Int32) (o_firstY : Int32) (rr : (Int32 × Int32 × Int32) ⊕ ((Int32 × Int32 × Int32) ⊕ (Int32 × Int32 × Int32 × Int32))) (hf : fX8_laysSteps_96 v1 v2 = some rr) (hG : G2 rr) (H : Heap) (locs : List Loc) (hP : va_P (dC, dI) vwCl [(h_o, .inr (7, [.ref h_o_plans, .ref h_o_makers, .ref h_o_halves, .int o_raised, .ref h_o_all, .ref h_o_text, .ref h_o_saved, .ref h_o_undone, .int o_undos, .int o_reached, .int o_length, .int o_begin, .int o_letters, .int o_sort, .long o_word, .int o_wrongAt, .int o_badAt, .int o_bad, .ref h_o_told, .ref h_o_shift, .int o_firstX, .int o_firstY, .int o_secondX, .int o_secondY, .ref h_o_rootOf, .ref h_o_becomes, .ref h_o_comes, .ref h_o_next, .int o_x])), (h_o_all, .inl (ca 0, 350, .inl o_all_r)), (h_o_shift, .inl (ca 3, 768, .inl o_shift_r))] H) (hD : va_D A [(h_o, .inr (7, [.ref h_o_plans, .ref h_o_makers, .ref h_o_halves, .int o_raised, .ref h_o_all, .ref h_o_text, .ref h_o_saved, .ref h_o_undone, .int o_undos, .int o_reached, .int o_length, .int o_begin, .int o_letters, .int o_sort, .long o_word, .int o_wrongAt, .int o_badAt, .int o_bad, .ref h_o_told, .ref h_o_shift, .int o_firstX, .int o_firstY, .int o_secondX, .int o_secondY, .ref h_o_rootOf, .ref h_o_becomes, .ref h_o_comes, .ref h_o_next, .int o_x])), (h_o_all, .inl (ca 0, 350, .inl o_all_r)), (h_o_shift, .inl (ca 3, 768, .inl o_shift_r))]) (hS : va_S A s.heap H locs) (ls : Array Slot) (hl : lv_has ls 4 [(0, .ref h_o), (1, .int v1), (2, .int v2)]), WW H locs (F0 m 96 ls []) := by
            intro v2 o_firstX o_firstY rr hf hG H locs hP hD hS ls hl
            refine h2 ?_
            unfold fX8_laysSteps_96 at hf
            refine lv_aload_n hx hb dX8_laysSteps_96 rfl (lv_at hl 0 rfl) ?_
            refine lv_iload_n hx hb dX8_laysSteps_97 rfl (lv_at hl 1 rfl) ?_
            refine va_put (D := (dC, dI)) (ci := 7) (v := .int v1) (ty := tyX8 20) (C := RX8) (T := TX8) (N := 29) hx hb hts (fun w h => List.mem_cons_of_mem _ (kc_X8 w h)) tyX8 tyX8_ok nmX8 hown hK hP hD hS 0 rfl rfl 20 (by decide) (hg kw_686) (fun _ h9 => h9) rfl (by decide +kernel) rfl rfl (Nat.le_of_ble_eq_true rfl) dX8_laysSteps_98 (fun H locs hP hD hS => ?_)
            have hP : va_P (dC, dI) vwCl [(h_o, .inr (7, [.ref h_o_plans, .ref h_o_makers, .ref h_o_halves, .int o_raised, .ref h_o_all, .ref h_o_text, .ref h_o_saved, .ref h_o_undone, .int o_undos, .int o_reached, .int o_length, .int o_begin, .int o_letters, .int o_sort, .long o_word, .int o_wrongAt, .int o_badAt, .int o_bad, .ref h_o_told, .ref h_o_shift, .int v1, .int o_firstY, .int o_secondX, .int o_secondY, .ref h_o_rootOf, .ref h_o_becomes, .ref h_o_comes, .ref h_o_next, .int o_x])), (h_o_all, .inl (ca 0, 350, .inl o_all_r)), (h_o_shift, .inl (ca 3, 768, .inl o_shift_r))] H := hP
            have hD : va_D A [(h_o, .inr (7, [.ref h_o_plans, .ref h_o_makers, .ref h_o_halves, .int o_raised, .ref h_o_all, .ref h_o_text, .ref h_o_saved, .ref h_o_undone, .int o_undos, .int o_reached, .int o_length, .int o_begin, .int o_letters, .int o_sort, .long o_word, .int o_wrongAt, .int o_badAt, .int o_bad, .ref h_o_told, .ref h_o_shift, .int v1, .int o_firstY, .int o_secondX, .int o_secondY, .ref h_o_rootOf, .ref h_o_becomes, .ref h_o_comes, .ref h_o_next, .int o_x])), (h_o_all, .inl (ca 0, 350, .inl o_all_r)), (h_o_shift, .inl (ca 3, 768, .inl o_shift_r))] := hD
            refine lv_aload_n hx hb dX8_laysSteps_101 rfl (lv_at hl 0 rfl) ?_
            refine lv_iload_n hx hb dX8_laysSteps_102 rfl (lv_at hl 2 rfl) ?_
            refine va_put (D := (dC, dI)) (ci := 7) (v := .int v2) (ty := tyX8 21) (C := RX8) (T := TX8) (N := 29) hx hb hts (fun w h => List.mem_cons_of_mem _ (kc_X8 w h)) tyX8 tyX8_ok nmX8 hown hK hP hD hS 0 rfl rfl 21 (by decide) (hg kw_685) (fun _ h9 => h9) rfl (by decide +kernel) rfl rfl (Nat.le_of_ble_eq_true rfl) dX8_laysSteps_103 (fun H locs hP hD hS => ?_)
            have hP : va_P (dC, dI) vwCl [(h_o, .inr (7, [.ref h_o_plans, .ref h_o_makers, .ref h_o_halves, .int o_raised, .ref h_o_all, .ref h_o_text, .ref h_o_saved, .ref h_o_undone, .int o_undos, .int o_reached, .int o_length, .int o_begin, .int o_letters, .int o_sort, .long o_word, .int o_wrongAt, .int o_badAt, .int o_bad, .ref h_o_told, .ref h_o_shift, .int v1, .int v2, .int o_secondX, .int o_secondY, .ref h_o_rootOf, .ref h_o_becomes, .ref h_o_comes, .ref h_o_next, .int o_x])), (h_o_all, .inl (ca 0, 350, .inl o_all_r)), (h_o_shift, .inl (ca 3, 768, .inl o_shift_r))] H := hP
            have hD : va_D A [(h_o, .inr (7, [.ref h_o_plans, .ref h_o_makers, .ref h_o_halves, .int o_raised, .ref h_o_all, .ref h_o_text, .ref h_o_saved, .ref h_o_undone, .int o_undos, .int o_reached, .int o_length, .int o_begin, .int o_letters, .int o_sort, .long o_word, .int o_wrongAt, .int o_badAt, .int o_bad, .ref h_o_told, .ref h_o_shift, .int v1, .int v2, .int o_secondX, .int o_secondY, .ref h_o_rootOf, .ref h_o_becomes, .ref h_o_comes, .ref h_o_next, .int o_x])), (h_o_all, .inl (ca 0, 350, .inl o_all_r)), (h_o_shift, .inl (ca 3, 768, .inl o_shift_r))] := hD
            exact h1 (J_106 v2 v1 v2 _ hf hG _ _ hP hD hS _ (lv_sub hl [0, 1, 2] rfl))
          have J_79 : ∀ (v2 : Int32) (o_firstX : Int32) (o_firstY : Int32) (rr : (Int32 × Int32 × Int32) ⊕ ((Int32 × Int32 × Int32) ⊕ (Int32 × Int32 × Int32 × Int32))) (hf : fX8_laysSteps_79 o_firstX o_firstY o_all_r v1 v2 = some rr) (hG : G2 rr) (H : Heap) (locs : List Loc) (hP : va_P (dC, dI) vwCl [(h_o, .inr (7, [.ref h_o_plans, .ref h_o_makers, .ref h_o_halves, .int o_raised, .ref h_o_all, .ref h_o_text, .ref h_o_saved, .ref h_o_undone, .int o_undos, .int o_reached, .int o_length, .int o_begin, .int o_letters, .int o_sort, .long o_word, .int o_wrongAt, .int o_badAt, .int o_bad, .ref h_o_told, .ref h_o_shift, .int o_firstX, .int o_firstY, .int o_secondX, .int o_secondY, .ref h_o_rootOf, .ref h_o_becomes, .ref h_o_comes, .ref h_o_next, .int o_x])), (h_o_all, .inl (ca 0, 350, .inl o_all_r)), (h_o_shift, .inl (ca 3, 768, .inl o_shift_r))] H) (hD : va_D A [(h_o, .inr (7, [.ref h_o_plans, .ref h_o_makers, .ref h_o_halves, .int o_raised, .ref h_o_all, .ref h_o_text, .ref h_o_saved, .ref h_o_undone, .int o_undos, .int o_reached, .int o_length, .int o_begin, .int o_letters, .int o_sort, .long o_word, .int o_wrongAt, .int o_badAt, .int o_bad, .ref h_o_told, .ref h_o_shift, .int o_firstX, .int o_firstY, .int o_secondX, .int o_secondY, .ref h_o_rootOf, .ref h_o_becomes, .ref h_o_comes, .ref h_o_next, .int o_x])), (h_o_all, .inl (ca 0, 350, .inl o_all_r)), (h_o_shift, .inl (ca 3, 768, .inl o_shift_r))]) (hS : va_S A s.heap H locs) (ls : Array Slot) (hl : lv_has ls 4 [(0, .ref h_o), (1, .int v1), (2, .int v2)]), WW H locs (F0 m 79 ls []) := by
            intro v2 o_firstX o_firstY rr hf hG H locs hP hD hS ls hl
            refine h2 ?_
            unfold fX8_laysSteps_79 at hf
            refine lv_aload_n hx hb dX8_laysSteps_79 rfl (lv_at hl 0 rfl) ?_
            refine lv_iload_n hx hb dX8_laysSteps_80 rfl (lv_at hl 1 rfl) ?_
            refine lv_iload_n hx hb dX8_laysSteps_81 rfl (lv_at hl 2 rfl) ?_
            refine lv_aload_n hx hb dX8_laysSteps_82 rfl (lv_at hl 0 rfl) ?_
            refine va_get (D := (dC, dI)) (ci := 7) (v := .int o_firstX) (C := RX8) (T := TX8) (N := 29) hx hb hts (fun w h => List.mem_cons_of_mem _ (kc_X8 w h)) hown hK hP 0 rfl rfl 20 (by decide) (hg kw_686) (fun _ h9 => h9) rfl dX8_laysSteps_83 ?_
            refine lv_aload_n hx hb dX8_laysSteps_86 rfl (lv_at hl 0 rfl) ?_
            refine va_get (D := (dC, dI)) (ci := 7) (v := .int o_firstY) (C := RX8) (T := TX8) (N := 29) hx hb hts (fun w h => List.mem_cons_of_mem _ (kc_X8 w h)) hown hK hP 0 rfl rfl 21 (by decide) (hg kw_685) (fun _ h9 => h9) rfl dX8_laysSteps_87 ?_
            obtain ⟨q90, hq90, hf⟩ := ds_ob hf
            refine ds_calli (wr := [(h_o_shift, .inl (ca 3, 768, .inl o_shift_r))]) (va_runV (As := [.int v1, .int v2, .int o_firstX, .int o_firstY]) (rest := []) ⟨hx, hb, hml, hown, hts⟩ (c_X8_isAhead l dC dI ca sa h_o h_o_plans h_o_makers h_o_halves h_o_all h_o_text h_o_saved h_o_undone h_o_told h_o_shift h_o_rootOf h_o_becomes h_o_comes h_o_next H.size o_raised o_undos o_reached o_length o_begin o_letters o_sort o_word o_wrongAt o_badAt o_bad o_firstX o_firstY o_secondX o_secondY o_x o_all_r v1 v2 o_firstX o_firstY q90 hq90) (cwV 4 hts (ds_gV kw_681 kw_682 kw_683 kw_597 kw_684) rfl rfl rfl (by decide +kernel) ⟨Nat.le_of_ble_eq_true rfl, Nat.le_of_ble_eq_true rfl⟩) ⟨ds_blind, va_recv hK hP (ci := 7) (q0 := 0) rfl rfl, ds_at hP hD hK hE hS hA [0, 1] rfl rfl _⟩ rfl rfl hl.1 rfl (lv_room (Nat.le_of_ble_eq_true rfl)) dX8_laysSteps_90 ⟨Nat.zero_le _, Nat.zero_le _⟩) hP hD hS hA [0, 1] [2] rfl rfl rfl (by decide) (fun H locs hP hD hS => ?_)
            have hP : va_P (dC, dI) vwCl [(h_o_shift, .inl (ca 3, 768, .inl o_shift_r)), (h_o, .inr (7, [.ref h_o_plans, .ref h_o_makers, .ref h_o_halves, .int o_raised, .ref h_o_all, .ref h_o_text, .ref h_o_saved, .ref h_o_undone, .int o_undos, .int o_reached, .int o_length, .int o_begin, .int o_letters, .int o_sort, .long o_word, .int o_wrongAt, .int o_badAt, .int o_bad, .ref h_o_told, .ref h_o_shift, .int o_firstX, .int o_firstY, .int o_secondX, .int o_secondY, .ref h_o_rootOf, .ref h_o_becomes, .ref h_o_comes, .ref h_o_next, .int o_x])), (h_o_all, .inl (ca 0, 350, .inl o_all_r))] H := hP
            have hD : va_D A [(h_o_shift, .inl (ca 3, 768, .inl o_shift_r)), (h_o, .inr (7, [.ref h_o_plans, .ref h_o_makers, .ref h_o_halves, .int o_raised, .ref h_o_all, .ref h_o_text, .ref h_o_saved, .ref h_o_undone, .int o_undos, .int o_reached, .int o_length, .int o_begin, .int o_letters, .int o_sort, .long o_word, .int o_wrongAt, .int o_badAt, .int o_bad, .ref h_o_told, .ref h_o_shift, .int o_firstX, .int o_firstY, .int o_secondX, .int o_secondY, .ref h_o_rootOf, .ref h_o_becomes, .ref h_o_comes, .ref h_o_next, .int o_x])), (h_o_all, .inl (ca 0, 350, .inl o_all_r))] := hD
            refine lv_if_eq (tgt := 106) hx hb dX8_laysSteps_93 (by decide) (fun c_93 => ?_) (fun c_93 => ?_)
            · replace hf := ds_t c_93 hf
              exact h1 (J_106 v2 o_firstX o_firstY _ hf hG _ _ (hP.sub [1, 2, 0] rfl) (hD.sub [1, 2, 0] rfl rfl) hS _ (lv_sub hl [0, 1, 2] rfl))
            · replace hf := ds_f c_93 hf
              exact h1 (J_96 v2 o_firstX o_firstY _ hf hG _ _ (hP.sub [1, 2, 0] rfl) (hD.sub [1, 2, 0] rfl rfl) hS _ (lv_sub hl [0, 1, 2] rfl))
          have J_60 : ∀ (v2 : Int32) (s0 : Int32) (o_firstX : Int32) (o_firstY : Int32) (rr : (Int32 × Int32 × Int32) ⊕ ((Int32 × Int32 × Int32) ⊕ (Int32 × Int32 × Int32 × Int32))) (hf : fX8_laysSteps_60 o_firstX o_firstY o_all_r v1 v2 s0 = some rr) (hG : G2 rr) (H : Heap) (locs : List Loc) (hP : va_P (dC, dI) vwCl [(h_o, .inr (7, [.ref h_o_plans, .ref h_o_makers, .ref h_o_halves, .int o_raised, .ref h_o_all, .ref h_o_text, .ref h_o_saved, .ref h_o_undone, .int o_undos, .int o_reached, .int o_length, .int o_begin, .int o_letters, .int o_sort, .long o_word, .int o_wrongAt, .int o_badAt, .int o_bad, .ref h_o_told, .ref h_o_shift, .int o_firstX, .int o_firstY, .int o_secondX, .int o_secondY, .ref h_o_rootOf, .ref h_o_becomes, .ref h_o_comes, .ref h_o_next, .int o_x])), (h_o_all, .inl (ca 0, 350, .inl o_all_r)), (h_o_shift, .inl (ca 3, 768, .inl o_shift_r))] H) (hD : va_D A [(h_o, .inr (7, [.ref h_o_plans, .ref h_o_makers, .ref h_o_halves, .int o_raised, .ref h_o_all, .ref h_o_text, .ref h_o_saved, .ref h_o_undone, .int o_undos, .int o_reached, .int o_length, .int o_begin, .int o_letters, .int o_sort, .long o_word, .int o_wrongAt, .int o_badAt, .int o_bad, .ref h_o_told, .ref h_o_shift, .int o_firstX, .int o_firstY, .int o_secondX, .int o_secondY, .ref h_o_rootOf, .ref h_o_becomes, .ref h_o_comes, .ref h_o_next, .int o_x])), (h_o_all, .inl (ca 0, 350, .inl o_all_r)), (h_o_shift, .inl (ca 3, 768, .inl o_shift_r))]) (hS : va_S A s.heap H locs) (ls : Array Slot) (hl : lv_has ls 4 [(0, .ref h_o), (1, .int v1), (2, .int v2)]), WW H locs (F0 m 60 ls [.int s0]) := by
            intro v2 s0 o_firstX o_firstY rr hf hG H locs hP hD hS ls hl
            refine h2 ?_
            unfold fX8_laysSteps_60 at hf
            refine lv_istore_n (lv' := [(3, .int s0), (0, .ref h_o), (1, .int v1), (2, .int v2)]) hx hb dX8_laysSteps_60 rfl hl (by decide) rfl (fun ls hl => ?_)
            refine lv_iload_n hx hb dX8_laysSteps_61 rfl (lv_at hl 0 rfl) ?_
            refine lv_if_eq (tgt := 106) hx hb dX8_laysSteps_62 (by decide) (fun c_62 => ?_) (fun c_62 => ?_)
            · replace hf := ds_t c_62 hf
              exact h1 (J_106 v2 o_firstX o_firstY _ hf hG _ _ hP hD hS _ (lv_sub hl [1, 2, 3] rfl))
            · replace hf := ds_f c_62 hf
              refine lv_aload_n hx hb dX8_laysSteps_65 rfl (lv_at hl 1 rfl) ?_
              refine va_get (D := (dC, dI)) (ci := 7) (v := .int o_firstX) (C := RX8) (T := TX8) (N := 29) hx hb hts (fun w h => List.mem_cons_of_mem _ (kc_X8 w h)) hown hK hP 0 rfl rfl 20 (by decide) (hg kw_686) (fun _ h9 => h9) rfl dX8_laysSteps_66 ?_
              refine lv_if_ne (tgt := 79) hx hb dX8_laysSteps_69 (by decide) (fun c_69 => ?_) (fun c_69 => ?_)
              · replace hf := ds_f c_69 hf
                exact h1 (J_79 v2 o_firstX o_firstY _ hf hG _ _ hP hD hS _ (lv_sub hl [1, 2, 3] rfl))
              · replace hf := ds_t c_69 hf
                refine lv_aload_n hx hb dX8_laysSteps_72 rfl (lv_at hl 1 rfl) ?_
                refine va_get (D := (dC, dI)) (ci := 7) (v := .int o_firstY) (C := RX8) (T := TX8) (N := 29) hx hb hts (fun w h => List.mem_cons_of_mem _ (kc_X8 w h)) hown hK hP 0 rfl rfl 21 (by decide) (hg kw_685) (fun _ h9 => h9) rfl dX8_laysSteps_73 ?_
                refine lv_if_eq (tgt := 96) hx hb dX8_laysSteps_76 (by decide) (fun c_76 => ?_) (fun c_76 => ?_)
                · replace hf := ds_t c_76 hf
                  exact h1 (J_96 v2 o_firstX o_firstY _ hf hG _ _ hP hD hS _ (lv_sub hl [1, 2, 3] rfl))
                · replace hf := ds_f c_76 hf
                  exact h1 (J_79 v2 o_firstX o_firstY _ hf hG _ _ hP hD hS _ (lv_sub hl [1, 2, 3] rfl))
          have J_59 : ∀ (v2 : Int32) (o_firstX : Int32) (o_firstY : Int32) (rr : (Int32 × Int32 × Int32) ⊕ ((Int32 × Int32 × Int32) ⊕ (Int32 × Int32 × Int32 × Int32))) (hf : fX8_laysSteps_59 o_firstX o_firstY o_all_r v1 v2 = some rr) (hG : G2 rr) (H : Heap) (locs : List Loc) (hP : va_P (dC, dI) vwCl [(h_o, .inr (7, [.ref h_o_plans, .ref h_o_makers, .ref h_o_halves, .int o_raised, .ref h_o_all, .ref h_o_text, .ref h_o_saved, .ref h_o_undone, .int o_undos, .int o_reached, .int o_length, .int o_begin, .int o_letters, .int o_sort, .long o_word, .int o_wrongAt, .int o_badAt, .int o_bad, .ref h_o_told, .ref h_o_shift, .int o_firstX, .int o_firstY, .int o_secondX, .int o_secondY, .ref h_o_rootOf, .ref h_o_becomes, .ref h_o_comes, .ref h_o_next, .int o_x])), (h_o_all, .inl (ca 0, 350, .inl o_all_r)), (h_o_shift, .inl (ca 3, 768, .inl o_shift_r))] H) (hD : va_D A [(h_o, .inr (7, [.ref h_o_plans, .ref h_o_makers, .ref h_o_halves, .int o_raised, .ref h_o_all, .ref h_o_text, .ref h_o_saved, .ref h_o_undone, .int o_undos, .int o_reached, .int o_length, .int o_begin, .int o_letters, .int o_sort, .long o_word, .int o_wrongAt, .int o_badAt, .int o_bad, .ref h_o_told, .ref h_o_shift, .int o_firstX, .int o_firstY, .int o_secondX, .int o_secondY, .ref h_o_rootOf, .ref h_o_becomes, .ref h_o_comes, .ref h_o_next, .int o_x])), (h_o_all, .inl (ca 0, 350, .inl o_all_r)), (h_o_shift, .inl (ca 3, 768, .inl o_shift_r))]) (hS : va_S A s.heap H locs) (ls : Array Slot) (hl : lv_has ls 4 [(0, .ref h_o), (1, .int v1), (2, .int v2)]), WW H locs (F0 m 59 ls []) := by
            intro v2 o_firstX o_firstY rr hf hG H locs hP hD hS ls hl
            refine h2 ?_
            unfold fX8_laysSteps_59 at hf
            refine lv_iconst (v := 0) hx hb dX8_laysSteps_59 (by decide) ?_
            exact h1 (J_60 v2 (0 : Int32) o_firstX o_firstY _ hf hG _ _ hP hD hS _ (lv_sub hl [0, 1, 2] rfl))
          have J_55 : ∀ (v2 : Int32) (o_firstX : Int32) (o_firstY : Int32) (rr : (Int32 × Int32 × Int32) ⊕ ((Int32 × Int32 × Int32) ⊕ (Int32 × Int32 × Int32 × Int32))) (hf : fX8_laysSteps_55 o_firstX o_firstY o_all_r v1 v2 = some rr) (hG : G2 rr) (H : Heap) (locs : List Loc) (hP : va_P (dC, dI) vwCl [(h_o, .inr (7, [.ref h_o_plans, .ref h_o_makers, .ref h_o_halves, .int o_raised, .ref h_o_all, .ref h_o_text, .ref h_o_saved, .ref h_o_undone, .int o_undos, .int o_reached, .int o_length, .int o_begin, .int o_letters, .int o_sort, .long o_word, .int o_wrongAt, .int o_badAt, .int o_bad, .ref h_o_told, .ref h_o_shift, .int o_firstX, .int o_firstY, .int o_secondX, .int o_secondY, .ref h_o_rootOf, .ref h_o_becomes, .ref h_o_comes, .ref h_o_next, .int o_x])), (h_o_all, .inl (ca 0, 350, .inl o_all_r)), (h_o_shift, .inl (ca 3, 768, .inl o_shift_r))] H) (hD : va_D A [(h_o, .inr (7, [.ref h_o_plans, .ref h_o_makers, .ref h_o_halves, .int o_raised, .ref h_o_all, .ref h_o_text, .ref h_o_saved, .ref h_o_undone, .int o_undos, .int o_reached, .int o_length, .int o_begin, .int o_letters, .int o_sort, .long o_word, .int o_wrongAt, .int o_badAt, .int o_bad, .ref h_o_told, .ref h_o_shift, .int o_firstX, .int o_firstY, .int o_secondX, .int o_secondY, .ref h_o_rootOf, .ref h_o_becomes, .ref h_o_comes, .ref h_o_next, .int o_x])), (h_o_all, .inl (ca 0, 350, .inl o_all_r)), (h_o_shift, .inl (ca 3, 768, .inl o_shift_r))]) (hS : va_S A s.heap H locs) (ls : Array Slot) (hl : lv_has ls 4 [(0, .ref h_o), (1, .int v1), (2, .int v2)]), WW H locs (F0 m 55 ls []) := by
            intro v2 o_firstX o_firstY rr hf hG H locs hP hD hS ls hl
            refine h2 ?_
            unfold fX8_laysSteps_55 at hf
            refine lv_iconst (v := 1) hx hb dX8_laysSteps_55 (by decide) ?_
            refine lv_goto (tgt := 60) hx hb dX8_laysSteps_56 (by decide) ?_
            exact h1 (J_60 v2 (1 : Int32) o_firstX o_firstY _ hf hG _ _ hP hD hS _ (lv_sub hl [0, 1, 2] rfl))
          unfold fX8_laysSteps_32_b at hf
          refine lv_iload_n hx hb dX8_laysSteps_32 rfl (lv_at hl 2 rfl) ?_
          refine lv_bipush (v := 10) hx hb dX8_laysSteps_33 (by decide) ?_
          refine lv_icmp_gt (tgt := 112) hx hb dX8_laysSteps_35 (by decide) (fun c_35 => ?_) (fun c_35 => ?_)
          · replace hf := ds_t c_35 hf
            obtain ⟨rr, hr_0, hf⟩ := ds_ob hf
            have hf := Option.some.inj hf
            subst hf
            rw [eG2] at hG
            replace hG : G1 rr := hG
            have hf := hr_0
            exact h1 (J_112 v1 o_firstX o_firstY _ hf hG _ _ hP hD hS _ (lv_sub hl [0, 1] rfl))
          · replace hf := ds_f c_35 hf
            refine lv_aload_n hx hb dX8_laysSteps_38 rfl (lv_at hl 0 rfl) ?_
            refine lv_iload_n hx hb dX8_laysSteps_39 rfl (lv_at hl 1 rfl) ?_
            refine lv_iload_n hx hb dX8_laysSteps_40 rfl (lv_at hl 2 rfl) ?_
            obtain ⟨q41, hq41, hf⟩ := ds_ob hf
            refine ds_calli (wr := []) (va_runV (As := [.int v1, .int v2]) (rest := []) ⟨hx, hb, hml, hown, hts⟩ (c_X8_isStep l dC dI ca sa h_o h_o_plans h_o_makers h_o_halves h_o_all h_o_text h_o_saved h_o_undone h_o_told h_o_shift h_o_rootOf h_o_becomes h_o_comes h_o_next H.size o_raised o_undos o_reached o_length o_begin o_letters o_sort o_word o_wrongAt o_badAt o_bad o_firstX o_firstY o_secondX o_secondY o_x o_all_r o_shift_r v1 v2 q41 hq41) (cwV 2 hts (ds_gV kw_663 kw_664 kw_665 kw_597 kw_666) rfl rfl rfl (by decide +kernel) ⟨Nat.le_of_ble_eq_true rfl, Nat.le_of_ble_eq_true rfl⟩) ⟨ds_blind, va_recv hK hP (ci := 7) (q0 := 0) rfl rfl, ds_at hP hD hK hE hS hA [0, 1, 2] rfl rfl _⟩ rfl rfl hl.1 rfl (lv_room (Nat.le_of_ble_eq_true rfl)) dX8_laysSteps_41 ⟨Nat.zero_le _, Nat.zero_le _⟩) hP hD hS hA [0, 1, 2] [] rfl rfl rfl (by decide) (fun H locs hP hD hS => ?_)
            have hP : va_P (dC, dI) vwCl [(h_o, .inr (7, [.ref h_o_plans, .ref h_o_makers, .ref h_o_halves, .int o_raised, .ref h_o_all, .ref h_o_text, .ref h_o_saved, .ref h_o_undone, .int o_undos, .int o_reached, .int o_length, .int o_begin, .int o_letters, .int o_sort, .long o_word, .int o_wrongAt, .int o_badAt, .int o_bad, .ref h_o_told, .ref h_o_shift, .int o_firstX, .int o_firstY, .int o_secondX, .int o_secondY, .ref h_o_rootOf, .ref h_o_becomes, .ref h_o_comes, .ref h_o_next, .int o_x])), (h_o_all, .inl (ca 0, 350, .inl o_all_r)), (h_o_shift, .inl (ca 3, 768, .inl o_shift_r))] H := hP
            have hD : va_D A [(h_o, .inr (7, [.ref h_o_plans, .ref h_o_makers, .ref h_o_halves, .int o_raised, .ref h_o_all, .ref h_o_text, .ref h_o_saved, .ref h_o_undone, .int o_undos, .int o_reached, .int o_length, .int o_begin, .int o_letters, .int o_sort, .long o_word, .int o_wrongAt, .int o_badAt, .int o_bad, .ref h_o_told, .ref h_o_shift, .int o_firstX, .int o_firstY, .int o_secondX, .int o_secondY, .ref h_o_rootOf, .ref h_o_becomes, .ref h_o_comes, .ref h_o_next, .int o_x])), (h_o_all, .inl (ca 0, 350, .inl o_all_r)), (h_o_shift, .inl (ca 3, 768, .inl o_shift_r))] := hD
            refine lv_if_eq (tgt := 59) hx hb dX8_laysSteps_44 (by decide) (fun c_44 => ?_) (fun c_44 => ?_)
            · replace hf := ds_t c_44 hf
              exact h1 (J_59 v2 o_firstX o_firstY _ hf hG _ _ hP hD hS _ (lv_sub hl [0, 1, 2] rfl))
            · replace hf := ds_f c_44 hf
              refine lv_iload_n hx hb dX8_laysSteps_47 rfl (lv_at hl 1 rfl) ?_
              refine lv_if_ne (tgt := 55) hx hb dX8_laysSteps_48 (by decide) (fun c_48 => ?_) (fun c_48 => ?_)
              · replace hf := ds_f c_48 hf
                exact h1 (J_55 v2 o_firstX o_firstY _ hf hG _ _ hP hD hS _ (lv_sub hl [0, 1, 2] rfl))
              · replace hf := ds_t c_48 hf
                refine lv_iload_n hx hb dX8_laysSteps_51 rfl (lv_at hl 2 rfl) ?_
                refine lv_if_eq (tgt := 59) hx hb dX8_laysSteps_52 (by decide) (fun c_52 => ?_) (fun c_52 => ?_)
                · replace hf := ds_t c_52 hf
                  exact h1 (J_59 v2 o_firstX o_firstY _ hf hG _ _ hP hD hS _ (lv_sub hl [0, 1, 2] rfl))
                · replace hf := ds_f c_52 hf
                  exact h1 (J_55 v2 o_firstX o_firstY _ hf hG _ _ hP hD hS _ (lv_sub hl [0, 1, 2] rfl))
      unfold fX8_laysSteps_23_b at hf
      refine lv_iload_n hx hb dX8_laysSteps_23 rfl (lv_at hl 1 rfl) ?_
      refine lv_bipush (v := 10) hx hb dX8_laysSteps_24 (by decide) ?_
      refine lv_icmp_gt (tgt := 118) hx hb dX8_laysSteps_26 (by decide) (fun c_26 => ?_) (fun c_26 => ?_)
      · replace hf := ds_t c_26 hf
        obtain ⟨rr, hr_0, hf⟩ := ds_ob hf
        have hf := Option.some.inj hf
        subst hf
        rw [eG1] at hG
        replace hG : G0 rr := hG
        have hf := hr_0
        exact h1 (J_118 o_firstX o_firstY o_secondX o_secondY _ hf hG _ _ hP hD hS _ (lv_sub hl [0] rfl))
      · replace hf := ds_f c_26 hf
        refine lv_bipush (v := -10) hx hb dX8_laysSteps_29 (by decide) ?_
        refine lv_istore_n (lv' := [(2, .int (-10 : Int32)), (0, .ref h_o), (1, .int v1)]) hx hb dX8_laysSteps_31 rfl hl (by decide) rfl (fun ls hl => ?_)
        exact h1 (J_32 v1 1000 (-10 : Int32) o_firstX o_firstY _ hf hG _ _ hP hD hS _ (lv_sub hl [1, 2, 0] rfl))
  unfold fX8_laysSteps at hf
  refine lv_aload_n hx hb dX8_laysSteps_0 rfl (lv_at hl 0 rfl) ?_
  refine lv_iconst (v := 0) hx hb dX8_laysSteps_1 (by decide) ?_
  refine va_put (D := (dC, dI)) (ci := 7) (v := .int (0 : Int32)) (ty := tyX8 20) (C := RX8) (T := TX8) (N := 29) hx hb hts (fun w h => List.mem_cons_of_mem _ (kc_X8 w h)) tyX8 tyX8_ok nmX8 hown hK hP hD hS 0 rfl rfl 20 (by decide) (hg kw_686) (fun _ h9 => h9) rfl (by decide +kernel) rfl rfl (Nat.le_of_ble_eq_true rfl) dX8_laysSteps_2 (fun H locs hP hD hS => ?_)
  have hP : va_P (dC, dI) vwCl [(h_o, .inr (7, [.ref h_o_plans, .ref h_o_makers, .ref h_o_halves, .int o_raised, .ref h_o_all, .ref h_o_text, .ref h_o_saved, .ref h_o_undone, .int o_undos, .int o_reached, .int o_length, .int o_begin, .int o_letters, .int o_sort, .long o_word, .int o_wrongAt, .int o_badAt, .int o_bad, .ref h_o_told, .ref h_o_shift, .int (0 : Int32), .int o_firstY, .int o_secondX, .int o_secondY, .ref h_o_rootOf, .ref h_o_becomes, .ref h_o_comes, .ref h_o_next, .int o_x])), (h_o_all, .inl (ca 0, 350, .inl o_all_r)), (h_o_shift, .inl (ca 3, 768, .inl o_shift_r))] H := hP
  have hD : va_D A [(h_o, .inr (7, [.ref h_o_plans, .ref h_o_makers, .ref h_o_halves, .int o_raised, .ref h_o_all, .ref h_o_text, .ref h_o_saved, .ref h_o_undone, .int o_undos, .int o_reached, .int o_length, .int o_begin, .int o_letters, .int o_sort, .long o_word, .int o_wrongAt, .int o_badAt, .int o_bad, .ref h_o_told, .ref h_o_shift, .int (0 : Int32), .int o_firstY, .int o_secondX, .int o_secondY, .ref h_o_rootOf, .ref h_o_becomes, .ref h_o_comes, .ref h_o_next, .int o_x])), (h_o_all, .inl (ca 0, 350, .inl o_all_r)), (h_o_shift, .inl (ca 3, 768, .inl o_shift_r))] := hD
  refine lv_aload_n hx hb dX8_laysSteps_5 rfl (lv_at hl 0 rfl) ?_
  refine lv_iconst (v := 0) hx hb dX8_laysSteps_6 (by decide) ?_
  refine va_put (D := (dC, dI)) (ci := 7) (v := .int (0 : Int32)) (ty := tyX8 21) (C := RX8) (T := TX8) (N := 29) hx hb hts (fun w h => List.mem_cons_of_mem _ (kc_X8 w h)) tyX8 tyX8_ok nmX8 hown hK hP hD hS 0 rfl rfl 21 (by decide) (hg kw_685) (fun _ h9 => h9) rfl (by decide +kernel) rfl rfl (Nat.le_of_ble_eq_true rfl) dX8_laysSteps_7 (fun H locs hP hD hS => ?_)
  have hP : va_P (dC, dI) vwCl [(h_o, .inr (7, [.ref h_o_plans, .ref h_o_makers, .ref h_o_halves, .int o_raised, .ref h_o_all, .ref h_o_text, .ref h_o_saved, .ref h_o_undone, .int o_undos, .int o_reached, .int o_length, .int o_begin, .int o_letters, .int o_sort, .long o_word, .int o_wrongAt, .int o_badAt, .int o_bad, .ref h_o_told, .ref h_o_shift, .int (0 : Int32), .int (0 : Int32), .int o_secondX, .int o_secondY, .ref h_o_rootOf, .ref h_o_becomes, .ref h_o_comes, .ref h_o_next, .int o_x])), (h_o_all, .inl (ca 0, 350, .inl o_all_r)), (h_o_shift, .inl (ca 3, 768, .inl o_shift_r))] H := hP
  have hD : va_D A [(h_o, .inr (7, [.ref h_o_plans, .ref h_o_makers, .ref h_o_halves, .int o_raised, .ref h_o_all, .ref h_o_text, .ref h_o_saved, .ref h_o_undone, .int o_undos, .int o_reached, .int o_length, .int o_begin, .int o_letters, .int o_sort, .long o_word, .int o_wrongAt, .int o_badAt, .int o_bad, .ref h_o_told, .ref h_o_shift, .int (0 : Int32), .int (0 : Int32), .int o_secondX, .int o_secondY, .ref h_o_rootOf, .ref h_o_becomes, .ref h_o_comes, .ref h_o_next, .int o_x])), (h_o_all, .inl (ca 0, 350, .inl o_all_r)), (h_o_shift, .inl (ca 3, 768, .inl o_shift_r))] := hD
  refine lv_aload_n hx hb dX8_laysSteps_10 rfl (lv_at hl 0 rfl) ?_
  refine lv_iconst (v := 0) hx hb dX8_laysSteps_11 (by decide) ?_
  refine va_put (D := (dC, dI)) (ci := 7) (v := .int (0 : Int32)) (ty := tyX8 22) (C := RX8) (T := TX8) (N := 29) hx hb hts (fun w h => List.mem_cons_of_mem _ (kc_X8 w h)) tyX8 tyX8_ok nmX8 hown hK hP hD hS 0 rfl rfl 22 (by decide) (hg kw_679) (fun _ h9 => h9) rfl (by decide +kernel) rfl rfl (Nat.le_of_ble_eq_true rfl) dX8_laysSteps_12 (fun H locs hP hD hS => ?_)
  have hP : va_P (dC, dI) vwCl [(h_o, .inr (7, [.ref h_o_plans, .ref h_o_makers, .ref h_o_halves, .int o_raised, .ref h_o_all, .ref h_o_text, .ref h_o_saved, .ref h_o_undone, .int o_undos, .int o_reached, .int o_length, .int o_begin, .int o_letters, .int o_sort, .long o_word, .int o_wrongAt, .int o_badAt, .int o_bad, .ref h_o_told, .ref h_o_shift, .int (0 : Int32), .int (0 : Int32), .int (0 : Int32), .int o_secondY, .ref h_o_rootOf, .ref h_o_becomes, .ref h_o_comes, .ref h_o_next, .int o_x])), (h_o_all, .inl (ca 0, 350, .inl o_all_r)), (h_o_shift, .inl (ca 3, 768, .inl o_shift_r))] H := hP
  have hD : va_D A [(h_o, .inr (7, [.ref h_o_plans, .ref h_o_makers, .ref h_o_halves, .int o_raised, .ref h_o_all, .ref h_o_text, .ref h_o_saved, .ref h_o_undone, .int o_undos, .int o_reached, .int o_length, .int o_begin, .int o_letters, .int o_sort, .long o_word, .int o_wrongAt, .int o_badAt, .int o_bad, .ref h_o_told, .ref h_o_shift, .int (0 : Int32), .int (0 : Int32), .int (0 : Int32), .int o_secondY, .ref h_o_rootOf, .ref h_o_becomes, .ref h_o_comes, .ref h_o_next, .int o_x])), (h_o_all, .inl (ca 0, 350, .inl o_all_r)), (h_o_shift, .inl (ca 3, 768, .inl o_shift_r))] := hD
  refine lv_aload_n hx hb dX8_laysSteps_15 rfl (lv_at hl 0 rfl) ?_
  refine lv_iconst (v := 0) hx hb dX8_laysSteps_16 (by decide) ?_
  refine va_put (D := (dC, dI)) (ci := 7) (v := .int (0 : Int32)) (ty := tyX8 23) (C := RX8) (T := TX8) (N := 29) hx hb hts (fun w h => List.mem_cons_of_mem _ (kc_X8 w h)) tyX8 tyX8_ok nmX8 hown hK hP hD hS 0 rfl rfl 23 (by decide) (hg kw_680) (fun _ h9 => h9) rfl (by decide +kernel) rfl rfl (Nat.le_of_ble_eq_true rfl) dX8_laysSteps_17 (fun H locs hP hD hS => ?_)
  have hP : va_P (dC, dI) vwCl [(h_o, .inr (7, [.ref h_o_plans, .ref h_o_makers, .ref h_o_halves, .int o_raised, .ref h_o_all, .ref h_o_text, .ref h_o_saved, .ref h_o_undone, .int o_undos, .int o_reached, .int o_length, .int o_begin, .int o_letters, .int o_sort, .long o_word, .int o_wrongAt, .int o_badAt, .int o_bad, .ref h_o_told, .ref h_o_shift, .int (0 : Int32), .int (0 : Int32), .int (0 : Int32), .int (0 : Int32), .ref h_o_rootOf, .ref h_o_becomes, .ref h_o_comes, .ref h_o_next, .int o_x])), (h_o_all, .inl (ca 0, 350, .inl o_all_r)), (h_o_shift, .inl (ca 3, 768, .inl o_shift_r))] H := hP
  have hD : va_D A [(h_o, .inr (7, [.ref h_o_plans, .ref h_o_makers, .ref h_o_halves, .int o_raised, .ref h_o_all, .ref h_o_text, .ref h_o_saved, .ref h_o_undone, .int o_undos, .int o_reached, .int o_length, .int o_begin, .int o_letters, .int o_sort, .long o_word, .int o_wrongAt, .int o_badAt, .int o_bad, .ref h_o_told, .ref h_o_shift, .int (0 : Int32), .int (0 : Int32), .int (0 : Int32), .int (0 : Int32), .ref h_o_rootOf, .ref h_o_becomes, .ref h_o_comes, .ref h_o_next, .int o_x])), (h_o_all, .inl (ca 0, 350, .inl o_all_r)), (h_o_shift, .inl (ca 3, 768, .inl o_shift_r))] := hD
  refine lv_bipush (v := -10) hx hb dX8_laysSteps_20 (by decide) ?_
  refine lv_istore_n (lv' := [(1, .int (-10 : Int32)), (0, .ref h_o)]) hx hb dX8_laysSteps_22 rfl hl (by decide) rfl (fun ls hl => ?_)
  exact h1 (J_23 (0 : Int32) (0 : Int32) 1000 (-10 : Int32) (0 : Int32) (0 : Int32) _ hf hG _ _ hP hD hS _ (lv_sub hl [1, 0] rfl))
theorem dX8_order_0 : decode cX8_order 0 = .ok (.iconst 0, 1) := by decide +kernel
theorem dX8_order_1 : decode cX8_order 1 = .ok (.istore_n 1, 1) := by decide +kernel
theorem dX8_order_2 : decode cX8_order 2 = .ok (.iconst 0, 1) := by decide +kernel
theorem dX8_order_3 : decode cX8_order 3 = .ok (.istore_n 2, 1) := by decide +kernel
theorem dX8_order_4 : decode cX8_order 4 = .ok (.iload_n 2, 1) := by decide +kernel
theorem dX8_order_5 : decode cX8_order 5 = .ok (.aload_n 0, 1) := by decide +kernel
theorem dX8_order_6 : decode cX8_order 6 = .ok (.invokevirtual 62, 3) := by decide +kernel
theorem dX8_order_9 : decode cX8_order 9 = .ok (.iconst 2, 1) := by decide +kernel
theorem dX8_order_10 : decode cX8_order 10 = .ok (.idiv, 1) := by decide +kernel
theorem dX8_order_11 : decode cX8_order 11 = .ok (.if_icmp .ge 25, 3) := by decide +kernel
theorem dX8_order_14 : decode cX8_order 14 = .ok (.iload_n 1, 1) := by decide +kernel
theorem dX8_order_15 : decode cX8_order 15 = .ok (.aload_n 0, 1) := by decide +kernel
theorem dX8_order_16 : decode cX8_order 16 = .ok (.iload_n 2, 1) := by decide +kernel
theorem dX8_order_17 : decode cX8_order 17 = .ok (.invokevirtual 167, 3) := by decide +kernel
theorem dX8_order_20 : decode cX8_order 20 = .ok (.ifCond .le 7, 3) := by decide +kernel
theorem dX8_order_23 : decode cX8_order 23 = .ok (.iconst 1, 1) := by decide +kernel
theorem dX8_order_24 : decode cX8_order 24 = .ok (.goto 4, 3) := by decide +kernel
theorem dX8_order_27 : decode cX8_order 27 = .ok (.iconst 0, 1) := by decide +kernel
theorem dX8_order_28 : decode cX8_order 28 = .ok (.iadd, 1) := by decide +kernel
theorem dX8_order_29 : decode cX8_order 29 = .ok (.istore_n 1, 1) := by decide +kernel
theorem dX8_order_30 : decode cX8_order 30 = .ok (.iinc 2 1, 3) := by decide +kernel
theorem dX8_order_33 : decode cX8_order 33 = .ok (.goto (-29), 3) := by decide +kernel
theorem dX8_order_36 : decode cX8_order 36 = .ok (.iload_n 1, 1) := by decide +kernel
theorem dX8_order_37 : decode cX8_order 37 = .ok (.ireturn, 1) := by decide +kernel
def fX8_order_28 (v2 : Int32) (s0 : Int32) (s1 : Int32) : Option ((Int32 × Int32) ⊕ (Int32)) :=
  some (.inl ((s1 + s0), (v2 + 1)))
def fX8_order_4_b (o_all_r : Nat → Int32) (o_shift_r : Nat → Int32) (v1 : Int32) (v2 : Int32) : Option ((Int32 × Int32) ⊕ (Int32)) :=
  Option.bind (fX8_turnings o_all_r) fun q6 => if (q6 / (2 : Int32)) ≤ v2 then some (.inr v1) else Option.bind (fX8_shiftsOf o_all_r o_shift_r v2) fun q17 => if q17 ≤ 0 then fX8_order_28 v2 (0 : Int32) v1 else fX8_order_28 v2 (1 : Int32) v1
def fX8_order_4 (o_all_r : Nat → Int32) (o_shift_r : Nat → Int32) (v1 : Int32) (v2 : Int32) : Option (Int32) := ds_it (fun s => fX8_order_4_b o_all_r o_shift_r s.1 s.2) 1000 (v1, v2)
def fX8_order (o_all_r : Nat → Int32) (o_shift_r : Nat → Int32) : Option (Int32) :=
  fX8_order_4 o_all_r o_shift_r (0 : Int32) (0 : Int32)
set_option maxHeartbeats 4000000 in
set_option maxRecDepth 100000 in
theorem c_X8_order (l : Launch) (dC : Nat → ClassId) (dI : Nat → Nat → Nat) (ca : Nat → ClassId) (sa : Nat → Nat) (h_o : Nat) (h_o_plans : Nat) (h_o_makers : Nat) (h_o_halves : Nat) (h_o_all : Nat) (h_o_text : Nat) (h_o_saved : Nat) (h_o_undone : Nat) (h_o_told : Nat) (h_o_shift : Nat) (h_o_rootOf : Nat) (h_o_becomes : Nat) (h_o_comes : Nat) (h_o_next : Nat) (sz : Nat) (o_raised : Int32) (o_undos : Int32) (o_reached : Int32) (o_length : Int32) (o_begin : Int32) (o_letters : Int32) (o_sort : Int32) (o_word : Int64) (o_wrongAt : Int32) (o_badAt : Int32) (o_bad : Int32) (o_firstX : Int32) (o_firstY : Int32) (o_secondX : Int32) (o_secondY : Int32) (o_x : Int32) (o_all_r : Nat → Int32) (o_shift_r : Nat → Int32) (res : Int32) (hf : fX8_order o_all_r o_shift_r = some res) : Met l yX8_order (Cond.code yX8_order cX8_order 3 (some .int) :: ds_gw) { frames := 1, cells := 0, slots := 0, locals := 24 } (va_Pc [.ref h_o] (ds_Pre dC dI ca sa [(h_o, .inr (7, [.ref h_o_plans, .ref h_o_makers, .ref h_o_halves, .int o_raised, .ref h_o_all, .ref h_o_text, .ref h_o_saved, .ref h_o_undone, .int o_undos, .int o_reached, .int o_length, .int o_begin, .int o_letters, .int o_sort, .long o_word, .int o_wrongAt, .int o_badAt, .int o_bad, .ref h_o_told, .ref h_o_shift, .int o_firstX, .int o_firstY, .int o_secondX, .int o_secondY, .ref h_o_rootOf, .ref h_o_becomes, .ref h_o_comes, .ref h_o_next, .int o_x])), (h_o_all, .inl (ca 0, 350, .inl o_all_r)), (h_o_shift, .inl (ca 3, 768, .inl o_shift_r))] sz)) (va_Qi (fun r (_ : Unit) => r = res) (ds_B dC dI (va_A [(h_o, .inr (7, [.ref h_o_plans, .ref h_o_makers, .ref h_o_halves, .int o_raised, .ref h_o_all, .ref h_o_text, .ref h_o_saved, .ref h_o_undone, .int o_undos, .int o_reached, .int o_length, .int o_begin, .int o_letters, .int o_sort, .long o_word, .int o_wrongAt, .int o_badAt, .int o_bad, .ref h_o_told, .ref h_o_shift, .int o_firstX, .int o_firstY, .int o_secondX, .int o_secondY, .ref h_o_rootOf, .ref h_o_becomes, .ref h_o_comes, .ref h_o_next, .int o_x])), (h_o_all, .inl (ca 0, 350, .inl o_all_r)), (h_o_shift, .inl (ca 3, 768, .inl o_shift_r))] sz) [(h_o, .inr (7, [.ref h_o_plans, .ref h_o_makers, .ref h_o_halves, .int o_raised, .ref h_o_all, .ref h_o_text, .ref h_o_saved, .ref h_o_undone, .int o_undos, .int o_reached, .int o_length, .int o_begin, .int o_letters, .int o_sort, .long o_word, .int o_wrongAt, .int o_badAt, .int o_bad, .ref h_o_told, .ref h_o_shift, .int o_firstX, .int o_firstY, .int o_secondX, .int o_secondY, .ref h_o_rootOf, .ref h_o_becomes, .ref h_o_comes, .ref h_o_next, .int o_x])), (h_o_all, .inl (ca 0, 350, .inl o_all_r)), (h_o_shift, .inl (ca 3, 768, .inl o_shift_r))]) (va_A [(h_o, .inr (7, [.ref h_o_plans, .ref h_o_makers, .ref h_o_halves, .int o_raised, .ref h_o_all, .ref h_o_text, .ref h_o_saved, .ref h_o_undone, .int o_undos, .int o_reached, .int o_length, .int o_begin, .int o_letters, .int o_sort, .long o_word, .int o_wrongAt, .int o_badAt, .int o_bad, .ref h_o_told, .ref h_o_shift, .int o_firstX, .int o_firstY, .int o_secondX, .int o_secondY, .ref h_o_rootOf, .ref h_o_becomes, .ref h_o_comes, .ref h_o_next, .int o_x])), (h_o_all, .inl (ca 0, 350, .inl o_all_r)), (h_o_shift, .inl (ca 3, 768, .inl o_shift_r))] sz)) 0 0 (va_A [(h_o, .inr (7, [.ref h_o_plans, .ref h_o_makers, .ref h_o_halves, .int o_raised, .ref h_o_all, .ref h_o_text, .ref h_o_saved, .ref h_o_undone, .int o_undos, .int o_reached, .int o_length, .int o_begin, .int o_letters, .int o_sort, .long o_word, .int o_wrongAt, .int o_badAt, .int o_bad, .ref h_o_told, .ref h_o_shift, .int o_firstX, .int o_firstY, .int o_secondX, .int o_secondY, .ref h_o_rootOf, .ref h_o_becomes, .ref h_o_comes, .ref h_o_next, .int o_x])), (h_o_all, .inl (ca 0, 350, .inl o_all_r)), (h_o_shift, .inl (ca 3, 768, .inl o_shift_r))] sz) := by
  refine Met.ofW (cc := cX8_order) (maxL := 3) (ret := (some .int)) (by decide) rfl ?_
  intro p e s m args below meth c s₁ B hml hv
  obtain ⟨rfl, hsz, hP, hK, hD0, hE⟩ := hv
  have hx := B.exec
  have hb := B.bytes
  have hr := B.returns
  have hts := atoms_spec (ws := Cond.code yX8_order cX8_order 3 (some .int) :: ds_gw) B.pre
  have hg : ∀ {w : Cond}, w ∈ ds_gw → w.before _ s = true := fun h => hts _ (List.mem_cons_of_mem _ h)
  have hown : s.vm.findClass RX8 = some m.cls := findClass_of_methodNamed B.named
  have hlocks := B.notSynchronized
  subst hsz
  have hD := hD0.self (sz := s.heap.size)
  generalize hAe : va_A [(h_o, .inr (7, [.ref h_o_plans, .ref h_o_makers, .ref h_o_halves, .int o_raised, .ref h_o_all, .ref h_o_text, .ref h_o_saved, .ref h_o_undone, .int o_undos, .int o_reached, .int o_length, .int o_begin, .int o_letters, .int o_sort, .long o_word, .int o_wrongAt, .int o_badAt, .int o_bad, .ref h_o_told, .ref h_o_shift, .int o_firstX, .int o_firstY, .int o_secondX, .int o_secondY, .ref h_o_rootOf, .ref h_o_becomes, .ref h_o_comes, .ref h_o_next, .int o_x])), (h_o_all, .inl (ca 0, 350, .inl o_all_r)), (h_o_shift, .inl (ca 3, 768, .inl o_shift_r))] s.heap.size = A at hD hE ⊢
  have hA : ∀ q : Nat, s.heap.size ≤ q → A q := fun q h => by rw [← hAe]; exact Or.inr h
  have hS : va_S A s.heap s.heap [] := va_S.rf
  have hl := lv_entry ([.ref h_o]) (n := 3) (Nat.le_of_ble_eq_true rfl)
  rw [lg_entry_eq]
  generalize (lg_sl ([.ref h_o]) ++ List.replicate (3 - (lg_sl ([.ref h_o])).length) Slot.unset).toArray = ls at hl ⊢
  have hl : lv_has ls 3 [(0, .ref h_o)] := hl
  obtain ⟨G0, eG0⟩ : ∃ G : Int32 → Prop, G = (fun r => r = res) := ⟨_, rfl⟩
  obtain ⟨rr, hrr⟩ : ∃ z, z = res := ⟨_, rfl⟩
  rw [← hrr] at hf
  have hG : G0 rr := by subst eG0; exact hrr
  refine ds_cap (fun WW h1 h2 => ?_)
  have J_4 : ∀ (n : Nat) (v1 : Int32) (v2 : Int32) (rr : Int32) (hf : ds_it (fun s => fX8_order_4_b o_all_r o_shift_r s.1 s.2) n (v1, v2) = some rr) (hG : G0 rr) (H : Heap) (locs : List Loc) (hP : va_P (dC, dI) vwCl [(h_o, .inr (7, [.ref h_o_plans, .ref h_o_makers, .ref h_o_halves, .int o_raised, .ref h_o_all, .ref h_o_text, .ref h_o_saved, .ref h_o_undone, .int o_undos, .int o_reached, .int o_length, .int o_begin, .int o_letters, .int o_sort, .long o_word, .int o_wrongAt, .int o_badAt, .int o_bad, .ref h_o_told, .ref h_o_shift, .int o_firstX, .int o_firstY, .int o_secondX, .int o_secondY, .ref h_o_rootOf, .ref h_o_becomes, .ref h_o_comes, .ref h_o_next, .int o_x])), (h_o_all, .inl (ca 0, 350, .inl o_all_r)), (h_o_shift, .inl (ca 3, 768, .inl o_shift_r))] H) (hD : va_D A [(h_o, .inr (7, [.ref h_o_plans, .ref h_o_makers, .ref h_o_halves, .int o_raised, .ref h_o_all, .ref h_o_text, .ref h_o_saved, .ref h_o_undone, .int o_undos, .int o_reached, .int o_length, .int o_begin, .int o_letters, .int o_sort, .long o_word, .int o_wrongAt, .int o_badAt, .int o_bad, .ref h_o_told, .ref h_o_shift, .int o_firstX, .int o_firstY, .int o_secondX, .int o_secondY, .ref h_o_rootOf, .ref h_o_becomes, .ref h_o_comes, .ref h_o_next, .int o_x])), (h_o_all, .inl (ca 0, 350, .inl o_all_r)), (h_o_shift, .inl (ca 3, 768, .inl o_shift_r))]) (hS : va_S A s.heap H locs) (ls : Array Slot) (hl : lv_has ls 3 [(0, .ref h_o), (1, .int v1), (2, .int v2)]), WW H locs (F0 m 4 ls []) := by
    intro  n
    induction n with
    | zero => intro v1 v2 rr hf; exact (ds_it_zero hf).elim
    | succ n ih4 =>
      intro v1 v2 rr hf hG H locs hP hD hS ls hl
      refine h2 ?_
      obtain ⟨rr, hf, hG⟩ := ds_it_succ hf hG
      replace hf : fX8_order_4_b o_all_r o_shift_r v1 v2 = some rr := hf
      obtain ⟨G1, eG1⟩ : ∃ G : ((Int32 × Int32) ⊕ (Int32)) → Prop, G = ds_G (fun s' => ∃ r', ds_it (fun s => fX8_order_4_b o_all_r o_shift_r s.1 s.2) n s' = some r' ∧ G0 r') G0 := ⟨_, rfl⟩
      rw [← eG1] at hG
      have J_28 : ∀ (v2 : Int32) (s0 : Int32) (s1 : Int32) (rr : (Int32 × Int32) ⊕ (Int32)) (hf : fX8_order_28 v2 s0 s1 = some rr) (hG : G1 rr) (H : Heap) (locs : List Loc) (hP : va_P (dC, dI) vwCl [(h_o, .inr (7, [.ref h_o_plans, .ref h_o_makers, .ref h_o_halves, .int o_raised, .ref h_o_all, .ref h_o_text, .ref h_o_saved, .ref h_o_undone, .int o_undos, .int o_reached, .int o_length, .int o_begin, .int o_letters, .int o_sort, .long o_word, .int o_wrongAt, .int o_badAt, .int o_bad, .ref h_o_told, .ref h_o_shift, .int o_firstX, .int o_firstY, .int o_secondX, .int o_secondY, .ref h_o_rootOf, .ref h_o_becomes, .ref h_o_comes, .ref h_o_next, .int o_x])), (h_o_all, .inl (ca 0, 350, .inl o_all_r)), (h_o_shift, .inl (ca 3, 768, .inl o_shift_r))] H) (hD : va_D A [(h_o, .inr (7, [.ref h_o_plans, .ref h_o_makers, .ref h_o_halves, .int o_raised, .ref h_o_all, .ref h_o_text, .ref h_o_saved, .ref h_o_undone, .int o_undos, .int o_reached, .int o_length, .int o_begin, .int o_letters, .int o_sort, .long o_word, .int o_wrongAt, .int o_badAt, .int o_bad, .ref h_o_told, .ref h_o_shift, .int o_firstX, .int o_firstY, .int o_secondX, .int o_secondY, .ref h_o_rootOf, .ref h_o_becomes, .ref h_o_comes, .ref h_o_next, .int o_x])), (h_o_all, .inl (ca 0, 350, .inl o_all_r)), (h_o_shift, .inl (ca 3, 768, .inl o_shift_r))]) (hS : va_S A s.heap H locs) (ls : Array Slot) (hl : lv_has ls 3 [(0, .ref h_o), (2, .int v2)]), WW H locs (F0 m 28 ls [.int s0, .int s1]) := by
        intro v2 s0 s1 rr hf hG H locs hP hD hS ls hl
        refine h2 ?_
        unfold fX8_order_28 at hf
        refine lv_iadd hx hb dX8_order_28 ?_
        refine lv_istore_n (lv' := [(1, .int (s1 + s0)), (0, .ref h_o), (2, .int v2)]) hx hb dX8_order_29 rfl hl (by decide) rfl (fun ls hl => ?_)
        refine lv_iinc (v := (v2 + 1)) (lv' := [(2, .int (v2 + 1)), (1, .int (s1 + s0)), (0, .ref h_o)]) hx hb dX8_order_30 hl (k := 2) rfl rfl (by decide) rfl (fun ls hl => ?_)
        refine lv_goto (tgt := 4) hx hb dX8_order_33 (by decide) ?_
        have hf := Option.some.inj hf
        subst hf
        rw [eG1] at hG
        obtain ⟨rr, hf, hG⟩ := hG
        exact h1 (ih4 (s1 + s0) (v2 + 1) rr hf hG _ _ hP hD hS _ (lv_sub hl [2, 1, 0] rfl))
      unfold fX8_order_4_b at hf
      refine lv_iload_n hx hb dX8_order_4 rfl (lv_at hl 2 rfl) ?_
      refine lv_aload_n hx hb dX8_order_5 rfl (lv_at hl 0 rfl) ?_
      obtain ⟨q6, hq6, hf⟩ := ds_ob hf
      refine ds_calli (wr := [(h_o_shift, .inl (ca 3, 768, .inl o_shift_r))]) (va_runV (As := []) (rest := [.int v2]) ⟨hx, hb, hml, hown, hts⟩ (c_X8_turnings l dC dI ca sa h_o h_o_plans h_o_makers h_o_halves h_o_all h_o_text h_o_saved h_o_undone h_o_told h_o_shift h_o_rootOf h_o_becomes h_o_comes h_o_next H.size o_raised o_undos o_reached o_length o_begin o_letters o_sort o_word o_wrongAt o_badAt o_bad o_firstX o_firstY o_secondX o_secondY o_x o_all_r  q6 hq6) (cwV 0 hts (ds_gV kw_604 kw_605 kw_606 kw_597 kw_607) rfl rfl rfl (by decide +kernel) ⟨Nat.le_of_ble_eq_true rfl, Nat.le_of_ble_eq_true rfl⟩) ⟨ds_blind, va_recv hK hP (ci := 7) (q0 := 0) rfl rfl, ds_at hP hD hK hE hS hA [0, 1] rfl rfl _⟩ rfl rfl hl.1 rfl (lv_room (Nat.le_of_ble_eq_true rfl)) dX8_order_6 ⟨Nat.zero_le _, Nat.zero_le _⟩) hP hD hS hA [0, 1] [2] rfl rfl rfl (by decide) (fun H locs hP hD hS => ?_)
      have hP : va_P (dC, dI) vwCl [(h_o_shift, .inl (ca 3, 768, .inl o_shift_r)), (h_o, .inr (7, [.ref h_o_plans, .ref h_o_makers, .ref h_o_halves, .int o_raised, .ref h_o_all, .ref h_o_text, .ref h_o_saved, .ref h_o_undone, .int o_undos, .int o_reached, .int o_length, .int o_begin, .int o_letters, .int o_sort, .long o_word, .int o_wrongAt, .int o_badAt, .int o_bad, .ref h_o_told, .ref h_o_shift, .int o_firstX, .int o_firstY, .int o_secondX, .int o_secondY, .ref h_o_rootOf, .ref h_o_becomes, .ref h_o_comes, .ref h_o_next, .int o_x])), (h_o_all, .inl (ca 0, 350, .inl o_all_r))] H := hP
      have hD : va_D A [(h_o_shift, .inl (ca 3, 768, .inl o_shift_r)), (h_o, .inr (7, [.ref h_o_plans, .ref h_o_makers, .ref h_o_halves, .int o_raised, .ref h_o_all, .ref h_o_text, .ref h_o_saved, .ref h_o_undone, .int o_undos, .int o_reached, .int o_length, .int o_begin, .int o_letters, .int o_sort, .long o_word, .int o_wrongAt, .int o_badAt, .int o_bad, .ref h_o_told, .ref h_o_shift, .int o_firstX, .int o_firstY, .int o_secondX, .int o_secondY, .ref h_o_rootOf, .ref h_o_becomes, .ref h_o_comes, .ref h_o_next, .int o_x])), (h_o_all, .inl (ca 0, 350, .inl o_all_r))] := hD
      refine lv_iconst (v := 2) hx hb dX8_order_9 (by decide) ?_
      refine lv_idiv hx hb dX8_order_10 (by decide) ?_
      refine lv_icmp_ge (tgt := 36) hx hb dX8_order_11 (by decide) (fun c_11 => ?_) (fun c_11 => ?_)
      · replace hf := ds_t c_11 hf
        refine lv_iload_n hx hb dX8_order_36 rfl (lv_at hl 1 rfl) ?_
        have hf := Option.some.inj hf
        subst hf
        rw [eG1] at hG
        replace hG : G0 _ := hG
        rw [eG0] at hG
        have hG : _ = res := hG
        subst hG
        exact W.iret (v := v1) hx hb hr (fun t ht hW => ⟨⟨v1, (), rfl, rfl, by rw [ht]; exact (hP.sub [1, 2, 0] rfl), (hD.sub [1, 2, 0] rfl rfl)⟩, hS.F ht⟩) hS.2.2 dX8_order_37
      · replace hf := ds_f c_11 hf
        refine lv_iload_n hx hb dX8_order_14 rfl (lv_at hl 1 rfl) ?_
        refine lv_aload_n hx hb dX8_order_15 rfl (lv_at hl 0 rfl) ?_
        refine lv_iload_n hx hb dX8_order_16 rfl (lv_at hl 2 rfl) ?_
        obtain ⟨q17, hq17, hf⟩ := ds_ob hf
        refine ds_calli (wr := []) (va_runV (As := [.int v2]) (rest := [.int v1]) ⟨hx, hb, hml, hown, hts⟩ (c_X8_shiftsOf l dC dI ca sa h_o h_o_plans h_o_makers h_o_halves h_o_all h_o_text h_o_saved h_o_undone h_o_told h_o_shift h_o_rootOf h_o_becomes h_o_comes h_o_next H.size o_raised o_undos o_reached o_length o_begin o_letters o_sort o_word o_wrongAt o_badAt o_bad o_firstX o_firstY o_secondX o_secondY o_x o_all_r o_shift_r v2 q17 hq17) (cwV 1 hts (ds_gV kw_687 kw_688 kw_689 kw_597 kw_690) rfl rfl rfl (by decide +kernel) ⟨Nat.le_of_ble_eq_true rfl, Nat.le_of_ble_eq_true rfl⟩) ⟨ds_blind, va_recv hK hP (ci := 7) (q0 := 1) rfl rfl, ds_at hP hD hK hE hS hA [1, 2, 0] rfl rfl _⟩ rfl rfl hl.1 rfl (lv_room (Nat.le_of_ble_eq_true rfl)) dX8_order_17 ⟨Nat.zero_le _, Nat.zero_le _⟩) hP hD hS hA [1, 2, 0] [] rfl rfl rfl (by decide) (fun H locs hP hD hS => ?_)
        have hP : va_P (dC, dI) vwCl [(h_o, .inr (7, [.ref h_o_plans, .ref h_o_makers, .ref h_o_halves, .int o_raised, .ref h_o_all, .ref h_o_text, .ref h_o_saved, .ref h_o_undone, .int o_undos, .int o_reached, .int o_length, .int o_begin, .int o_letters, .int o_sort, .long o_word, .int o_wrongAt, .int o_badAt, .int o_bad, .ref h_o_told, .ref h_o_shift, .int o_firstX, .int o_firstY, .int o_secondX, .int o_secondY, .ref h_o_rootOf, .ref h_o_becomes, .ref h_o_comes, .ref h_o_next, .int o_x])), (h_o_all, .inl (ca 0, 350, .inl o_all_r)), (h_o_shift, .inl (ca 3, 768, .inl o_shift_r))] H := hP
        have hD : va_D A [(h_o, .inr (7, [.ref h_o_plans, .ref h_o_makers, .ref h_o_halves, .int o_raised, .ref h_o_all, .ref h_o_text, .ref h_o_saved, .ref h_o_undone, .int o_undos, .int o_reached, .int o_length, .int o_begin, .int o_letters, .int o_sort, .long o_word, .int o_wrongAt, .int o_badAt, .int o_bad, .ref h_o_told, .ref h_o_shift, .int o_firstX, .int o_firstY, .int o_secondX, .int o_secondY, .ref h_o_rootOf, .ref h_o_becomes, .ref h_o_comes, .ref h_o_next, .int o_x])), (h_o_all, .inl (ca 0, 350, .inl o_all_r)), (h_o_shift, .inl (ca 3, 768, .inl o_shift_r))] := hD
        refine lv_if_le (tgt := 27) hx hb dX8_order_20 (by decide) (fun c_20 => ?_) (fun c_20 => ?_)
        · replace hf := ds_t c_20 hf
          refine lv_iconst (v := 0) hx hb dX8_order_27 (by decide) ?_
          exact h1 (J_28 v2 (0 : Int32) v1 _ hf hG _ _ hP hD hS _ (lv_sub hl [0, 2] rfl))
        · replace hf := ds_f c_20 hf
          refine lv_iconst (v := 1) hx hb dX8_order_23 (by decide) ?_
          refine lv_goto (tgt := 28) hx hb dX8_order_24 (by decide) ?_
          exact h1 (J_28 v2 (1 : Int32) v1 _ hf hG _ _ hP hD hS _ (lv_sub hl [0, 2] rfl))
  unfold fX8_order at hf
  refine lv_iconst (v := 0) hx hb dX8_order_0 (by decide) ?_
  refine lv_istore_n (lv' := [(1, .int (0 : Int32)), (0, .ref h_o)]) hx hb dX8_order_1 rfl hl (by decide) rfl (fun ls hl => ?_)
  refine lv_iconst (v := 0) hx hb dX8_order_2 (by decide) ?_
  refine lv_istore_n (lv' := [(2, .int (0 : Int32)), (1, .int (0 : Int32)), (0, .ref h_o)]) hx hb dX8_order_3 rfl hl (by decide) rfl (fun ls hl => ?_)
  exact h1 (J_4  1000 (0 : Int32) (0 : Int32) _ hf hG _ _ hP hD hS _ (lv_sub hl [2, 1, 0] rfl))
theorem dX8_isFlipThere_0 : decode cX8_isFlipThere 0 = .ok (.aload_n 0, 1) := by decide +kernel
theorem dX8_isFlipThere_1 : decode cX8_isFlipThere 1 = .ok (.iload_n 1, 1) := by decide +kernel
theorem dX8_isFlipThere_2 : decode cX8_isFlipThere 2 = .ok (.invokevirtual 171, 3) := by decide +kernel
theorem dX8_isFlipThere_5 : decode cX8_isFlipThere 5 = .ok (.ifCond .eq 23, 3) := by decide +kernel
theorem dX8_isFlipThere_8 : decode cX8_isFlipThere 8 = .ok (.iload_n 1, 1) := by decide +kernel
theorem dX8_isFlipThere_9 : decode cX8_isFlipThere 9 = .ok (.aload_n 0, 1) := by decide +kernel
theorem dX8_isFlipThere_10 : decode cX8_isFlipThere 10 = .ok (.invokevirtual 62, 3) := by decide +kernel
theorem dX8_isFlipThere_13 : decode cX8_isFlipThere 13 = .ok (.if_icmp .ge 15, 3) := by decide +kernel
theorem dX8_isFlipThere_16 : decode cX8_isFlipThere 16 = .ok (.aload_n 0, 1) := by decide +kernel
theorem dX8_isFlipThere_17 : decode cX8_isFlipThere 17 = .ok (.iload_n 1, 1) := by decide +kernel
theorem dX8_isFlipThere_18 : decode cX8_isFlipThere 18 = .ok (.invokevirtual 167, 3) := by decide +kernel
theorem dX8_isFlipThere_21 : decode cX8_isFlipThere 21 = .ok (.ifCond .le 7, 3) := by decide +kernel
theorem dX8_isFlipThere_24 : decode cX8_isFlipThere 24 = .ok (.iconst 1, 1) := by decide +kernel
theorem dX8_isFlipThere_25 : decode cX8_isFlipThere 25 = .ok (.goto 4, 3) := by decide +kernel
theorem dX8_isFlipThere_28 : decode cX8_isFlipThere 28 = .ok (.iconst 0, 1) := by decide +kernel
theorem dX8_isFlipThere_29 : decode cX8_isFlipThere 29 = .ok (.ireturn, 1) := by decide +kernel
def fX8_isFlipThere (o_all_r : Nat → Int32) (o_shift_r : Nat → Int32) (p1 : Int32) : Option (Int32) :=
  Option.bind (fX8_isFlip o_all_r p1) fun q2 => if q2 = 0 then some (0 : Int32) else Option.bind (fX8_turnings o_all_r) fun q10 => if q10 ≤ p1 then some (0 : Int32) else Option.bind (fX8_shiftsOf o_all_r o_shift_r p1) fun q18 => if q18 ≤ 0 then some (0 : Int32) else some (1 : Int32)
set_option maxHeartbeats 4000000 in
set_option maxRecDepth 100000 in
theorem c_X8_isFlipThere (l : Launch) (dC : Nat → ClassId) (dI : Nat → Nat → Nat) (ca : Nat → ClassId) (sa : Nat → Nat) (h_o : Nat) (h_o_plans : Nat) (h_o_makers : Nat) (h_o_halves : Nat) (h_o_all : Nat) (h_o_text : Nat) (h_o_saved : Nat) (h_o_undone : Nat) (h_o_told : Nat) (h_o_shift : Nat) (h_o_rootOf : Nat) (h_o_becomes : Nat) (h_o_comes : Nat) (h_o_next : Nat) (sz : Nat) (o_raised : Int32) (o_undos : Int32) (o_reached : Int32) (o_length : Int32) (o_begin : Int32) (o_letters : Int32) (o_sort : Int32) (o_word : Int64) (o_wrongAt : Int32) (o_badAt : Int32) (o_bad : Int32) (o_firstX : Int32) (o_firstY : Int32) (o_secondX : Int32) (o_secondY : Int32) (o_x : Int32) (o_all_r : Nat → Int32) (o_shift_r : Nat → Int32) (p1 : Int32) (res : Int32) (hf : fX8_isFlipThere o_all_r o_shift_r p1 = some res) : Met l yX8_isFlipThere (Cond.code yX8_isFlipThere cX8_isFlipThere 2 (some .boolean) :: ds_gw) { frames := 2, cells := 0, slots := 0, locals := 41 } (va_Pc [.ref h_o, .int p1] (ds_Pre dC dI ca sa [(h_o, .inr (7, [.ref h_o_plans, .ref h_o_makers, .ref h_o_halves, .int o_raised, .ref h_o_all, .ref h_o_text, .ref h_o_saved, .ref h_o_undone, .int o_undos, .int o_reached, .int o_length, .int o_begin, .int o_letters, .int o_sort, .long o_word, .int o_wrongAt, .int o_badAt, .int o_bad, .ref h_o_told, .ref h_o_shift, .int o_firstX, .int o_firstY, .int o_secondX, .int o_secondY, .ref h_o_rootOf, .ref h_o_becomes, .ref h_o_comes, .ref h_o_next, .int o_x])), (h_o_all, .inl (ca 0, 350, .inl o_all_r)), (h_o_shift, .inl (ca 3, 768, .inl o_shift_r))] sz)) (va_Qi (fun r (_ : Unit) => r = res) (ds_B dC dI (va_A [(h_o, .inr (7, [.ref h_o_plans, .ref h_o_makers, .ref h_o_halves, .int o_raised, .ref h_o_all, .ref h_o_text, .ref h_o_saved, .ref h_o_undone, .int o_undos, .int o_reached, .int o_length, .int o_begin, .int o_letters, .int o_sort, .long o_word, .int o_wrongAt, .int o_badAt, .int o_bad, .ref h_o_told, .ref h_o_shift, .int o_firstX, .int o_firstY, .int o_secondX, .int o_secondY, .ref h_o_rootOf, .ref h_o_becomes, .ref h_o_comes, .ref h_o_next, .int o_x])), (h_o_all, .inl (ca 0, 350, .inl o_all_r)), (h_o_shift, .inl (ca 3, 768, .inl o_shift_r))] sz) [(h_o, .inr (7, [.ref h_o_plans, .ref h_o_makers, .ref h_o_halves, .int o_raised, .ref h_o_all, .ref h_o_text, .ref h_o_saved, .ref h_o_undone, .int o_undos, .int o_reached, .int o_length, .int o_begin, .int o_letters, .int o_sort, .long o_word, .int o_wrongAt, .int o_badAt, .int o_bad, .ref h_o_told, .ref h_o_shift, .int o_firstX, .int o_firstY, .int o_secondX, .int o_secondY, .ref h_o_rootOf, .ref h_o_becomes, .ref h_o_comes, .ref h_o_next, .int o_x])), (h_o_all, .inl (ca 0, 350, .inl o_all_r)), (h_o_shift, .inl (ca 3, 768, .inl o_shift_r))]) (va_A [(h_o, .inr (7, [.ref h_o_plans, .ref h_o_makers, .ref h_o_halves, .int o_raised, .ref h_o_all, .ref h_o_text, .ref h_o_saved, .ref h_o_undone, .int o_undos, .int o_reached, .int o_length, .int o_begin, .int o_letters, .int o_sort, .long o_word, .int o_wrongAt, .int o_badAt, .int o_bad, .ref h_o_told, .ref h_o_shift, .int o_firstX, .int o_firstY, .int o_secondX, .int o_secondY, .ref h_o_rootOf, .ref h_o_becomes, .ref h_o_comes, .ref h_o_next, .int o_x])), (h_o_all, .inl (ca 0, 350, .inl o_all_r)), (h_o_shift, .inl (ca 3, 768, .inl o_shift_r))] sz)) 0 0 (va_A [(h_o, .inr (7, [.ref h_o_plans, .ref h_o_makers, .ref h_o_halves, .int o_raised, .ref h_o_all, .ref h_o_text, .ref h_o_saved, .ref h_o_undone, .int o_undos, .int o_reached, .int o_length, .int o_begin, .int o_letters, .int o_sort, .long o_word, .int o_wrongAt, .int o_badAt, .int o_bad, .ref h_o_told, .ref h_o_shift, .int o_firstX, .int o_firstY, .int o_secondX, .int o_secondY, .ref h_o_rootOf, .ref h_o_becomes, .ref h_o_comes, .ref h_o_next, .int o_x])), (h_o_all, .inl (ca 0, 350, .inl o_all_r)), (h_o_shift, .inl (ca 3, 768, .inl o_shift_r))] sz) := by
  refine Met.ofW (cc := cX8_isFlipThere) (maxL := 2) (ret := (some .boolean)) (by decide) rfl ?_
  intro p e s m args below meth c s₁ B hml hv
  obtain ⟨rfl, hsz, hP, hK, hD0, hE⟩ := hv
  have hx := B.exec
  have hb := B.bytes
  have hr := B.returns
  have hts := atoms_spec (ws := Cond.code yX8_isFlipThere cX8_isFlipThere 2 (some .boolean) :: ds_gw) B.pre
  have hg : ∀ {w : Cond}, w ∈ ds_gw → w.before _ s = true := fun h => hts _ (List.mem_cons_of_mem _ h)
  have hown : s.vm.findClass RX8 = some m.cls := findClass_of_methodNamed B.named
  have hlocks := B.notSynchronized
  subst hsz
  have hD := hD0.self (sz := s.heap.size)
  generalize hAe : va_A [(h_o, .inr (7, [.ref h_o_plans, .ref h_o_makers, .ref h_o_halves, .int o_raised, .ref h_o_all, .ref h_o_text, .ref h_o_saved, .ref h_o_undone, .int o_undos, .int o_reached, .int o_length, .int o_begin, .int o_letters, .int o_sort, .long o_word, .int o_wrongAt, .int o_badAt, .int o_bad, .ref h_o_told, .ref h_o_shift, .int o_firstX, .int o_firstY, .int o_secondX, .int o_secondY, .ref h_o_rootOf, .ref h_o_becomes, .ref h_o_comes, .ref h_o_next, .int o_x])), (h_o_all, .inl (ca 0, 350, .inl o_all_r)), (h_o_shift, .inl (ca 3, 768, .inl o_shift_r))] s.heap.size = A at hD hE ⊢
  have hA : ∀ q : Nat, s.heap.size ≤ q → A q := fun q h => by rw [← hAe]; exact Or.inr h
  have hS : va_S A s.heap s.heap [] := va_S.rf
  have hl := lv_entry ([.ref h_o, .int p1]) (n := 2) (Nat.le_of_ble_eq_true rfl)
  rw [lg_entry_eq]
  generalize (lg_sl ([.ref h_o, .int p1]) ++ List.replicate (2 - (lg_sl ([.ref h_o, .int p1])).length) Slot.unset).toArray = ls at hl ⊢
  have hl : lv_has ls 2 [(0, .ref h_o), (1, .int p1)] := hl
  obtain ⟨G0, eG0⟩ : ∃ G : Int32 → Prop, G = (fun r => r = res) := ⟨_, rfl⟩
  obtain ⟨rr, hrr⟩ : ∃ z, z = res := ⟨_, rfl⟩
  rw [← hrr] at hf
  have hG : G0 rr := by subst eG0; exact hrr
  unfold fX8_isFlipThere at hf
  refine lv_aload_n hx hb dX8_isFlipThere_0 rfl (lv_at hl 0 rfl) ?_
  refine lv_iload_n hx hb dX8_isFlipThere_1 rfl (lv_at hl 1 rfl) ?_
  obtain ⟨q2, hq2, hf⟩ := ds_ob hf
  refine ds_calli (wr := [(h_o_shift, .inl (ca 3, 768, .inl o_shift_r))]) (va_runV (As := [.int p1]) (rest := []) ⟨hx, hb, hml, hown, hts⟩ (c_X8_isFlip l dC dI ca sa h_o h_o_plans h_o_makers h_o_halves h_o_all h_o_text h_o_saved h_o_undone h_o_told h_o_shift h_o_rootOf h_o_becomes h_o_comes h_o_next s.heap.size o_raised o_undos o_reached o_length o_begin o_letters o_sort o_word o_wrongAt o_badAt o_bad o_firstX o_firstY o_secondX o_secondY o_x o_all_r p1 q2 hq2) (cwV 1 hts (ds_gV kw_691 kw_692 kw_693 kw_597 kw_694) rfl rfl rfl (by decide +kernel) ⟨Nat.le_of_ble_eq_true rfl, Nat.le_of_ble_eq_true rfl⟩) ⟨ds_blind, va_recv hK hP (ci := 7) (q0 := 0) rfl rfl, ds_at hP hD hK hE hS hA [0, 1] rfl rfl _⟩ rfl rfl hl.1 rfl (lv_room (Nat.le_of_ble_eq_true rfl)) dX8_isFlipThere_2 ⟨Nat.zero_le _, Nat.zero_le _⟩) hP hD hS hA [0, 1] [2] rfl rfl rfl (by decide) (fun H locs hP hD hS => ?_)
  have hP : va_P (dC, dI) vwCl [(h_o_shift, .inl (ca 3, 768, .inl o_shift_r)), (h_o, .inr (7, [.ref h_o_plans, .ref h_o_makers, .ref h_o_halves, .int o_raised, .ref h_o_all, .ref h_o_text, .ref h_o_saved, .ref h_o_undone, .int o_undos, .int o_reached, .int o_length, .int o_begin, .int o_letters, .int o_sort, .long o_word, .int o_wrongAt, .int o_badAt, .int o_bad, .ref h_o_told, .ref h_o_shift, .int o_firstX, .int o_firstY, .int o_secondX, .int o_secondY, .ref h_o_rootOf, .ref h_o_becomes, .ref h_o_comes, .ref h_o_next, .int o_x])), (h_o_all, .inl (ca 0, 350, .inl o_all_r))] H := hP
  have hD : va_D A [(h_o_shift, .inl (ca 3, 768, .inl o_shift_r)), (h_o, .inr (7, [.ref h_o_plans, .ref h_o_makers, .ref h_o_halves, .int o_raised, .ref h_o_all, .ref h_o_text, .ref h_o_saved, .ref h_o_undone, .int o_undos, .int o_reached, .int o_length, .int o_begin, .int o_letters, .int o_sort, .long o_word, .int o_wrongAt, .int o_badAt, .int o_bad, .ref h_o_told, .ref h_o_shift, .int o_firstX, .int o_firstY, .int o_secondX, .int o_secondY, .ref h_o_rootOf, .ref h_o_becomes, .ref h_o_comes, .ref h_o_next, .int o_x])), (h_o_all, .inl (ca 0, 350, .inl o_all_r))] := hD
  refine lv_if_eq (tgt := 28) hx hb dX8_isFlipThere_5 (by decide) (fun c_5 => ?_) (fun c_5 => ?_)
  · replace hf := ds_t c_5 hf
    refine lv_iconst (v := 0) hx hb dX8_isFlipThere_28 (by decide) ?_
    have hf := Option.some.inj hf
    subst hf
    rw [eG0] at hG
    have hG : _ = res := hG
    subst hG
    exact W.zret (v := (0 : Int32)) (ty := .boolean) hx hb hr rfl (fun t ht hW => ⟨⟨(0 : Int32), (), rfl, rfl, by rw [ht]; exact (hP.sub [1, 2, 0] rfl), (hD.sub [1, 2, 0] rfl rfl)⟩, hS.F ht⟩) hS.2.2 dX8_isFlipThere_29
  · replace hf := ds_f c_5 hf
    refine lv_iload_n hx hb dX8_isFlipThere_8 rfl (lv_at hl 1 rfl) ?_
    refine lv_aload_n hx hb dX8_isFlipThere_9 rfl (lv_at hl 0 rfl) ?_
    obtain ⟨q10, hq10, hf⟩ := ds_ob hf
    refine ds_calli (wr := [(h_o_shift, .inl (ca 3, 768, .inl o_shift_r))]) (va_runV (As := []) (rest := [.int p1]) ⟨hx, hb, hml, hown, hts⟩ (c_X8_turnings l dC dI ca sa h_o h_o_plans h_o_makers h_o_halves h_o_all h_o_text h_o_saved h_o_undone h_o_told h_o_shift h_o_rootOf h_o_becomes h_o_comes h_o_next H.size o_raised o_undos o_reached o_length o_begin o_letters o_sort o_word o_wrongAt o_badAt o_bad o_firstX o_firstY o_secondX o_secondY o_x o_all_r  q10 hq10) (cwV 0 hts (ds_gV kw_604 kw_605 kw_606 kw_597 kw_607) rfl rfl rfl (by decide +kernel) ⟨Nat.le_of_ble_eq_true rfl, Nat.le_of_ble_eq_true rfl⟩) ⟨ds_blind, va_recv hK hP (ci := 7) (q0 := 1) rfl rfl, ds_at hP hD hK hE hS hA [1, 2] rfl rfl _⟩ rfl rfl hl.1 rfl (lv_room (Nat.le_of_ble_eq_true rfl)) dX8_isFlipThere_10 ⟨Nat.zero_le _, Nat.zero_le _⟩) hP hD hS hA [1, 2] [0] rfl rfl rfl (by decide) (fun H locs hP hD hS => ?_)
    have hP : va_P (dC, dI) vwCl [(h_o_shift, .inl (ca 3, 768, .inl o_shift_r)), (h_o, .inr (7, [.ref h_o_plans, .ref h_o_makers, .ref h_o_halves, .int o_raised, .ref h_o_all, .ref h_o_text, .ref h_o_saved, .ref h_o_undone, .int o_undos, .int o_reached, .int o_length, .int o_begin, .int o_letters, .int o_sort, .long o_word, .int o_wrongAt, .int o_badAt, .int o_bad, .ref h_o_told, .ref h_o_shift, .int o_firstX, .int o_firstY, .int o_secondX, .int o_secondY, .ref h_o_rootOf, .ref h_o_becomes, .ref h_o_comes, .ref h_o_next, .int o_x])), (h_o_all, .inl (ca 0, 350, .inl o_all_r))] H := hP
    have hD : va_D A [(h_o_shift, .inl (ca 3, 768, .inl o_shift_r)), (h_o, .inr (7, [.ref h_o_plans, .ref h_o_makers, .ref h_o_halves, .int o_raised, .ref h_o_all, .ref h_o_text, .ref h_o_saved, .ref h_o_undone, .int o_undos, .int o_reached, .int o_length, .int o_begin, .int o_letters, .int o_sort, .long o_word, .int o_wrongAt, .int o_badAt, .int o_bad, .ref h_o_told, .ref h_o_shift, .int o_firstX, .int o_firstY, .int o_secondX, .int o_secondY, .ref h_o_rootOf, .ref h_o_becomes, .ref h_o_comes, .ref h_o_next, .int o_x])), (h_o_all, .inl (ca 0, 350, .inl o_all_r))] := hD
    refine lv_icmp_ge (tgt := 28) hx hb dX8_isFlipThere_13 (by decide) (fun c_13 => ?_) (fun c_13 => ?_)
    · replace hf := ds_t c_13 hf
      refine lv_iconst (v := 0) hx hb dX8_isFlipThere_28 (by decide) ?_
      have hf := Option.some.inj hf
      subst hf
      rw [eG0] at hG
      have hG : _ = res := hG
      subst hG
      exact W.zret (v := (0 : Int32)) (ty := .boolean) hx hb hr rfl (fun t ht hW => ⟨⟨(0 : Int32), (), rfl, rfl, by rw [ht]; exact (hP.sub [1, 2, 0] rfl), (hD.sub [1, 2, 0] rfl rfl)⟩, hS.F ht⟩) hS.2.2 dX8_isFlipThere_29
    · replace hf := ds_f c_13 hf
      refine lv_aload_n hx hb dX8_isFlipThere_16 rfl (lv_at hl 0 rfl) ?_
      refine lv_iload_n hx hb dX8_isFlipThere_17 rfl (lv_at hl 1 rfl) ?_
      obtain ⟨q18, hq18, hf⟩ := ds_ob hf
      refine ds_calli (wr := []) (va_runV (As := [.int p1]) (rest := []) ⟨hx, hb, hml, hown, hts⟩ (c_X8_shiftsOf l dC dI ca sa h_o h_o_plans h_o_makers h_o_halves h_o_all h_o_text h_o_saved h_o_undone h_o_told h_o_shift h_o_rootOf h_o_becomes h_o_comes h_o_next H.size o_raised o_undos o_reached o_length o_begin o_letters o_sort o_word o_wrongAt o_badAt o_bad o_firstX o_firstY o_secondX o_secondY o_x o_all_r o_shift_r p1 q18 hq18) (cwV 1 hts (ds_gV kw_687 kw_688 kw_689 kw_597 kw_690) rfl rfl rfl (by decide +kernel) ⟨Nat.le_of_ble_eq_true rfl, Nat.le_of_ble_eq_true rfl⟩) ⟨ds_blind, va_recv hK hP (ci := 7) (q0 := 1) rfl rfl, ds_at hP hD hK hE hS hA [1, 2, 0] rfl rfl _⟩ rfl rfl hl.1 rfl (lv_room (Nat.le_of_ble_eq_true rfl)) dX8_isFlipThere_18 ⟨Nat.zero_le _, Nat.zero_le _⟩) hP hD hS hA [1, 2, 0] [] rfl rfl rfl (by decide) (fun H locs hP hD hS => ?_)
      have hP : va_P (dC, dI) vwCl [(h_o, .inr (7, [.ref h_o_plans, .ref h_o_makers, .ref h_o_halves, .int o_raised, .ref h_o_all, .ref h_o_text, .ref h_o_saved, .ref h_o_undone, .int o_undos, .int o_reached, .int o_length, .int o_begin, .int o_letters, .int o_sort, .long o_word, .int o_wrongAt, .int o_badAt, .int o_bad, .ref h_o_told, .ref h_o_shift, .int o_firstX, .int o_firstY, .int o_secondX, .int o_secondY, .ref h_o_rootOf, .ref h_o_becomes, .ref h_o_comes, .ref h_o_next, .int o_x])), (h_o_all, .inl (ca 0, 350, .inl o_all_r)), (h_o_shift, .inl (ca 3, 768, .inl o_shift_r))] H := hP
      have hD : va_D A [(h_o, .inr (7, [.ref h_o_plans, .ref h_o_makers, .ref h_o_halves, .int o_raised, .ref h_o_all, .ref h_o_text, .ref h_o_saved, .ref h_o_undone, .int o_undos, .int o_reached, .int o_length, .int o_begin, .int o_letters, .int o_sort, .long o_word, .int o_wrongAt, .int o_badAt, .int o_bad, .ref h_o_told, .ref h_o_shift, .int o_firstX, .int o_firstY, .int o_secondX, .int o_secondY, .ref h_o_rootOf, .ref h_o_becomes, .ref h_o_comes, .ref h_o_next, .int o_x])), (h_o_all, .inl (ca 0, 350, .inl o_all_r)), (h_o_shift, .inl (ca 3, 768, .inl o_shift_r))] := hD
      refine lv_if_le (tgt := 28) hx hb dX8_isFlipThere_21 (by decide) (fun c_21 => ?_) (fun c_21 => ?_)
      · replace hf := ds_t c_21 hf
        refine lv_iconst (v := 0) hx hb dX8_isFlipThere_28 (by decide) ?_
        have hf := Option.some.inj hf
        subst hf
        rw [eG0] at hG
        have hG : _ = res := hG
        subst hG
        exact W.zret (v := (0 : Int32)) (ty := .boolean) hx hb hr rfl (fun t ht hW => ⟨⟨(0 : Int32), (), rfl, rfl, by rw [ht]; exact hP, hD⟩, hS.F ht⟩) hS.2.2 dX8_isFlipThere_29
      · replace hf := ds_f c_21 hf
        refine lv_iconst (v := 1) hx hb dX8_isFlipThere_24 (by decide) ?_
        refine lv_goto (tgt := 29) hx hb dX8_isFlipThere_25 (by decide) ?_
        have hf := Option.some.inj hf
        subst hf
        rw [eG0] at hG
        have hG : _ = res := hG
        subst hG
        exact W.zret (v := (1 : Int32)) (ty := .boolean) hx hb hr rfl (fun t ht hW => ⟨⟨(1 : Int32), (), rfl, rfl, by rw [ht]; exact hP, hD⟩, hS.F ht⟩) hS.2.2 dX8_isFlipThere_29
theorem dX8_isMirror_0 : decode cX8_isMirror 0 = .ok (.bipush (-2), 2) := by decide +kernel
theorem dX8_isMirror_2 : decode cX8_isMirror 2 = .ok (.istore_n 2, 1) := by decide +kernel
theorem dX8_isMirror_3 : decode cX8_isMirror 3 = .ok (.iload_n 2, 1) := by decide +kernel
theorem dX8_isMirror_4 : decode cX8_isMirror 4 = .ok (.iconst 2, 1) := by decide +kernel
theorem dX8_isMirror_5 : decode cX8_isMirror 5 = .ok (.if_icmp .gt 101, 3) := by decide +kernel
theorem dX8_isMirror_8 : decode cX8_isMirror 8 = .ok (.bipush (-2), 2) := by decide +kernel
theorem dX8_isMirror_10 : decode cX8_isMirror 10 = .ok (.istore_n 3, 1) := by decide +kernel
theorem dX8_isMirror_11 : decode cX8_isMirror 11 = .ok (.iload_n 3, 1) := by decide +kernel
theorem dX8_isMirror_12 : decode cX8_isMirror 12 = .ok (.iconst 2, 1) := by decide +kernel
theorem dX8_isMirror_13 : decode cX8_isMirror 13 = .ok (.if_icmp .gt 87, 3) := by decide +kernel
theorem dX8_isMirror_16 : decode cX8_isMirror 16 = .ok (.aload_n 0, 1) := by decide +kernel
theorem dX8_isMirror_17 : decode cX8_isMirror 17 = .ok (.iload_n 1, 1) := by decide +kernel
theorem dX8_isMirror_18 : decode cX8_isMirror 18 = .ok (.iload_n 2, 1) := by decide +kernel
theorem dX8_isMirror_19 : decode cX8_isMirror 19 = .ok (.iload_n 3, 1) := by decide +kernel
theorem dX8_isMirror_20 : decode cX8_isMirror 20 = .ok (.invokevirtual 130, 3) := by decide +kernel
theorem dX8_isMirror_23 : decode cX8_isMirror 23 = .ok (.iload_n 2, 1) := by decide +kernel
theorem dX8_isMirror_24 : decode cX8_isMirror 24 = .ok (.ineg, 1) := by decide +kernel
theorem dX8_isMirror_25 : decode cX8_isMirror 25 = .ok (.if_icmp .ne 27, 3) := by decide +kernel
theorem dX8_isMirror_28 : decode cX8_isMirror 28 = .ok (.aload_n 0, 1) := by decide +kernel
theorem dX8_isMirror_29 : decode cX8_isMirror 29 = .ok (.iload_n 1, 1) := by decide +kernel
theorem dX8_isMirror_30 : decode cX8_isMirror 30 = .ok (.iload_n 2, 1) := by decide +kernel
theorem dX8_isMirror_31 : decode cX8_isMirror 31 = .ok (.iload_n 3, 1) := by decide +kernel
theorem dX8_isMirror_32 : decode cX8_isMirror 32 = .ok (.invokevirtual 134, 3) := by decide +kernel
theorem dX8_isMirror_35 : decode cX8_isMirror 35 = .ok (.iload_n 3, 1) := by decide +kernel
theorem dX8_isMirror_36 : decode cX8_isMirror 36 = .ok (.ineg, 1) := by decide +kernel
theorem dX8_isMirror_37 : decode cX8_isMirror 37 = .ok (.if_icmp .ne 15, 3) := by decide +kernel
theorem dX8_isMirror_40 : decode cX8_isMirror 40 = .ok (.iload_n 2, 1) := by decide +kernel
theorem dX8_isMirror_41 : decode cX8_isMirror 41 = .ok (.ifCond .ne 7, 3) := by decide +kernel
theorem dX8_isMirror_44 : decode cX8_isMirror 44 = .ok (.iload_n 3, 1) := by decide +kernel
theorem dX8_isMirror_45 : decode cX8_isMirror 45 = .ok (.ifCond .eq 7, 3) := by decide +kernel
theorem dX8_isMirror_48 : decode cX8_isMirror 48 = .ok (.iconst 1, 1) := by decide +kernel
theorem dX8_isMirror_49 : decode cX8_isMirror 49 = .ok (.goto 4, 3) := by decide +kernel
theorem dX8_isMirror_52 : decode cX8_isMirror 52 = .ok (.iconst 0, 1) := by decide +kernel
theorem dX8_isMirror_53 : decode cX8_isMirror 53 = .ok (.istore 4, 2) := by decide +kernel
theorem dX8_isMirror_55 : decode cX8_isMirror 55 = .ok (.iconst 0, 1) := by decide +kernel
theorem dX8_isMirror_56 : decode cX8_isMirror 56 = .ok (.istore 5, 2) := by decide +kernel
theorem dX8_isMirror_58 : decode cX8_isMirror 58 = .ok (.iload 5, 2) := by decide +kernel
theorem dX8_isMirror_60 : decode cX8_isMirror 60 = .ok (.bipush 56, 2) := by decide +kernel
theorem dX8_isMirror_62 : decode cX8_isMirror 62 = .ok (.if_icmp .ge 32, 3) := by decide +kernel
theorem dX8_isMirror_65 : decode cX8_isMirror 65 = .ok (.iload 4, 2) := by decide +kernel
theorem dX8_isMirror_67 : decode cX8_isMirror 67 = .ok (.ifCond .eq 27, 3) := by decide +kernel
theorem dX8_isMirror_70 : decode cX8_isMirror 70 = .ok (.aload_n 0, 1) := by decide +kernel
theorem dX8_isMirror_71 : decode cX8_isMirror 71 = .ok (.iload_n 1, 1) := by decide +kernel
theorem dX8_isMirror_72 : decode cX8_isMirror 72 = .ok (.iload 5, 2) := by decide +kernel
theorem dX8_isMirror_74 : decode cX8_isMirror 74 = .ok (.iload_n 2, 1) := by decide +kernel
theorem dX8_isMirror_75 : decode cX8_isMirror 75 = .ok (.imul, 1) := by decide +kernel
theorem dX8_isMirror_76 : decode cX8_isMirror 76 = .ok (.iload 5, 2) := by decide +kernel
theorem dX8_isMirror_78 : decode cX8_isMirror 78 = .ok (.iload_n 3, 1) := by decide +kernel
theorem dX8_isMirror_79 : decode cX8_isMirror 79 = .ok (.imul, 1) := by decide +kernel
theorem dX8_isMirror_80 : decode cX8_isMirror 80 = .ok (.invokevirtual 174, 3) := by decide +kernel
theorem dX8_isMirror_83 : decode cX8_isMirror 83 = .ok (.ifCond .eq 5, 3) := by decide +kernel
theorem dX8_isMirror_86 : decode cX8_isMirror 86 = .ok (.iconst 1, 1) := by decide +kernel
theorem dX8_isMirror_87 : decode cX8_isMirror 87 = .ok (.ireturn, 1) := by decide +kernel
theorem dX8_isMirror_88 : decode cX8_isMirror 88 = .ok (.iinc 5 1, 3) := by decide +kernel
theorem dX8_isMirror_91 : decode cX8_isMirror 91 = .ok (.goto (-33), 3) := by decide +kernel
theorem dX8_isMirror_94 : decode cX8_isMirror 94 = .ok (.iinc 3 1, 3) := by decide +kernel
theorem dX8_isMirror_97 : decode cX8_isMirror 97 = .ok (.goto (-86), 3) := by decide +kernel
theorem dX8_isMirror_100 : decode cX8_isMirror 100 = .ok (.iinc 2 1, 3) := by decide +kernel
theorem dX8_isMirror_103 : decode cX8_isMirror 103 = .ok (.goto (-100), 3) := by decide +kernel
theorem dX8_isMirror_106 : decode cX8_isMirror 106 = .ok (.iconst 0, 1) := by decide +kernel
theorem dX8_isMirror_107 : decode cX8_isMirror 107 = .ok (.ireturn, 1) := by decide +kernel
def fX8_isMirror_100 (v2 : Int32) : Option ((Int32) ⊕ (Int32)) :=
  some (.inl (v2 + 1))
def fX8_isMirror_94 (v3 : Int32) : Option ((Int32) ⊕ ((Int32) ⊕ (Int32))) :=
  some (.inl (v3 + 1))
def fX8_isMirror_58_b (o_all_r : Nat → Int32) (o_shift_r : Nat → Int32) (p1 : Int32) (v2 : Int32) (v3 : Int32) (v4 : Int32) (v5 : Int32) : Option ((Int32) ⊕ ((Int32) ⊕ ((Int32) ⊕ (Int32)))) :=
  if (56 : Int32) ≤ v5 then Option.bind (fX8_isMirror_94 v3) fun z => some (.inr z) else if v4 = 0 then Option.bind (fX8_isMirror_94 v3) fun z => some (.inr z) else Option.bind (fX8_isShiftOf o_all_r o_shift_r p1 (v5 * v2) (v5 * v3)) fun q80 => if q80 = 0 then some (.inl (v5 + 1)) else some (.inr (.inr (.inr (1 : Int32))))
def fX8_isMirror_58 (o_all_r : Nat → Int32) (o_shift_r : Nat → Int32) (p1 : Int32) (v2 : Int32) (v3 : Int32) (v4 : Int32) (v5 : Int32) : Option ((Int32) ⊕ ((Int32) ⊕ (Int32))) := ds_it (fun s => fX8_isMirror_58_b o_all_r o_shift_r p1 v2 v3 v4 s) 1000 v5
def fX8_isMirror_53 (o_all_r : Nat → Int32) (o_shift_r : Nat → Int32) (p1 : Int32) (v2 : Int32) (v3 : Int32) (s0 : Int32) : Option ((Int32) ⊕ ((Int32) ⊕ (Int32))) :=
  fX8_isMirror_58 o_all_r o_shift_r p1 v2 v3 s0 (0 : Int32)
def fX8_isMirror_52 (o_all_r : Nat → Int32) (o_shift_r : Nat → Int32) (p1 : Int32) (v2 : Int32) (v3 : Int32) : Option ((Int32) ⊕ ((Int32) ⊕ (Int32))) :=
  fX8_isMirror_53 o_all_r o_shift_r p1 v2 v3 (0 : Int32)
def fX8_isMirror_48 (o_all_r : Nat → Int32) (o_shift_r : Nat → Int32) (p1 : Int32) (v2 : Int32) (v3 : Int32) : Option ((Int32) ⊕ ((Int32) ⊕ (Int32))) :=
  fX8_isMirror_53 o_all_r o_shift_r p1 v2 v3 (1 : Int32)
def fX8_isMirror_11_b (o_all_r : Nat → Int32) (o_plans_r : Nat → Int32) (o_shift_r : Nat → Int32) (p1 : Int32) (v2 : Int32) (v3 : Int32) : Option ((Int32) ⊕ ((Int32) ⊕ (Int32))) :=
  if (2 : Int32) < v3 then Option.bind (fX8_isMirror_100 v2) fun z => some (.inr z) else Option.bind (fX8_turnX o_all_r o_plans_r p1 v2 v3) fun q20 => if q20 = (-v2) then Option.bind (fX8_turnY o_all_r o_plans_r p1 v2 v3) fun q32 => if q32 = (-v3) then if v2 = 0 then if v3 = 0 then fX8_isMirror_52 o_all_r o_shift_r p1 v2 v3 else fX8_isMirror_48 o_all_r o_shift_r p1 v2 v3 else fX8_isMirror_48 o_all_r o_shift_r p1 v2 v3 else fX8_isMirror_52 o_all_r o_shift_r p1 v2 v3 else fX8_isMirror_52 o_all_r o_shift_r p1 v2 v3
def fX8_isMirror_11 (o_all_r : Nat → Int32) (o_plans_r : Nat → Int32) (o_shift_r : Nat → Int32) (p1 : Int32) (v2 : Int32) (v3 : Int32) : Option ((Int32) ⊕ (Int32)) := ds_it (fun s => fX8_isMirror_11_b o_all_r o_plans_r o_shift_r p1 v2 s) 1000 v3
def fX8_isMirror_3_b (o_all_r : Nat → Int32) (o_plans_r : Nat → Int32) (o_shift_r : Nat → Int32) (p1 : Int32) (v2 : Int32) : Option ((Int32) ⊕ (Int32)) :=
  if (2 : Int32) < v2 then some (.inr (0 : Int32)) else fX8_isMirror_11 o_all_r o_plans_r o_shift_r p1 v2 (-2 : Int32)
def fX8_isMirror_3 (o_all_r : Nat → Int32) (o_plans_r : Nat → Int32) (o_shift_r : Nat → Int32) (p1 : Int32) (v2 : Int32) : Option (Int32) := ds_it (fun s => fX8_isMirror_3_b o_all_r o_plans_r o_shift_r p1 s) 1000 v2
def fX8_isMirror (o_all_r : Nat → Int32) (o_plans_r : Nat → Int32) (o_shift_r : Nat → Int32) (p1 : Int32) : Option (Int32) :=
  fX8_isMirror_3 o_all_r o_plans_r o_shift_r p1 (-2 : Int32)
set_option maxHeartbeats 4000000 in
set_option maxRecDepth 100000 in
theorem c_X8_isMirror (l : Launch) (dC : Nat → ClassId) (dI : Nat → Nat → Nat) (ca : Nat → ClassId) (sa : Nat → Nat) (h_o : Nat) (h_o_plans : Nat) (h_o_makers : Nat) (h_o_halves : Nat) (h_o_all : Nat) (h_o_text : Nat) (h_o_saved : Nat) (h_o_undone : Nat) (h_o_told : Nat) (h_o_shift : Nat) (h_o_rootOf : Nat) (h_o_becomes : Nat) (h_o_comes : Nat) (h_o_next : Nat) (sz : Nat) (o_raised : Int32) (o_undos : Int32) (o_reached : Int32) (o_length : Int32) (o_begin : Int32) (o_letters : Int32) (o_sort : Int32) (o_word : Int64) (o_wrongAt : Int32) (o_badAt : Int32) (o_bad : Int32) (o_firstX : Int32) (o_firstY : Int32) (o_secondX : Int32) (o_secondY : Int32) (o_x : Int32) (o_all_r : Nat → Int32) (o_plans_r : Nat → Int32) (o_shift_r : Nat → Int32) (p1 : Int32) (res : Int32) (hf : fX8_isMirror o_all_r o_plans_r o_shift_r p1 = some res) : Met l yX8_isMirror (Cond.code yX8_isMirror cX8_isMirror 6 (some .boolean) :: ds_gw) { frames := 3, cells := 0, slots := 0, locals := 67 } (va_Pc [.ref h_o, .int p1] (ds_Pre dC dI ca sa [(h_o, .inr (7, [.ref h_o_plans, .ref h_o_makers, .ref h_o_halves, .int o_raised, .ref h_o_all, .ref h_o_text, .ref h_o_saved, .ref h_o_undone, .int o_undos, .int o_reached, .int o_length, .int o_begin, .int o_letters, .int o_sort, .long o_word, .int o_wrongAt, .int o_badAt, .int o_bad, .ref h_o_told, .ref h_o_shift, .int o_firstX, .int o_firstY, .int o_secondX, .int o_secondY, .ref h_o_rootOf, .ref h_o_becomes, .ref h_o_comes, .ref h_o_next, .int o_x])), (h_o_all, .inl (ca 0, 350, .inl o_all_r)), (h_o_plans, .inl (ca 0, 80, .inl o_plans_r)), (h_o_shift, .inl (ca 3, 768, .inl o_shift_r))] sz)) (va_Qi (fun r (_ : Unit) => r = res) (ds_B dC dI (va_A [(h_o, .inr (7, [.ref h_o_plans, .ref h_o_makers, .ref h_o_halves, .int o_raised, .ref h_o_all, .ref h_o_text, .ref h_o_saved, .ref h_o_undone, .int o_undos, .int o_reached, .int o_length, .int o_begin, .int o_letters, .int o_sort, .long o_word, .int o_wrongAt, .int o_badAt, .int o_bad, .ref h_o_told, .ref h_o_shift, .int o_firstX, .int o_firstY, .int o_secondX, .int o_secondY, .ref h_o_rootOf, .ref h_o_becomes, .ref h_o_comes, .ref h_o_next, .int o_x])), (h_o_all, .inl (ca 0, 350, .inl o_all_r)), (h_o_plans, .inl (ca 0, 80, .inl o_plans_r)), (h_o_shift, .inl (ca 3, 768, .inl o_shift_r))] sz) [(h_o, .inr (7, [.ref h_o_plans, .ref h_o_makers, .ref h_o_halves, .int o_raised, .ref h_o_all, .ref h_o_text, .ref h_o_saved, .ref h_o_undone, .int o_undos, .int o_reached, .int o_length, .int o_begin, .int o_letters, .int o_sort, .long o_word, .int o_wrongAt, .int o_badAt, .int o_bad, .ref h_o_told, .ref h_o_shift, .int o_firstX, .int o_firstY, .int o_secondX, .int o_secondY, .ref h_o_rootOf, .ref h_o_becomes, .ref h_o_comes, .ref h_o_next, .int o_x])), (h_o_all, .inl (ca 0, 350, .inl o_all_r)), (h_o_plans, .inl (ca 0, 80, .inl o_plans_r)), (h_o_shift, .inl (ca 3, 768, .inl o_shift_r))]) (va_A [(h_o, .inr (7, [.ref h_o_plans, .ref h_o_makers, .ref h_o_halves, .int o_raised, .ref h_o_all, .ref h_o_text, .ref h_o_saved, .ref h_o_undone, .int o_undos, .int o_reached, .int o_length, .int o_begin, .int o_letters, .int o_sort, .long o_word, .int o_wrongAt, .int o_badAt, .int o_bad, .ref h_o_told, .ref h_o_shift, .int o_firstX, .int o_firstY, .int o_secondX, .int o_secondY, .ref h_o_rootOf, .ref h_o_becomes, .ref h_o_comes, .ref h_o_next, .int o_x])), (h_o_all, .inl (ca 0, 350, .inl o_all_r)), (h_o_plans, .inl (ca 0, 80, .inl o_plans_r)), (h_o_shift, .inl (ca 3, 768, .inl o_shift_r))] sz)) 0 0 (va_A [(h_o, .inr (7, [.ref h_o_plans, .ref h_o_makers, .ref h_o_halves, .int o_raised, .ref h_o_all, .ref h_o_text, .ref h_o_saved, .ref h_o_undone, .int o_undos, .int o_reached, .int o_length, .int o_begin, .int o_letters, .int o_sort, .long o_word, .int o_wrongAt, .int o_badAt, .int o_bad, .ref h_o_told, .ref h_o_shift, .int o_firstX, .int o_firstY, .int o_secondX, .int o_secondY, .ref h_o_rootOf, .ref h_o_becomes, .ref h_o_comes, .ref h_o_next, .int o_x])), (h_o_all, .inl (ca 0, 350, .inl o_all_r)), (h_o_plans, .inl (ca 0, 80, .inl o_plans_r)), (h_o_shift, .inl (ca 3, 768, .inl o_shift_r))] sz) := by
  refine Met.ofW (cc := cX8_isMirror) (maxL := 6) (ret := (some .boolean)) (by decide) rfl ?_
  intro p e s m args below meth c s₁ B hml hv
  obtain ⟨rfl, hsz, hP, hK, hD0, hE⟩ := hv
  have hx := B.exec
  have hb := B.bytes
  have hr := B.returns
  have hts := atoms_spec (ws := Cond.code yX8_isMirror cX8_isMirror 6 (some .boolean) :: ds_gw) B.pre
  have hg : ∀ {w : Cond}, w ∈ ds_gw → w.before _ s = true := fun h => hts _ (List.mem_cons_of_mem _ h)
  have hown : s.vm.findClass RX8 = some m.cls := findClass_of_methodNamed B.named
  have hlocks := B.notSynchronized
  subst hsz
  have hD := hD0.self (sz := s.heap.size)
  generalize hAe : va_A [(h_o, .inr (7, [.ref h_o_plans, .ref h_o_makers, .ref h_o_halves, .int o_raised, .ref h_o_all, .ref h_o_text, .ref h_o_saved, .ref h_o_undone, .int o_undos, .int o_reached, .int o_length, .int o_begin, .int o_letters, .int o_sort, .long o_word, .int o_wrongAt, .int o_badAt, .int o_bad, .ref h_o_told, .ref h_o_shift, .int o_firstX, .int o_firstY, .int o_secondX, .int o_secondY, .ref h_o_rootOf, .ref h_o_becomes, .ref h_o_comes, .ref h_o_next, .int o_x])), (h_o_all, .inl (ca 0, 350, .inl o_all_r)), (h_o_plans, .inl (ca 0, 80, .inl o_plans_r)), (h_o_shift, .inl (ca 3, 768, .inl o_shift_r))] s.heap.size = A at hD hE ⊢
  have hA : ∀ q : Nat, s.heap.size ≤ q → A q := fun q h => by rw [← hAe]; exact Or.inr h
  have hS : va_S A s.heap s.heap [] := va_S.rf
  have hl := lv_entry ([.ref h_o, .int p1]) (n := 6) (Nat.le_of_ble_eq_true rfl)
  rw [lg_entry_eq]
  generalize (lg_sl ([.ref h_o, .int p1]) ++ List.replicate (6 - (lg_sl ([.ref h_o, .int p1])).length) Slot.unset).toArray = ls at hl ⊢
  have hl : lv_has ls 6 [(0, .ref h_o), (1, .int p1)] := hl
  obtain ⟨G0, eG0⟩ : ∃ G : Int32 → Prop, G = (fun r => r = res) := ⟨_, rfl⟩
  obtain ⟨rr, hrr⟩ : ∃ z, z = res := ⟨_, rfl⟩
  rw [← hrr] at hf
  have hG : G0 rr := by subst eG0; exact hrr
  refine ds_cap (fun WW h1 h2 => ?_)
  have J_3 : ∀ (n : Nat) (v2 : Int32) (rr : Int32) (hf : ds_it (fun s => fX8_isMirror_3_b o_all_r o_plans_r o_shift_r p1 s) n v2 = some rr) (hG : G0 rr) (H : Heap) (locs : List Loc) (hP : va_P (dC, dI) vwCl [(h_o, .inr (7, [.ref h_o_plans, .ref h_o_makers, .ref h_o_halves, .int o_raised, .ref h_o_all, .ref h_o_text, .ref h_o_saved, .ref h_o_undone, .int o_undos, .int o_reached, .int o_length, .int o_begin, .int o_letters, .int o_sort, .long o_word, .int o_wrongAt, .int o_badAt, .int o_bad, .ref h_o_told, .ref h_o_shift, .int o_firstX, .int o_firstY, .int o_secondX, .int o_secondY, .ref h_o_rootOf, .ref h_o_becomes, .ref h_o_comes, .ref h_o_next, .int o_x])), (h_o_all, .inl (ca 0, 350, .inl o_all_r)), (h_o_plans, .inl (ca 0, 80, .inl o_plans_r)), (h_o_shift, .inl (ca 3, 768, .inl o_shift_r))] H) (hD : va_D A [(h_o, .inr (7, [.ref h_o_plans, .ref h_o_makers, .ref h_o_halves, .int o_raised, .ref h_o_all, .ref h_o_text, .ref h_o_saved, .ref h_o_undone, .int o_undos, .int o_reached, .int o_length, .int o_begin, .int o_letters, .int o_sort, .long o_word, .int o_wrongAt, .int o_badAt, .int o_bad, .ref h_o_told, .ref h_o_shift, .int o_firstX, .int o_firstY, .int o_secondX, .int o_secondY, .ref h_o_rootOf, .ref h_o_becomes, .ref h_o_comes, .ref h_o_next, .int o_x])), (h_o_all, .inl (ca 0, 350, .inl o_all_r)), (h_o_plans, .inl (ca 0, 80, .inl o_plans_r)), (h_o_shift, .inl (ca 3, 768, .inl o_shift_r))]) (hS : va_S A s.heap H locs) (ls : Array Slot) (hl : lv_has ls 6 [(0, .ref h_o), (1, .int p1), (2, .int v2)]), WW H locs (F0 m 3 ls []) := by
    intro  n
    induction n with
    | zero => intro v2 rr hf; exact (ds_it_zero hf).elim
    | succ n ih3 =>
      intro v2 rr hf hG H locs hP hD hS ls hl
      refine h2 ?_
      obtain ⟨rr, hf, hG⟩ := ds_it_succ hf hG
      replace hf : fX8_isMirror_3_b o_all_r o_plans_r o_shift_r p1 v2 = some rr := hf
      obtain ⟨G1, eG1⟩ : ∃ G : ((Int32) ⊕ (Int32)) → Prop, G = ds_G (fun s' => ∃ r', ds_it (fun s => fX8_isMirror_3_b o_all_r o_plans_r o_shift_r p1 s) n s' = some r' ∧ G0 r') G0 := ⟨_, rfl⟩
      rw [← eG1] at hG
      have J_100 : ∀ (v2 : Int32) (rr : (Int32) ⊕ (Int32)) (hf : fX8_isMirror_100 v2 = some rr) (hG : G1 rr) (H : Heap) (locs : List Loc) (hP : va_P (dC, dI) vwCl [(h_o, .inr (7, [.ref h_o_plans, .ref h_o_makers, .ref h_o_halves, .int o_raised, .ref h_o_all, .ref h_o_text, .ref h_o_saved, .ref h_o_undone, .int o_undos, .int o_reached, .int o_length, .int o_begin, .int o_letters, .int o_sort, .long o_word, .int o_wrongAt, .int o_badAt, .int o_bad, .ref h_o_told, .ref h_o_shift, .int o_firstX, .int o_firstY, .int o_secondX, .int o_secondY, .ref h_o_rootOf, .ref h_o_becomes, .ref h_o_comes, .ref h_o_next, .int o_x])), (h_o_all, .inl (ca 0, 350, .inl o_all_r)), (h_o_plans, .inl (ca 0, 80, .inl o_plans_r)), (h_o_shift, .inl (ca 3, 768, .inl o_shift_r))] H) (hD : va_D A [(h_o, .inr (7, [.ref h_o_plans, .ref h_o_makers, .ref h_o_halves, .int o_raised, .ref h_o_all, .ref h_o_text, .ref h_o_saved, .ref h_o_undone, .int o_undos, .int o_reached, .int o_length, .int o_begin, .int o_letters, .int o_sort, .long o_word, .int o_wrongAt, .int o_badAt, .int o_bad, .ref h_o_told, .ref h_o_shift, .int o_firstX, .int o_firstY, .int o_secondX, .int o_secondY, .ref h_o_rootOf, .ref h_o_becomes, .ref h_o_comes, .ref h_o_next, .int o_x])), (h_o_all, .inl (ca 0, 350, .inl o_all_r)), (h_o_plans, .inl (ca 0, 80, .inl o_plans_r)), (h_o_shift, .inl (ca 3, 768, .inl o_shift_r))]) (hS : va_S A s.heap H locs) (ls : Array Slot) (hl : lv_has ls 6 [(0, .ref h_o), (1, .int p1), (2, .int v2)]), WW H locs (F0 m 100 ls []) := by
        intro v2 rr hf hG H locs hP hD hS ls hl
        refine h2 ?_
        unfold fX8_isMirror_100 at hf
        refine lv_iinc (v := (v2 + 1)) (lv' := [(2, .int (v2 + 1)), (0, .ref h_o), (1, .int p1)]) hx hb dX8_isMirror_100 hl (k := 2) rfl rfl (by decide) rfl (fun ls hl => ?_)
        refine lv_goto (tgt := 3) hx hb dX8_isMirror_103 (by decide) ?_
        have hf := Option.some.inj hf
        subst hf
        rw [eG1] at hG
        obtain ⟨rr, hf, hG⟩ := hG
        exact h1 (ih3 (v2 + 1) rr hf hG _ _ hP hD hS _ (lv_sub hl [1, 2, 0] rfl))
      have J_11 : ∀ (v2 : Int32) (n : Nat) (v3 : Int32) (rr : (Int32) ⊕ (Int32)) (hf : ds_it (fun s => fX8_isMirror_11_b o_all_r o_plans_r o_shift_r p1 v2 s) n v3 = some rr) (hG : G1 rr) (H : Heap) (locs : List Loc) (hP : va_P (dC, dI) vwCl [(h_o, .inr (7, [.ref h_o_plans, .ref h_o_makers, .ref h_o_halves, .int o_raised, .ref h_o_all, .ref h_o_text, .ref h_o_saved, .ref h_o_undone, .int o_undos, .int o_reached, .int o_length, .int o_begin, .int o_letters, .int o_sort, .long o_word, .int o_wrongAt, .int o_badAt, .int o_bad, .ref h_o_told, .ref h_o_shift, .int o_firstX, .int o_firstY, .int o_secondX, .int o_secondY, .ref h_o_rootOf, .ref h_o_becomes, .ref h_o_comes, .ref h_o_next, .int o_x])), (h_o_all, .inl (ca 0, 350, .inl o_all_r)), (h_o_plans, .inl (ca 0, 80, .inl o_plans_r)), (h_o_shift, .inl (ca 3, 768, .inl o_shift_r))] H) (hD : va_D A [(h_o, .inr (7, [.ref h_o_plans, .ref h_o_makers, .ref h_o_halves, .int o_raised, .ref h_o_all, .ref h_o_text, .ref h_o_saved, .ref h_o_undone, .int o_undos, .int o_reached, .int o_length, .int o_begin, .int o_letters, .int o_sort, .long o_word, .int o_wrongAt, .int o_badAt, .int o_bad, .ref h_o_told, .ref h_o_shift, .int o_firstX, .int o_firstY, .int o_secondX, .int o_secondY, .ref h_o_rootOf, .ref h_o_becomes, .ref h_o_comes, .ref h_o_next, .int o_x])), (h_o_all, .inl (ca 0, 350, .inl o_all_r)), (h_o_plans, .inl (ca 0, 80, .inl o_plans_r)), (h_o_shift, .inl (ca 3, 768, .inl o_shift_r))]) (hS : va_S A s.heap H locs) (ls : Array Slot) (hl : lv_has ls 6 [(0, .ref h_o), (1, .int p1), (2, .int v2), (3, .int v3)]), WW H locs (F0 m 11 ls []) := by
        intro v2 n
        induction n with
        | zero => intro v3 rr hf; exact (ds_it_zero hf).elim
        | succ n ih11 =>
          intro v3 rr hf hG H locs hP hD hS ls hl
          refine h2 ?_
          obtain ⟨rr, hf, hG⟩ := ds_it_succ hf hG
          replace hf : fX8_isMirror_11_b o_all_r o_plans_r o_shift_r p1 v2 v3 = some rr := hf
          obtain ⟨G2, eG2⟩ : ∃ G : ((Int32) ⊕ ((Int32) ⊕ (Int32))) → Prop, G = ds_G (fun s' => ∃ r', ds_it (fun s => fX8_isMirror_11_b o_all_r o_plans_r o_shift_r p1 v2 s) n s' = some r' ∧ G1 r') G1 := ⟨_, rfl⟩
          rw [← eG2] at hG
          have J_94 : ∀ (v3 : Int32) (rr : (Int32) ⊕ ((Int32) ⊕ (Int32))) (hf : fX8_isMirror_94 v3 = some rr) (hG : G2 rr) (H : Heap) (locs : List Loc) (hP : va_P (dC, dI) vwCl [(h_o, .inr (7, [.ref h_o_plans, .ref h_o_makers, .ref h_o_halves, .int o_raised, .ref h_o_all, .ref h_o_text, .ref h_o_saved, .ref h_o_undone, .int o_undos, .int o_reached, .int o_length, .int o_begin, .int o_letters, .int o_sort, .long o_word, .int o_wrongAt, .int o_badAt, .int o_bad, .ref h_o_told, .ref h_o_shift, .int o_firstX, .int o_firstY, .int o_secondX, .int o_secondY, .ref h_o_rootOf, .ref h_o_becomes, .ref h_o_comes, .ref h_o_next, .int o_x])), (h_o_all, .inl (ca 0, 350, .inl o_all_r)), (h_o_plans, .inl (ca 0, 80, .inl o_plans_r)), (h_o_shift, .inl (ca 3, 768, .inl o_shift_r))] H) (hD : va_D A [(h_o, .inr (7, [.ref h_o_plans, .ref h_o_makers, .ref h_o_halves, .int o_raised, .ref h_o_all, .ref h_o_text, .ref h_o_saved, .ref h_o_undone, .int o_undos, .int o_reached, .int o_length, .int o_begin, .int o_letters, .int o_sort, .long o_word, .int o_wrongAt, .int o_badAt, .int o_bad, .ref h_o_told, .ref h_o_shift, .int o_firstX, .int o_firstY, .int o_secondX, .int o_secondY, .ref h_o_rootOf, .ref h_o_becomes, .ref h_o_comes, .ref h_o_next, .int o_x])), (h_o_all, .inl (ca 0, 350, .inl o_all_r)), (h_o_plans, .inl (ca 0, 80, .inl o_plans_r)), (h_o_shift, .inl (ca 3, 768, .inl o_shift_r))]) (hS : va_S A s.heap H locs) (ls : Array Slot) (hl : lv_has ls 6 [(0, .ref h_o), (1, .int p1), (2, .int v2), (3, .int v3)]), WW H locs (F0 m 94 ls []) := by
            intro v3 rr hf hG H locs hP hD hS ls hl
            refine h2 ?_
            unfold fX8_isMirror_94 at hf
            refine lv_iinc (v := (v3 + 1)) (lv' := [(3, .int (v3 + 1)), (0, .ref h_o), (1, .int p1), (2, .int v2)]) hx hb dX8_isMirror_94 hl (k := 3) rfl rfl (by decide) rfl (fun ls hl => ?_)
            refine lv_goto (tgt := 11) hx hb dX8_isMirror_97 (by decide) ?_
            have hf := Option.some.inj hf
            subst hf
            rw [eG2] at hG
            obtain ⟨rr, hf, hG⟩ := hG
            exact h1 (ih11 (v3 + 1) rr hf hG _ _ hP hD hS _ (lv_sub hl [1, 2, 3, 0] rfl))
          have J_58 : ∀ (v3 : Int32) (v4 : Int32) (n : Nat) (v5 : Int32) (rr : (Int32) ⊕ ((Int32) ⊕ (Int32))) (hf : ds_it (fun s => fX8_isMirror_58_b o_all_r o_shift_r p1 v2 v3 v4 s) n v5 = some rr) (hG : G2 rr) (H : Heap) (locs : List Loc) (hP : va_P (dC, dI) vwCl [(h_o, .inr (7, [.ref h_o_plans, .ref h_o_makers, .ref h_o_halves, .int o_raised, .ref h_o_all, .ref h_o_text, .ref h_o_saved, .ref h_o_undone, .int o_undos, .int o_reached, .int o_length, .int o_begin, .int o_letters, .int o_sort, .long o_word, .int o_wrongAt, .int o_badAt, .int o_bad, .ref h_o_told, .ref h_o_shift, .int o_firstX, .int o_firstY, .int o_secondX, .int o_secondY, .ref h_o_rootOf, .ref h_o_becomes, .ref h_o_comes, .ref h_o_next, .int o_x])), (h_o_all, .inl (ca 0, 350, .inl o_all_r)), (h_o_plans, .inl (ca 0, 80, .inl o_plans_r)), (h_o_shift, .inl (ca 3, 768, .inl o_shift_r))] H) (hD : va_D A [(h_o, .inr (7, [.ref h_o_plans, .ref h_o_makers, .ref h_o_halves, .int o_raised, .ref h_o_all, .ref h_o_text, .ref h_o_saved, .ref h_o_undone, .int o_undos, .int o_reached, .int o_length, .int o_begin, .int o_letters, .int o_sort, .long o_word, .int o_wrongAt, .int o_badAt, .int o_bad, .ref h_o_told, .ref h_o_shift, .int o_firstX, .int o_firstY, .int o_secondX, .int o_secondY, .ref h_o_rootOf, .ref h_o_becomes, .ref h_o_comes, .ref h_o_next, .int o_x])), (h_o_all, .inl (ca 0, 350, .inl o_all_r)), (h_o_plans, .inl (ca 0, 80, .inl o_plans_r)), (h_o_shift, .inl (ca 3, 768, .inl o_shift_r))]) (hS : va_S A s.heap H locs) (ls : Array Slot) (hl : lv_has ls 6 [(0, .ref h_o), (1, .int p1), (2, .int v2), (3, .int v3), (4, .int v4), (5, .int v5)]), WW H locs (F0 m 58 ls []) := by
            intro v3 v4 n
            induction n with
            | zero => intro v5 rr hf; exact (ds_it_zero hf).elim
            | succ n ih58 =>
              intro v5 rr hf hG H locs hP hD hS ls hl
              refine h2 ?_
              obtain ⟨rr, hf, hG⟩ := ds_it_succ hf hG
              replace hf : fX8_isMirror_58_b o_all_r o_shift_r p1 v2 v3 v4 v5 = some rr := hf
              obtain ⟨G3, eG3⟩ : ∃ G : ((Int32) ⊕ ((Int32) ⊕ ((Int32) ⊕ (Int32)))) → Prop, G = ds_G (fun s' => ∃ r', ds_it (fun s => fX8_isMirror_58_b o_all_r o_shift_r p1 v2 v3 v4 s) n s' = some r' ∧ G2 r') G2 := ⟨_, rfl⟩
              rw [← eG3] at hG
              unfold fX8_isMirror_58_b at hf
              refine lv_iload hx hb dX8_isMirror_58 (lv_at hl 5 rfl) ?_
              refine lv_bipush (v := 56) hx hb dX8_isMirror_60 (by decide) ?_
              refine lv_icmp_ge (tgt := 94) hx hb dX8_isMirror_62 (by decide) (fun c_62 => ?_) (fun c_62 => ?_)
              · replace hf := ds_t c_62 hf
                obtain ⟨rr, hr_0, hf⟩ := ds_ob hf
                have hf := Option.some.inj hf
                subst hf
                rw [eG3] at hG
                replace hG : G2 rr := hG
                have hf := hr_0
                exact h1 (J_94 v3 _ hf hG _ _ hP hD hS _ (lv_sub hl [0, 1, 2, 3] rfl))
              · replace hf := ds_f c_62 hf
                refine lv_iload hx hb dX8_isMirror_65 (lv_at hl 4 rfl) ?_
                refine lv_if_eq (tgt := 94) hx hb dX8_isMirror_67 (by decide) (fun c_67 => ?_) (fun c_67 => ?_)
                · replace hf := ds_t c_67 hf
                  obtain ⟨rr, hr_0, hf⟩ := ds_ob hf
                  have hf := Option.some.inj hf
                  subst hf
                  rw [eG3] at hG
                  replace hG : G2 rr := hG
                  have hf := hr_0
                  exact h1 (J_94 v3 _ hf hG _ _ hP hD hS _ (lv_sub hl [0, 1, 2, 3] rfl))
                · replace hf := ds_f c_67 hf
                  refine lv_aload_n hx hb dX8_isMirror_70 rfl (lv_at hl 0 rfl) ?_
                  refine lv_iload_n hx hb dX8_isMirror_71 rfl (lv_at hl 1 rfl) ?_
                  refine lv_iload hx hb dX8_isMirror_72 (lv_at hl 5 rfl) ?_
                  refine lv_iload_n hx hb dX8_isMirror_74 rfl (lv_at hl 2 rfl) ?_
                  refine lv_imul hx hb dX8_isMirror_75 ?_
                  refine lv_iload hx hb dX8_isMirror_76 (lv_at hl 5 rfl) ?_
                  refine lv_iload_n hx hb dX8_isMirror_78 rfl (lv_at hl 3 rfl) ?_
                  refine lv_imul hx hb dX8_isMirror_79 ?_
                  obtain ⟨q80, hq80, hf⟩ := ds_ob hf
                  refine ds_calli (wr := [(h_o_plans, .inl (ca 0, 80, .inl o_plans_r))]) (va_runV (As := [.int p1, .int (v5 * v2), .int (v5 * v3)]) (rest := []) ⟨hx, hb, hml, hown, hts⟩ (c_X8_isShiftOf l dC dI ca sa h_o h_o_plans h_o_makers h_o_halves h_o_all h_o_text h_o_saved h_o_undone h_o_told h_o_shift h_o_rootOf h_o_becomes h_o_comes h_o_next H.size o_raised o_undos o_reached o_length o_begin o_letters o_sort o_word o_wrongAt o_badAt o_bad o_firstX o_firstY o_secondX o_secondY o_x o_all_r o_shift_r p1 (v5 * v2) (v5 * v3) q80 hq80) (cwV 3 hts (ds_gV kw_695 kw_696 kw_697 kw_597 kw_698) rfl rfl rfl (by decide +kernel) ⟨Nat.le_of_ble_eq_true rfl, Nat.le_of_ble_eq_true rfl⟩) ⟨ds_blind, va_recv hK hP (ci := 7) (q0 := 0) rfl rfl, ds_at hP hD hK hE hS hA [0, 1, 3] rfl rfl _⟩ rfl rfl hl.1 rfl (lv_room (Nat.le_of_ble_eq_true rfl)) dX8_isMirror_80 ⟨Nat.zero_le _, Nat.zero_le _⟩) hP hD hS hA [0, 1, 3] [2] rfl rfl rfl (by decide) (fun H locs hP hD hS => ?_)
                  have hP : va_P (dC, dI) vwCl [(h_o_plans, .inl (ca 0, 80, .inl o_plans_r)), (h_o, .inr (7, [.ref h_o_plans, .ref h_o_makers, .ref h_o_halves, .int o_raised, .ref h_o_all, .ref h_o_text, .ref h_o_saved, .ref h_o_undone, .int o_undos, .int o_reached, .int o_length, .int o_begin, .int o_letters, .int o_sort, .long o_word, .int o_wrongAt, .int o_badAt, .int o_bad, .ref h_o_told, .ref h_o_shift, .int o_firstX, .int o_firstY, .int o_secondX, .int o_secondY, .ref h_o_rootOf, .ref h_o_becomes, .ref h_o_comes, .ref h_o_next, .int o_x])), (h_o_all, .inl (ca 0, 350, .inl o_all_r)), (h_o_shift, .inl (ca 3, 768, .inl o_shift_r))] H := hP
                  have hD : va_D A [(h_o_plans, .inl (ca 0, 80, .inl o_plans_r)), (h_o, .inr (7, [.ref h_o_plans, .ref h_o_makers, .ref h_o_halves, .int o_raised, .ref h_o_all, .ref h_o_text, .ref h_o_saved, .ref h_o_undone, .int o_undos, .int o_reached, .int o_length, .int o_begin, .int o_letters, .int o_sort, .long o_word, .int o_wrongAt, .int o_badAt, .int o_bad, .ref h_o_told, .ref h_o_shift, .int o_firstX, .int o_firstY, .int o_secondX, .int o_secondY, .ref h_o_rootOf, .ref h_o_becomes, .ref h_o_comes, .ref h_o_next, .int o_x])), (h_o_all, .inl (ca 0, 350, .inl o_all_r)), (h_o_shift, .inl (ca 3, 768, .inl o_shift_r))] := hD
                  refine lv_if_eq (tgt := 88) hx hb dX8_isMirror_83 (by decide) (fun c_83 => ?_) (fun c_83 => ?_)
                  · replace hf := ds_t c_83 hf
                    refine lv_iinc (v := (v5 + 1)) (lv' := [(5, .int (v5 + 1)), (0, .ref h_o), (1, .int p1), (2, .int v2), (3, .int v3), (4, .int v4)]) hx hb dX8_isMirror_88 hl (k := 5) rfl rfl (by decide) rfl (fun ls hl => ?_)
                    refine lv_goto (tgt := 58) hx hb dX8_isMirror_91 (by decide) ?_
                    have hf := Option.some.inj hf
                    subst hf
                    rw [eG3] at hG
                    obtain ⟨rr, hf, hG⟩ := hG
                    exact h1 (ih58 (v5 + 1) rr hf hG _ _ (hP.sub [1, 2, 0, 3] rfl) (hD.sub [1, 2, 0, 3] rfl rfl) hS _ (lv_sub hl [1, 2, 3, 4, 5, 0] rfl))
                  · replace hf := ds_f c_83 hf
                    refine lv_iconst (v := 1) hx hb dX8_isMirror_86 (by decide) ?_
                    have hf := Option.some.inj hf
                    subst hf
                    rw [eG3] at hG
                    replace hG : G2 _ := hG
                    rw [eG2] at hG
                    replace hG : G1 _ := hG
                    rw [eG1] at hG
                    replace hG : G0 _ := hG
                    rw [eG0] at hG
                    have hG : _ = res := hG
                    subst hG
                    exact W.zret (v := (1 : Int32)) (ty := .boolean) hx hb hr rfl (fun t ht hW => ⟨⟨(1 : Int32), (), rfl, rfl, by rw [ht]; exact (hP.sub [1, 2, 0, 3] rfl), (hD.sub [1, 2, 0, 3] rfl rfl)⟩, hS.F ht⟩) hS.2.2 dX8_isMirror_87
          have J_53 : ∀ (v3 : Int32) (s0 : Int32) (rr : (Int32) ⊕ ((Int32) ⊕ (Int32))) (hf : fX8_isMirror_53 o_all_r o_shift_r p1 v2 v3 s0 = some rr) (hG : G2 rr) (H : Heap) (locs : List Loc) (hP : va_P (dC, dI) vwCl [(h_o, .inr (7, [.ref h_o_plans, .ref h_o_makers, .ref h_o_halves, .int o_raised, .ref h_o_all, .ref h_o_text, .ref h_o_saved, .ref h_o_undone, .int o_undos, .int o_reached, .int o_length, .int o_begin, .int o_letters, .int o_sort, .long o_word, .int o_wrongAt, .int o_badAt, .int o_bad, .ref h_o_told, .ref h_o_shift, .int o_firstX, .int o_firstY, .int o_secondX, .int o_secondY, .ref h_o_rootOf, .ref h_o_becomes, .ref h_o_comes, .ref h_o_next, .int o_x])), (h_o_all, .inl (ca 0, 350, .inl o_all_r)), (h_o_plans, .inl (ca 0, 80, .inl o_plans_r)), (h_o_shift, .inl (ca 3, 768, .inl o_shift_r))] H) (hD : va_D A [(h_o, .inr (7, [.ref h_o_plans, .ref h_o_makers, .ref h_o_halves, .int o_raised, .ref h_o_all, .ref h_o_text, .ref h_o_saved, .ref h_o_undone, .int o_undos, .int o_reached, .int o_length, .int o_begin, .int o_letters, .int o_sort, .long o_word, .int o_wrongAt, .int o_badAt, .int o_bad, .ref h_o_told, .ref h_o_shift, .int o_firstX, .int o_firstY, .int o_secondX, .int o_secondY, .ref h_o_rootOf, .ref h_o_becomes, .ref h_o_comes, .ref h_o_next, .int o_x])), (h_o_all, .inl (ca 0, 350, .inl o_all_r)), (h_o_plans, .inl (ca 0, 80, .inl o_plans_r)), (h_o_shift, .inl (ca 3, 768, .inl o_shift_r))]) (hS : va_S A s.heap H locs) (ls : Array Slot) (hl : lv_has ls 6 [(0, .ref h_o), (1, .int p1), (2, .int v2), (3, .int v3)]), WW H locs (F0 m 53 ls [.int s0]) := by
            intro v3 s0 rr hf hG H locs hP hD hS ls hl
            refine h2 ?_
            unfold fX8_isMirror_53 at hf
            refine lv_istore (lv' := [(4, .int s0), (0, .ref h_o), (1, .int p1), (2, .int v2), (3, .int v3)]) hx hb dX8_isMirror_53 hl (by decide) rfl (fun ls hl => ?_)
            refine lv_iconst (v := 0) hx hb dX8_isMirror_55 (by decide) ?_
            refine lv_istore (lv' := [(5, .int (0 : Int32)), (4, .int s0), (0, .ref h_o), (1, .int p1), (2, .int v2), (3, .int v3)]) hx hb dX8_isMirror_56 hl (by decide) rfl (fun ls hl => ?_)
            exact h1 (J_58 v3 s0 1000 (0 : Int32) _ hf hG _ _ hP hD hS _ (lv_sub hl [2, 3, 4, 5, 1, 0] rfl))
          have J_52 : ∀ (v3 : Int32) (rr : (Int32) ⊕ ((Int32) ⊕ (Int32))) (hf : fX8_isMirror_52 o_all_r o_shift_r p1 v2 v3 = some rr) (hG : G2 rr) (H : Heap) (locs : List Loc) (hP : va_P (dC, dI) vwCl [(h_o, .inr (7, [.ref h_o_plans, .ref h_o_makers, .ref h_o_halves, .int o_raised, .ref h_o_all, .ref h_o_text, .ref h_o_saved, .ref h_o_undone, .int o_undos, .int o_reached, .int o_length, .int o_begin, .int o_letters, .int o_sort, .long o_word, .int o_wrongAt, .int o_badAt, .int o_bad, .ref h_o_told, .ref h_o_shift, .int o_firstX, .int o_firstY, .int o_secondX, .int o_secondY, .ref h_o_rootOf, .ref h_o_becomes, .ref h_o_comes, .ref h_o_next, .int o_x])), (h_o_all, .inl (ca 0, 350, .inl o_all_r)), (h_o_plans, .inl (ca 0, 80, .inl o_plans_r)), (h_o_shift, .inl (ca 3, 768, .inl o_shift_r))] H) (hD : va_D A [(h_o, .inr (7, [.ref h_o_plans, .ref h_o_makers, .ref h_o_halves, .int o_raised, .ref h_o_all, .ref h_o_text, .ref h_o_saved, .ref h_o_undone, .int o_undos, .int o_reached, .int o_length, .int o_begin, .int o_letters, .int o_sort, .long o_word, .int o_wrongAt, .int o_badAt, .int o_bad, .ref h_o_told, .ref h_o_shift, .int o_firstX, .int o_firstY, .int o_secondX, .int o_secondY, .ref h_o_rootOf, .ref h_o_becomes, .ref h_o_comes, .ref h_o_next, .int o_x])), (h_o_all, .inl (ca 0, 350, .inl o_all_r)), (h_o_plans, .inl (ca 0, 80, .inl o_plans_r)), (h_o_shift, .inl (ca 3, 768, .inl o_shift_r))]) (hS : va_S A s.heap H locs) (ls : Array Slot) (hl : lv_has ls 6 [(0, .ref h_o), (1, .int p1), (2, .int v2), (3, .int v3)]), WW H locs (F0 m 52 ls []) := by
            intro v3 rr hf hG H locs hP hD hS ls hl
            refine h2 ?_
            unfold fX8_isMirror_52 at hf
            refine lv_iconst (v := 0) hx hb dX8_isMirror_52 (by decide) ?_
            exact h1 (J_53 v3 (0 : Int32) _ hf hG _ _ hP hD hS _ (lv_sub hl [0, 1, 2, 3] rfl))
          have J_48 : ∀ (v3 : Int32) (rr : (Int32) ⊕ ((Int32) ⊕ (Int32))) (hf : fX8_isMirror_48 o_all_r o_shift_r p1 v2 v3 = some rr) (hG : G2 rr) (H : Heap) (locs : List Loc) (hP : va_P (dC, dI) vwCl [(h_o, .inr (7, [.ref h_o_plans, .ref h_o_makers, .ref h_o_halves, .int o_raised, .ref h_o_all, .ref h_o_text, .ref h_o_saved, .ref h_o_undone, .int o_undos, .int o_reached, .int o_length, .int o_begin, .int o_letters, .int o_sort, .long o_word, .int o_wrongAt, .int o_badAt, .int o_bad, .ref h_o_told, .ref h_o_shift, .int o_firstX, .int o_firstY, .int o_secondX, .int o_secondY, .ref h_o_rootOf, .ref h_o_becomes, .ref h_o_comes, .ref h_o_next, .int o_x])), (h_o_all, .inl (ca 0, 350, .inl o_all_r)), (h_o_plans, .inl (ca 0, 80, .inl o_plans_r)), (h_o_shift, .inl (ca 3, 768, .inl o_shift_r))] H) (hD : va_D A [(h_o, .inr (7, [.ref h_o_plans, .ref h_o_makers, .ref h_o_halves, .int o_raised, .ref h_o_all, .ref h_o_text, .ref h_o_saved, .ref h_o_undone, .int o_undos, .int o_reached, .int o_length, .int o_begin, .int o_letters, .int o_sort, .long o_word, .int o_wrongAt, .int o_badAt, .int o_bad, .ref h_o_told, .ref h_o_shift, .int o_firstX, .int o_firstY, .int o_secondX, .int o_secondY, .ref h_o_rootOf, .ref h_o_becomes, .ref h_o_comes, .ref h_o_next, .int o_x])), (h_o_all, .inl (ca 0, 350, .inl o_all_r)), (h_o_plans, .inl (ca 0, 80, .inl o_plans_r)), (h_o_shift, .inl (ca 3, 768, .inl o_shift_r))]) (hS : va_S A s.heap H locs) (ls : Array Slot) (hl : lv_has ls 6 [(0, .ref h_o), (1, .int p1), (2, .int v2), (3, .int v3)]), WW H locs (F0 m 48 ls []) := by
            intro v3 rr hf hG H locs hP hD hS ls hl
            refine h2 ?_
            unfold fX8_isMirror_48 at hf
            refine lv_iconst (v := 1) hx hb dX8_isMirror_48 (by decide) ?_
            refine lv_goto (tgt := 53) hx hb dX8_isMirror_49 (by decide) ?_
            exact h1 (J_53 v3 (1 : Int32) _ hf hG _ _ hP hD hS _ (lv_sub hl [0, 1, 2, 3] rfl))
          unfold fX8_isMirror_11_b at hf
          refine lv_iload_n hx hb dX8_isMirror_11 rfl (lv_at hl 3 rfl) ?_
          refine lv_iconst (v := 2) hx hb dX8_isMirror_12 (by decide) ?_
          refine lv_icmp_gt (tgt := 100) hx hb dX8_isMirror_13 (by decide) (fun c_13 => ?_) (fun c_13 => ?_)
          · replace hf := ds_t c_13 hf
            obtain ⟨rr, hr_0, hf⟩ := ds_ob hf
            have hf := Option.some.inj hf
            subst hf
            rw [eG2] at hG
            replace hG : G1 rr := hG
            have hf := hr_0
            exact h1 (J_100 v2 _ hf hG _ _ hP hD hS _ (lv_sub hl [0, 1, 2] rfl))
          · replace hf := ds_f c_13 hf
            refine lv_aload_n hx hb dX8_isMirror_16 rfl (lv_at hl 0 rfl) ?_
            refine lv_iload_n hx hb dX8_isMirror_17 rfl (lv_at hl 1 rfl) ?_
            refine lv_iload_n hx hb dX8_isMirror_18 rfl (lv_at hl 2 rfl) ?_
            refine lv_iload_n hx hb dX8_isMirror_19 rfl (lv_at hl 3 rfl) ?_
            obtain ⟨q20, hq20, hf⟩ := ds_ob hf
            refine ds_calli (wr := [(h_o_shift, .inl (ca 3, 768, .inl o_shift_r))]) (va_runV (As := [.int p1, .int v2, .int v3]) (rest := []) ⟨hx, hb, hml, hown, hts⟩ (c_X8_turnX l dC dI ca sa h_o h_o_plans h_o_makers h_o_halves h_o_all h_o_text h_o_saved h_o_undone h_o_told h_o_shift h_o_rootOf h_o_becomes h_o_comes h_o_next H.size o_raised o_undos o_reached o_length o_begin o_letters o_sort o_word o_wrongAt o_badAt o_bad o_firstX o_firstY o_secondX o_secondY o_x o_all_r o_plans_r p1 v2 v3 q20 hq20) (cwV 3 hts (ds_gV kw_655 kw_656 kw_657 kw_597 kw_658) rfl rfl rfl (by decide +kernel) ⟨Nat.le_of_ble_eq_true rfl, Nat.le_of_ble_eq_true rfl⟩) ⟨ds_blind, va_recv hK hP (ci := 7) (q0 := 0) rfl rfl, ds_at hP hD hK hE hS hA [0, 1, 2] rfl rfl _⟩ rfl rfl hl.1 rfl (lv_room (Nat.le_of_ble_eq_true rfl)) dX8_isMirror_20 ⟨Nat.zero_le _, Nat.zero_le _⟩) hP hD hS hA [0, 1, 2] [3] rfl rfl rfl (by decide) (fun H locs hP hD hS => ?_)
            have hP : va_P (dC, dI) vwCl [(h_o_shift, .inl (ca 3, 768, .inl o_shift_r)), (h_o, .inr (7, [.ref h_o_plans, .ref h_o_makers, .ref h_o_halves, .int o_raised, .ref h_o_all, .ref h_o_text, .ref h_o_saved, .ref h_o_undone, .int o_undos, .int o_reached, .int o_length, .int o_begin, .int o_letters, .int o_sort, .long o_word, .int o_wrongAt, .int o_badAt, .int o_bad, .ref h_o_told, .ref h_o_shift, .int o_firstX, .int o_firstY, .int o_secondX, .int o_secondY, .ref h_o_rootOf, .ref h_o_becomes, .ref h_o_comes, .ref h_o_next, .int o_x])), (h_o_all, .inl (ca 0, 350, .inl o_all_r)), (h_o_plans, .inl (ca 0, 80, .inl o_plans_r))] H := hP
            have hD : va_D A [(h_o_shift, .inl (ca 3, 768, .inl o_shift_r)), (h_o, .inr (7, [.ref h_o_plans, .ref h_o_makers, .ref h_o_halves, .int o_raised, .ref h_o_all, .ref h_o_text, .ref h_o_saved, .ref h_o_undone, .int o_undos, .int o_reached, .int o_length, .int o_begin, .int o_letters, .int o_sort, .long o_word, .int o_wrongAt, .int o_badAt, .int o_bad, .ref h_o_told, .ref h_o_shift, .int o_firstX, .int o_firstY, .int o_secondX, .int o_secondY, .ref h_o_rootOf, .ref h_o_becomes, .ref h_o_comes, .ref h_o_next, .int o_x])), (h_o_all, .inl (ca 0, 350, .inl o_all_r)), (h_o_plans, .inl (ca 0, 80, .inl o_plans_r))] := hD
            refine lv_iload_n hx hb dX8_isMirror_23 rfl (lv_at hl 2 rfl) ?_
            refine lv_ineg hx hb dX8_isMirror_24 ?_
            refine lv_icmp_ne (tgt := 52) hx hb dX8_isMirror_25 (by decide) (fun c_25 => ?_) (fun c_25 => ?_)
            · replace hf := ds_f c_25 hf
              exact h1 (J_52 v3 _ hf hG _ _ (hP.sub [1, 2, 3, 0] rfl) (hD.sub [1, 2, 3, 0] rfl rfl) hS _ (lv_sub hl [0, 1, 2, 3] rfl))
            · replace hf := ds_t c_25 hf
              refine lv_aload_n hx hb dX8_isMirror_28 rfl (lv_at hl 0 rfl) ?_
              refine lv_iload_n hx hb dX8_isMirror_29 rfl (lv_at hl 1 rfl) ?_
              refine lv_iload_n hx hb dX8_isMirror_30 rfl (lv_at hl 2 rfl) ?_
              refine lv_iload_n hx hb dX8_isMirror_31 rfl (lv_at hl 3 rfl) ?_
              obtain ⟨q32, hq32, hf⟩ := ds_ob hf
              refine ds_calli (wr := [(h_o_shift, .inl (ca 3, 768, .inl o_shift_r))]) (va_runV (As := [.int p1, .int v2, .int v3]) (rest := []) ⟨hx, hb, hml, hown, hts⟩ (c_X8_turnY l dC dI ca sa h_o h_o_plans h_o_makers h_o_halves h_o_all h_o_text h_o_saved h_o_undone h_o_told h_o_shift h_o_rootOf h_o_becomes h_o_comes h_o_next H.size o_raised o_undos o_reached o_length o_begin o_letters o_sort o_word o_wrongAt o_badAt o_bad o_firstX o_firstY o_secondX o_secondY o_x o_all_r o_plans_r p1 v2 v3 q32 hq32) (cwV 3 hts (ds_gV kw_659 kw_660 kw_661 kw_597 kw_662) rfl rfl rfl (by decide +kernel) ⟨Nat.le_of_ble_eq_true rfl, Nat.le_of_ble_eq_true rfl⟩) ⟨ds_blind, va_recv hK hP (ci := 7) (q0 := 1) rfl rfl, ds_at hP hD hK hE hS hA [1, 2, 3] rfl rfl _⟩ rfl rfl hl.1 rfl (lv_room (Nat.le_of_ble_eq_true rfl)) dX8_isMirror_32 ⟨Nat.zero_le _, Nat.zero_le _⟩) hP hD hS hA [1, 2, 3] [0] rfl rfl rfl (by decide) (fun H locs hP hD hS => ?_)
              have hP : va_P (dC, dI) vwCl [(h_o_shift, .inl (ca 3, 768, .inl o_shift_r)), (h_o, .inr (7, [.ref h_o_plans, .ref h_o_makers, .ref h_o_halves, .int o_raised, .ref h_o_all, .ref h_o_text, .ref h_o_saved, .ref h_o_undone, .int o_undos, .int o_reached, .int o_length, .int o_begin, .int o_letters, .int o_sort, .long o_word, .int o_wrongAt, .int o_badAt, .int o_bad, .ref h_o_told, .ref h_o_shift, .int o_firstX, .int o_firstY, .int o_secondX, .int o_secondY, .ref h_o_rootOf, .ref h_o_becomes, .ref h_o_comes, .ref h_o_next, .int o_x])), (h_o_all, .inl (ca 0, 350, .inl o_all_r)), (h_o_plans, .inl (ca 0, 80, .inl o_plans_r))] H := hP
              have hD : va_D A [(h_o_shift, .inl (ca 3, 768, .inl o_shift_r)), (h_o, .inr (7, [.ref h_o_plans, .ref h_o_makers, .ref h_o_halves, .int o_raised, .ref h_o_all, .ref h_o_text, .ref h_o_saved, .ref h_o_undone, .int o_undos, .int o_reached, .int o_length, .int o_begin, .int o_letters, .int o_sort, .long o_word, .int o_wrongAt, .int o_badAt, .int o_bad, .ref h_o_told, .ref h_o_shift, .int o_firstX, .int o_firstY, .int o_secondX, .int o_secondY, .ref h_o_rootOf, .ref h_o_becomes, .ref h_o_comes, .ref h_o_next, .int o_x])), (h_o_all, .inl (ca 0, 350, .inl o_all_r)), (h_o_plans, .inl (ca 0, 80, .inl o_plans_r))] := hD
              refine lv_iload_n hx hb dX8_isMirror_35 rfl (lv_at hl 3 rfl) ?_
              refine lv_ineg hx hb dX8_isMirror_36 ?_
              refine lv_icmp_ne (tgt := 52) hx hb dX8_isMirror_37 (by decide) (fun c_37 => ?_) (fun c_37 => ?_)
              · replace hf := ds_f c_37 hf
                exact h1 (J_52 v3 _ hf hG _ _ (hP.sub [1, 2, 3, 0] rfl) (hD.sub [1, 2, 3, 0] rfl rfl) hS _ (lv_sub hl [0, 1, 2, 3] rfl))
              · replace hf := ds_t c_37 hf
                refine lv_iload_n hx hb dX8_isMirror_40 rfl (lv_at hl 2 rfl) ?_
                refine lv_if_ne (tgt := 48) hx hb dX8_isMirror_41 (by decide) (fun c_41 => ?_) (fun c_41 => ?_)
                · replace hf := ds_f c_41 hf
                  exact h1 (J_48 v3 _ hf hG _ _ (hP.sub [1, 2, 3, 0] rfl) (hD.sub [1, 2, 3, 0] rfl rfl) hS _ (lv_sub hl [0, 1, 2, 3] rfl))
                · replace hf := ds_t c_41 hf
                  refine lv_iload_n hx hb dX8_isMirror_44 rfl (lv_at hl 3 rfl) ?_
                  refine lv_if_eq (tgt := 52) hx hb dX8_isMirror_45 (by decide) (fun c_45 => ?_) (fun c_45 => ?_)
                  · replace hf := ds_t c_45 hf
                    exact h1 (J_52 v3 _ hf hG _ _ (hP.sub [1, 2, 3, 0] rfl) (hD.sub [1, 2, 3, 0] rfl rfl) hS _ (lv_sub hl [0, 1, 2, 3] rfl))
                  · replace hf := ds_f c_45 hf
                    exact h1 (J_48 v3 _ hf hG _ _ (hP.sub [1, 2, 3, 0] rfl) (hD.sub [1, 2, 3, 0] rfl rfl) hS _ (lv_sub hl [0, 1, 2, 3] rfl))
      unfold fX8_isMirror_3_b at hf
      refine lv_iload_n hx hb dX8_isMirror_3 rfl (lv_at hl 2 rfl) ?_
      refine lv_iconst (v := 2) hx hb dX8_isMirror_4 (by decide) ?_
      refine lv_icmp_gt (tgt := 106) hx hb dX8_isMirror_5 (by decide) (fun c_5 => ?_) (fun c_5 => ?_)
      · replace hf := ds_t c_5 hf
        refine lv_iconst (v := 0) hx hb dX8_isMirror_106 (by decide) ?_
        have hf := Option.some.inj hf
        subst hf
        rw [eG1] at hG
        replace hG : G0 _ := hG
        rw [eG0] at hG
        have hG : _ = res := hG
        subst hG
        exact W.zret (v := (0 : Int32)) (ty := .boolean) hx hb hr rfl (fun t ht hW => ⟨⟨(0 : Int32), (), rfl, rfl, by rw [ht]; exact hP, hD⟩, hS.F ht⟩) hS.2.2 dX8_isMirror_107
      · replace hf := ds_f c_5 hf
        refine lv_bipush (v := -2) hx hb dX8_isMirror_8 (by decide) ?_
        refine lv_istore_n (lv' := [(3, .int (-2 : Int32)), (0, .ref h_o), (1, .int p1), (2, .int v2)]) hx hb dX8_isMirror_10 rfl hl (by decide) rfl (fun ls hl => ?_)
        exact h1 (J_11 v2 1000 (-2 : Int32) _ hf hG _ _ hP hD hS _ (lv_sub hl [1, 2, 3, 0] rfl))
  unfold fX8_isMirror at hf
  refine lv_bipush (v := -2) hx hb dX8_isMirror_0 (by decide) ?_
  refine lv_istore_n (lv' := [(2, .int (-2 : Int32)), (0, .ref h_o), (1, .int p1)]) hx hb dX8_isMirror_2 rfl hl (by decide) rfl (fun ls hl => ?_)
  exact h1 (J_3  1000 (-2 : Int32) _ hf hG _ _ hP hD hS _ (lv_sub hl [1, 2, 0] rfl))
theorem dX8_isParted_0 : decode cX8_isParted 0 = .ok (.iload_n 2, 1) := by decide +kernel
theorem dX8_isParted_1 : decode cX8_isParted 1 = .ok (.aload_n 0, 1) := by decide +kernel
theorem dX8_isParted_2 : decode cX8_isParted 2 = .ok (.iload_n 1, 1) := by decide +kernel
theorem dX8_isParted_3 : decode cX8_isParted 3 = .ok (.iload_n 2, 1) := by decide +kernel
theorem dX8_isParted_4 : decode cX8_isParted 4 = .ok (.iload_n 3, 1) := by decide +kernel
theorem dX8_isParted_5 : decode cX8_isParted 5 = .ok (.invokevirtual 130, 3) := by decide +kernel
theorem dX8_isParted_8 : decode cX8_isParted 8 = .ok (.iadd, 1) := by decide +kernel
theorem dX8_isParted_9 : decode cX8_isParted 9 = .ok (.istore 4, 2) := by decide +kernel
theorem dX8_isParted_11 : decode cX8_isParted 11 = .ok (.iload_n 3, 1) := by decide +kernel
theorem dX8_isParted_12 : decode cX8_isParted 12 = .ok (.aload_n 0, 1) := by decide +kernel
theorem dX8_isParted_13 : decode cX8_isParted 13 = .ok (.iload_n 1, 1) := by decide +kernel
theorem dX8_isParted_14 : decode cX8_isParted 14 = .ok (.iload_n 2, 1) := by decide +kernel
theorem dX8_isParted_15 : decode cX8_isParted 15 = .ok (.iload_n 3, 1) := by decide +kernel
theorem dX8_isParted_16 : decode cX8_isParted 16 = .ok (.invokevirtual 134, 3) := by decide +kernel
theorem dX8_isParted_19 : decode cX8_isParted 19 = .ok (.iadd, 1) := by decide +kernel
theorem dX8_isParted_20 : decode cX8_isParted 20 = .ok (.istore 5, 2) := by decide +kernel
theorem dX8_isParted_22 : decode cX8_isParted 22 = .ok (.iload 4, 2) := by decide +kernel
theorem dX8_isParted_24 : decode cX8_isParted 24 = .ok (.iconst 2, 1) := by decide +kernel
theorem dX8_isParted_25 : decode cX8_isParted 25 = .ok (.irem, 1) := by decide +kernel
theorem dX8_isParted_26 : decode cX8_isParted 26 = .ok (.ifCond .ne 29, 3) := by decide +kernel
theorem dX8_isParted_29 : decode cX8_isParted 29 = .ok (.iload 5, 2) := by decide +kernel
theorem dX8_isParted_31 : decode cX8_isParted 31 = .ok (.iconst 2, 1) := by decide +kernel
theorem dX8_isParted_32 : decode cX8_isParted 32 = .ok (.irem, 1) := by decide +kernel
theorem dX8_isParted_33 : decode cX8_isParted 33 = .ok (.ifCond .ne 22, 3) := by decide +kernel
theorem dX8_isParted_36 : decode cX8_isParted 36 = .ok (.aload_n 0, 1) := by decide +kernel
theorem dX8_isParted_37 : decode cX8_isParted 37 = .ok (.iload 4, 2) := by decide +kernel
theorem dX8_isParted_39 : decode cX8_isParted 39 = .ok (.iconst 2, 1) := by decide +kernel
theorem dX8_isParted_40 : decode cX8_isParted 40 = .ok (.idiv, 1) := by decide +kernel
theorem dX8_isParted_41 : decode cX8_isParted 41 = .ok (.iload 5, 2) := by decide +kernel
theorem dX8_isParted_43 : decode cX8_isParted 43 = .ok (.iconst 2, 1) := by decide +kernel
theorem dX8_isParted_44 : decode cX8_isParted 44 = .ok (.idiv, 1) := by decide +kernel
theorem dX8_isParted_45 : decode cX8_isParted 45 = .ok (.invokevirtual 137, 3) := by decide +kernel
theorem dX8_isParted_48 : decode cX8_isParted 48 = .ok (.ifCond .eq 7, 3) := by decide +kernel
theorem dX8_isParted_51 : decode cX8_isParted 51 = .ok (.iconst 1, 1) := by decide +kernel
theorem dX8_isParted_52 : decode cX8_isParted 52 = .ok (.goto 4, 3) := by decide +kernel
theorem dX8_isParted_55 : decode cX8_isParted 55 = .ok (.iconst 0, 1) := by decide +kernel
theorem dX8_isParted_56 : decode cX8_isParted 56 = .ok (.ireturn, 1) := by decide +kernel
def fX8_isParted (o_all_r : Nat → Int32) (o_plans_r : Nat → Int32) (o_shift_r : Nat → Int32) (p1 : Int32) (p2 : Int32) (p3 : Int32) : Option (Int32) :=
  Option.bind (fX8_turnX o_all_r o_plans_r p1 p2 p3) fun q5 => Option.bind (fX8_turnY o_all_r o_plans_r p1 p2 p3) fun q16 => if (ds_rem (p2 + q5) (2 : Int32)) = 0 then if (ds_rem (p3 + q16) (2 : Int32)) = 0 then Option.bind (fX8_isStep o_all_r o_shift_r ((p2 + q5) / (2 : Int32)) ((p3 + q16) / (2 : Int32))) fun q45 => if q45 = 0 then some (0 : Int32) else some (1 : Int32) else some (0 : Int32) else some (0 : Int32)
set_option maxHeartbeats 4000000 in
set_option maxRecDepth 100000 in
theorem c_X8_isParted (l : Launch) (dC : Nat → ClassId) (dI : Nat → Nat → Nat) (ca : Nat → ClassId) (sa : Nat → Nat) (h_o : Nat) (h_o_plans : Nat) (h_o_makers : Nat) (h_o_halves : Nat) (h_o_all : Nat) (h_o_text : Nat) (h_o_saved : Nat) (h_o_undone : Nat) (h_o_told : Nat) (h_o_shift : Nat) (h_o_rootOf : Nat) (h_o_becomes : Nat) (h_o_comes : Nat) (h_o_next : Nat) (sz : Nat) (o_raised : Int32) (o_undos : Int32) (o_reached : Int32) (o_length : Int32) (o_begin : Int32) (o_letters : Int32) (o_sort : Int32) (o_word : Int64) (o_wrongAt : Int32) (o_badAt : Int32) (o_bad : Int32) (o_firstX : Int32) (o_firstY : Int32) (o_secondX : Int32) (o_secondY : Int32) (o_x : Int32) (o_all_r : Nat → Int32) (o_plans_r : Nat → Int32) (o_shift_r : Nat → Int32) (p1 : Int32) (p2 : Int32) (p3 : Int32) (res : Int32) (hf : fX8_isParted o_all_r o_plans_r o_shift_r p1 p2 p3 = some res) : Met l yX8_isParted (Cond.code yX8_isParted cX8_isParted 6 (some .boolean) :: ds_gw) { frames := 3, cells := 0, slots := 0, locals := 66 } (va_Pc [.ref h_o, .int p1, .int p2, .int p3] (ds_Pre dC dI ca sa [(h_o, .inr (7, [.ref h_o_plans, .ref h_o_makers, .ref h_o_halves, .int o_raised, .ref h_o_all, .ref h_o_text, .ref h_o_saved, .ref h_o_undone, .int o_undos, .int o_reached, .int o_length, .int o_begin, .int o_letters, .int o_sort, .long o_word, .int o_wrongAt, .int o_badAt, .int o_bad, .ref h_o_told, .ref h_o_shift, .int o_firstX, .int o_firstY, .int o_secondX, .int o_secondY, .ref h_o_rootOf, .ref h_o_becomes, .ref h_o_comes, .ref h_o_next, .int o_x])), (h_o_all, .inl (ca 0, 350, .inl o_all_r)), (h_o_plans, .inl (ca 0, 80, .inl o_plans_r)), (h_o_shift, .inl (ca 3, 768, .inl o_shift_r))] sz)) (va_Qi (fun r (_ : Unit) => r = res) (ds_B dC dI (va_A [(h_o, .inr (7, [.ref h_o_plans, .ref h_o_makers, .ref h_o_halves, .int o_raised, .ref h_o_all, .ref h_o_text, .ref h_o_saved, .ref h_o_undone, .int o_undos, .int o_reached, .int o_length, .int o_begin, .int o_letters, .int o_sort, .long o_word, .int o_wrongAt, .int o_badAt, .int o_bad, .ref h_o_told, .ref h_o_shift, .int o_firstX, .int o_firstY, .int o_secondX, .int o_secondY, .ref h_o_rootOf, .ref h_o_becomes, .ref h_o_comes, .ref h_o_next, .int o_x])), (h_o_all, .inl (ca 0, 350, .inl o_all_r)), (h_o_plans, .inl (ca 0, 80, .inl o_plans_r)), (h_o_shift, .inl (ca 3, 768, .inl o_shift_r))] sz) [(h_o, .inr (7, [.ref h_o_plans, .ref h_o_makers, .ref h_o_halves, .int o_raised, .ref h_o_all, .ref h_o_text, .ref h_o_saved, .ref h_o_undone, .int o_undos, .int o_reached, .int o_length, .int o_begin, .int o_letters, .int o_sort, .long o_word, .int o_wrongAt, .int o_badAt, .int o_bad, .ref h_o_told, .ref h_o_shift, .int o_firstX, .int o_firstY, .int o_secondX, .int o_secondY, .ref h_o_rootOf, .ref h_o_becomes, .ref h_o_comes, .ref h_o_next, .int o_x])), (h_o_all, .inl (ca 0, 350, .inl o_all_r)), (h_o_plans, .inl (ca 0, 80, .inl o_plans_r)), (h_o_shift, .inl (ca 3, 768, .inl o_shift_r))]) (va_A [(h_o, .inr (7, [.ref h_o_plans, .ref h_o_makers, .ref h_o_halves, .int o_raised, .ref h_o_all, .ref h_o_text, .ref h_o_saved, .ref h_o_undone, .int o_undos, .int o_reached, .int o_length, .int o_begin, .int o_letters, .int o_sort, .long o_word, .int o_wrongAt, .int o_badAt, .int o_bad, .ref h_o_told, .ref h_o_shift, .int o_firstX, .int o_firstY, .int o_secondX, .int o_secondY, .ref h_o_rootOf, .ref h_o_becomes, .ref h_o_comes, .ref h_o_next, .int o_x])), (h_o_all, .inl (ca 0, 350, .inl o_all_r)), (h_o_plans, .inl (ca 0, 80, .inl o_plans_r)), (h_o_shift, .inl (ca 3, 768, .inl o_shift_r))] sz)) 0 0 (va_A [(h_o, .inr (7, [.ref h_o_plans, .ref h_o_makers, .ref h_o_halves, .int o_raised, .ref h_o_all, .ref h_o_text, .ref h_o_saved, .ref h_o_undone, .int o_undos, .int o_reached, .int o_length, .int o_begin, .int o_letters, .int o_sort, .long o_word, .int o_wrongAt, .int o_badAt, .int o_bad, .ref h_o_told, .ref h_o_shift, .int o_firstX, .int o_firstY, .int o_secondX, .int o_secondY, .ref h_o_rootOf, .ref h_o_becomes, .ref h_o_comes, .ref h_o_next, .int o_x])), (h_o_all, .inl (ca 0, 350, .inl o_all_r)), (h_o_plans, .inl (ca 0, 80, .inl o_plans_r)), (h_o_shift, .inl (ca 3, 768, .inl o_shift_r))] sz) := by
  refine Met.ofW (cc := cX8_isParted) (maxL := 6) (ret := (some .boolean)) (by decide) rfl ?_
  intro p e s m args below meth c s₁ B hml hv
  obtain ⟨rfl, hsz, hP, hK, hD0, hE⟩ := hv
  have hx := B.exec
  have hb := B.bytes
  have hr := B.returns
  have hts := atoms_spec (ws := Cond.code yX8_isParted cX8_isParted 6 (some .boolean) :: ds_gw) B.pre
  have hg : ∀ {w : Cond}, w ∈ ds_gw → w.before _ s = true := fun h => hts _ (List.mem_cons_of_mem _ h)
  have hown : s.vm.findClass RX8 = some m.cls := findClass_of_methodNamed B.named
  have hlocks := B.notSynchronized
  subst hsz
  have hD := hD0.self (sz := s.heap.size)
  generalize hAe : va_A [(h_o, .inr (7, [.ref h_o_plans, .ref h_o_makers, .ref h_o_halves, .int o_raised, .ref h_o_all, .ref h_o_text, .ref h_o_saved, .ref h_o_undone, .int o_undos, .int o_reached, .int o_length, .int o_begin, .int o_letters, .int o_sort, .long o_word, .int o_wrongAt, .int o_badAt, .int o_bad, .ref h_o_told, .ref h_o_shift, .int o_firstX, .int o_firstY, .int o_secondX, .int o_secondY, .ref h_o_rootOf, .ref h_o_becomes, .ref h_o_comes, .ref h_o_next, .int o_x])), (h_o_all, .inl (ca 0, 350, .inl o_all_r)), (h_o_plans, .inl (ca 0, 80, .inl o_plans_r)), (h_o_shift, .inl (ca 3, 768, .inl o_shift_r))] s.heap.size = A at hD hE ⊢
  have hA : ∀ q : Nat, s.heap.size ≤ q → A q := fun q h => by rw [← hAe]; exact Or.inr h
  have hS : va_S A s.heap s.heap [] := va_S.rf
  have hl := lv_entry ([.ref h_o, .int p1, .int p2, .int p3]) (n := 6) (Nat.le_of_ble_eq_true rfl)
  rw [lg_entry_eq]
  generalize (lg_sl ([.ref h_o, .int p1, .int p2, .int p3]) ++ List.replicate (6 - (lg_sl ([.ref h_o, .int p1, .int p2, .int p3])).length) Slot.unset).toArray = ls at hl ⊢
  have hl : lv_has ls 6 [(0, .ref h_o), (1, .int p1), (2, .int p2), (3, .int p3)] := hl
  obtain ⟨G0, eG0⟩ : ∃ G : Int32 → Prop, G = (fun r => r = res) := ⟨_, rfl⟩
  obtain ⟨rr, hrr⟩ : ∃ z, z = res := ⟨_, rfl⟩
  rw [← hrr] at hf
  have hG : G0 rr := by subst eG0; exact hrr
  unfold fX8_isParted at hf
  refine lv_iload_n hx hb dX8_isParted_0 rfl (lv_at hl 2 rfl) ?_
  refine lv_aload_n hx hb dX8_isParted_1 rfl (lv_at hl 0 rfl) ?_
  refine lv_iload_n hx hb dX8_isParted_2 rfl (lv_at hl 1 rfl) ?_
  refine lv_iload_n hx hb dX8_isParted_3 rfl (lv_at hl 2 rfl) ?_
  refine lv_iload_n hx hb dX8_isParted_4 rfl (lv_at hl 3 rfl) ?_
  obtain ⟨q5, hq5, hf⟩ := ds_ob hf
  refine ds_calli (wr := [(h_o_shift, .inl (ca 3, 768, .inl o_shift_r))]) (va_runV (As := [.int p1, .int p2, .int p3]) (rest := [.int p2]) ⟨hx, hb, hml, hown, hts⟩ (c_X8_turnX l dC dI ca sa h_o h_o_plans h_o_makers h_o_halves h_o_all h_o_text h_o_saved h_o_undone h_o_told h_o_shift h_o_rootOf h_o_becomes h_o_comes h_o_next s.heap.size o_raised o_undos o_reached o_length o_begin o_letters o_sort o_word o_wrongAt o_badAt o_bad o_firstX o_firstY o_secondX o_secondY o_x o_all_r o_plans_r p1 p2 p3 q5 hq5) (cwV 3 hts (ds_gV kw_655 kw_656 kw_657 kw_597 kw_658) rfl rfl rfl (by decide +kernel) ⟨Nat.le_of_ble_eq_true rfl, Nat.le_of_ble_eq_true rfl⟩) ⟨ds_blind, va_recv hK hP (ci := 7) (q0 := 0) rfl rfl, ds_at hP hD hK hE hS hA [0, 1, 2] rfl rfl _⟩ rfl rfl hl.1 rfl (lv_room (Nat.le_of_ble_eq_true rfl)) dX8_isParted_5 ⟨Nat.zero_le _, Nat.zero_le _⟩) hP hD hS hA [0, 1, 2] [3] rfl rfl rfl (by decide) (fun H locs hP hD hS => ?_)
  have hP : va_P (dC, dI) vwCl [(h_o_shift, .inl (ca 3, 768, .inl o_shift_r)), (h_o, .inr (7, [.ref h_o_plans, .ref h_o_makers, .ref h_o_halves, .int o_raised, .ref h_o_all, .ref h_o_text, .ref h_o_saved, .ref h_o_undone, .int o_undos, .int o_reached, .int o_length, .int o_begin, .int o_letters, .int o_sort, .long o_word, .int o_wrongAt, .int o_badAt, .int o_bad, .ref h_o_told, .ref h_o_shift, .int o_firstX, .int o_firstY, .int o_secondX, .int o_secondY, .ref h_o_rootOf, .ref h_o_becomes, .ref h_o_comes, .ref h_o_next, .int o_x])), (h_o_all, .inl (ca 0, 350, .inl o_all_r)), (h_o_plans, .inl (ca 0, 80, .inl o_plans_r))] H := hP
  have hD : va_D A [(h_o_shift, .inl (ca 3, 768, .inl o_shift_r)), (h_o, .inr (7, [.ref h_o_plans, .ref h_o_makers, .ref h_o_halves, .int o_raised, .ref h_o_all, .ref h_o_text, .ref h_o_saved, .ref h_o_undone, .int o_undos, .int o_reached, .int o_length, .int o_begin, .int o_letters, .int o_sort, .long o_word, .int o_wrongAt, .int o_badAt, .int o_bad, .ref h_o_told, .ref h_o_shift, .int o_firstX, .int o_firstY, .int o_secondX, .int o_secondY, .ref h_o_rootOf, .ref h_o_becomes, .ref h_o_comes, .ref h_o_next, .int o_x])), (h_o_all, .inl (ca 0, 350, .inl o_all_r)), (h_o_plans, .inl (ca 0, 80, .inl o_plans_r))] := hD
  refine lv_iadd hx hb dX8_isParted_8 ?_
  refine lv_istore (lv' := [(4, .int (p2 + q5)), (0, .ref h_o), (1, .int p1), (2, .int p2), (3, .int p3)]) hx hb dX8_isParted_9 hl (by decide) rfl (fun ls hl => ?_)
  refine lv_iload_n hx hb dX8_isParted_11 rfl (lv_at hl 4 rfl) ?_
  refine lv_aload_n hx hb dX8_isParted_12 rfl (lv_at hl 1 rfl) ?_
  refine lv_iload_n hx hb dX8_isParted_13 rfl (lv_at hl 2 rfl) ?_
  refine lv_iload_n hx hb dX8_isParted_14 rfl (lv_at hl 3 rfl) ?_
  refine lv_iload_n hx hb dX8_isParted_15 rfl (lv_at hl 4 rfl) ?_
  obtain ⟨q16, hq16, hf⟩ := ds_ob hf
  refine ds_calli (wr := [(h_o_shift, .inl (ca 3, 768, .inl o_shift_r))]) (va_runV (As := [.int p1, .int p2, .int p3]) (rest := [.int p3]) ⟨hx, hb, hml, hown, hts⟩ (c_X8_turnY l dC dI ca sa h_o h_o_plans h_o_makers h_o_halves h_o_all h_o_text h_o_saved h_o_undone h_o_told h_o_shift h_o_rootOf h_o_becomes h_o_comes h_o_next H.size o_raised o_undos o_reached o_length o_begin o_letters o_sort o_word o_wrongAt o_badAt o_bad o_firstX o_firstY o_secondX o_secondY o_x o_all_r o_plans_r p1 p2 p3 q16 hq16) (cwV 3 hts (ds_gV kw_659 kw_660 kw_661 kw_597 kw_662) rfl rfl rfl (by decide +kernel) ⟨Nat.le_of_ble_eq_true rfl, Nat.le_of_ble_eq_true rfl⟩) ⟨ds_blind, va_recv hK hP (ci := 7) (q0 := 1) rfl rfl, ds_at hP hD hK hE hS hA [1, 2, 3] rfl rfl _⟩ rfl rfl hl.1 rfl (lv_room (Nat.le_of_ble_eq_true rfl)) dX8_isParted_16 ⟨Nat.zero_le _, Nat.zero_le _⟩) hP hD hS hA [1, 2, 3] [0] rfl rfl rfl (by decide) (fun H locs hP hD hS => ?_)
  have hP : va_P (dC, dI) vwCl [(h_o_shift, .inl (ca 3, 768, .inl o_shift_r)), (h_o, .inr (7, [.ref h_o_plans, .ref h_o_makers, .ref h_o_halves, .int o_raised, .ref h_o_all, .ref h_o_text, .ref h_o_saved, .ref h_o_undone, .int o_undos, .int o_reached, .int o_length, .int o_begin, .int o_letters, .int o_sort, .long o_word, .int o_wrongAt, .int o_badAt, .int o_bad, .ref h_o_told, .ref h_o_shift, .int o_firstX, .int o_firstY, .int o_secondX, .int o_secondY, .ref h_o_rootOf, .ref h_o_becomes, .ref h_o_comes, .ref h_o_next, .int o_x])), (h_o_all, .inl (ca 0, 350, .inl o_all_r)), (h_o_plans, .inl (ca 0, 80, .inl o_plans_r))] H := hP
  have hD : va_D A [(h_o_shift, .inl (ca 3, 768, .inl o_shift_r)), (h_o, .inr (7, [.ref h_o_plans, .ref h_o_makers, .ref h_o_halves, .int o_raised, .ref h_o_all, .ref h_o_text, .ref h_o_saved, .ref h_o_undone, .int o_undos, .int o_reached, .int o_length, .int o_begin, .int o_letters, .int o_sort, .long o_word, .int o_wrongAt, .int o_badAt, .int o_bad, .ref h_o_told, .ref h_o_shift, .int o_firstX, .int o_firstY, .int o_secondX, .int o_secondY, .ref h_o_rootOf, .ref h_o_becomes, .ref h_o_comes, .ref h_o_next, .int o_x])), (h_o_all, .inl (ca 0, 350, .inl o_all_r)), (h_o_plans, .inl (ca 0, 80, .inl o_plans_r))] := hD
  refine lv_iadd hx hb dX8_isParted_19 ?_
  refine lv_istore (lv' := [(5, .int (p3 + q16)), (4, .int (p2 + q5)), (0, .ref h_o), (1, .int p1), (2, .int p2), (3, .int p3)]) hx hb dX8_isParted_20 hl (by decide) rfl (fun ls hl => ?_)
  refine lv_iload hx hb dX8_isParted_22 (lv_at hl 1 rfl) ?_
  refine lv_iconst (v := 2) hx hb dX8_isParted_24 (by decide) ?_
  refine lv_irem hx hb dX8_isParted_25 (by decide) ?_
  refine lv_if_ne (tgt := 55) hx hb dX8_isParted_26 (by decide) (fun c_26 => ?_) (fun c_26 => ?_)
  · replace hf := ds_f c_26 hf
    refine lv_iconst (v := 0) hx hb dX8_isParted_55 (by decide) ?_
    have hf := Option.some.inj hf
    subst hf
    rw [eG0] at hG
    have hG : _ = res := hG
    subst hG
    exact W.zret (v := (0 : Int32)) (ty := .boolean) hx hb hr rfl (fun t ht hW => ⟨⟨(0 : Int32), (), rfl, rfl, by rw [ht]; exact (hP.sub [1, 2, 3, 0] rfl), (hD.sub [1, 2, 3, 0] rfl rfl)⟩, hS.F ht⟩) hS.2.2 dX8_isParted_56
  · replace hf := ds_t c_26 hf
    refine lv_iload hx hb dX8_isParted_29 (lv_at hl 0 rfl) ?_
    refine lv_iconst (v := 2) hx hb dX8_isParted_31 (by decide) ?_
    refine lv_irem hx hb dX8_isParted_32 (by decide) ?_
    refine lv_if_ne (tgt := 55) hx hb dX8_isParted_33 (by decide) (fun c_33 => ?_) (fun c_33 => ?_)
    · replace hf := ds_f c_33 hf
      refine lv_iconst (v := 0) hx hb dX8_isParted_55 (by decide) ?_
      have hf := Option.some.inj hf
      subst hf
      rw [eG0] at hG
      have hG : _ = res := hG
      subst hG
      exact W.zret (v := (0 : Int32)) (ty := .boolean) hx hb hr rfl (fun t ht hW => ⟨⟨(0 : Int32), (), rfl, rfl, by rw [ht]; exact (hP.sub [1, 2, 3, 0] rfl), (hD.sub [1, 2, 3, 0] rfl rfl)⟩, hS.F ht⟩) hS.2.2 dX8_isParted_56
    · replace hf := ds_t c_33 hf
      refine lv_aload_n hx hb dX8_isParted_36 rfl (lv_at hl 2 rfl) ?_
      refine lv_iload hx hb dX8_isParted_37 (lv_at hl 1 rfl) ?_
      refine lv_iconst (v := 2) hx hb dX8_isParted_39 (by decide) ?_
      refine lv_idiv hx hb dX8_isParted_40 (by decide) ?_
      refine lv_iload hx hb dX8_isParted_41 (lv_at hl 0 rfl) ?_
      refine lv_iconst (v := 2) hx hb dX8_isParted_43 (by decide) ?_
      refine lv_idiv hx hb dX8_isParted_44 (by decide) ?_
      obtain ⟨q45, hq45, hf⟩ := ds_ob hf
      refine ds_calli (wr := [(h_o_plans, .inl (ca 0, 80, .inl o_plans_r))]) (va_runV (As := [.int ((p2 + q5) / (2 : Int32)), .int ((p3 + q16) / (2 : Int32))]) (rest := []) ⟨hx, hb, hml, hown, hts⟩ (c_X8_isStep l dC dI ca sa h_o h_o_plans h_o_makers h_o_halves h_o_all h_o_text h_o_saved h_o_undone h_o_told h_o_shift h_o_rootOf h_o_becomes h_o_comes h_o_next H.size o_raised o_undos o_reached o_length o_begin o_letters o_sort o_word o_wrongAt o_badAt o_bad o_firstX o_firstY o_secondX o_secondY o_x o_all_r o_shift_r ((p2 + q5) / (2 : Int32)) ((p3 + q16) / (2 : Int32)) q45 hq45) (cwV 2 hts (ds_gV kw_663 kw_664 kw_665 kw_597 kw_666) rfl rfl rfl (by decide +kernel) ⟨Nat.le_of_ble_eq_true rfl, Nat.le_of_ble_eq_true rfl⟩) ⟨ds_blind, va_recv hK hP (ci := 7) (q0 := 1) rfl rfl, ds_at hP hD hK hE hS hA [1, 2, 0] rfl rfl _⟩ rfl rfl hl.1 rfl (lv_room (Nat.le_of_ble_eq_true rfl)) dX8_isParted_45 ⟨Nat.zero_le _, Nat.zero_le _⟩) hP hD hS hA [1, 2, 0] [3] rfl rfl rfl (by decide) (fun H locs hP hD hS => ?_)
      have hP : va_P (dC, dI) vwCl [(h_o_plans, .inl (ca 0, 80, .inl o_plans_r)), (h_o, .inr (7, [.ref h_o_plans, .ref h_o_makers, .ref h_o_halves, .int o_raised, .ref h_o_all, .ref h_o_text, .ref h_o_saved, .ref h_o_undone, .int o_undos, .int o_reached, .int o_length, .int o_begin, .int o_letters, .int o_sort, .long o_word, .int o_wrongAt, .int o_badAt, .int o_bad, .ref h_o_told, .ref h_o_shift, .int o_firstX, .int o_firstY, .int o_secondX, .int o_secondY, .ref h_o_rootOf, .ref h_o_becomes, .ref h_o_comes, .ref h_o_next, .int o_x])), (h_o_all, .inl (ca 0, 350, .inl o_all_r)), (h_o_shift, .inl (ca 3, 768, .inl o_shift_r))] H := hP
      have hD : va_D A [(h_o_plans, .inl (ca 0, 80, .inl o_plans_r)), (h_o, .inr (7, [.ref h_o_plans, .ref h_o_makers, .ref h_o_halves, .int o_raised, .ref h_o_all, .ref h_o_text, .ref h_o_saved, .ref h_o_undone, .int o_undos, .int o_reached, .int o_length, .int o_begin, .int o_letters, .int o_sort, .long o_word, .int o_wrongAt, .int o_badAt, .int o_bad, .ref h_o_told, .ref h_o_shift, .int o_firstX, .int o_firstY, .int o_secondX, .int o_secondY, .ref h_o_rootOf, .ref h_o_becomes, .ref h_o_comes, .ref h_o_next, .int o_x])), (h_o_all, .inl (ca 0, 350, .inl o_all_r)), (h_o_shift, .inl (ca 3, 768, .inl o_shift_r))] := hD
      refine lv_if_eq (tgt := 55) hx hb dX8_isParted_48 (by decide) (fun c_48 => ?_) (fun c_48 => ?_)
      · replace hf := ds_t c_48 hf
        refine lv_iconst (v := 0) hx hb dX8_isParted_55 (by decide) ?_
        have hf := Option.some.inj hf
        subst hf
        rw [eG0] at hG
        have hG : _ = res := hG
        subst hG
        exact W.zret (v := (0 : Int32)) (ty := .boolean) hx hb hr rfl (fun t ht hW => ⟨⟨(0 : Int32), (), rfl, rfl, by rw [ht]; exact (hP.sub [1, 2, 0, 3] rfl), (hD.sub [1, 2, 0, 3] rfl rfl)⟩, hS.F ht⟩) hS.2.2 dX8_isParted_56
      · replace hf := ds_f c_48 hf
        refine lv_iconst (v := 1) hx hb dX8_isParted_51 (by decide) ?_
        refine lv_goto (tgt := 56) hx hb dX8_isParted_52 (by decide) ?_
        have hf := Option.some.inj hf
        subst hf
        rw [eG0] at hG
        have hG : _ = res := hG
        subst hG
        exact W.zret (v := (1 : Int32)) (ty := .boolean) hx hb hr rfl (fun t ht hW => ⟨⟨(1 : Int32), (), rfl, rfl, by rw [ht]; exact (hP.sub [1, 2, 0, 3] rfl), (hD.sub [1, 2, 0, 3] rfl rfl)⟩, hS.F ht⟩) hS.2.2 dX8_isParted_56
theorem dX8_areParted_0 : decode cX8_areParted 0 = .ok (.aload_n 0, 1) := by decide +kernel
theorem dX8_areParted_1 : decode cX8_areParted 1 = .ok (.iload_n 1, 1) := by decide +kernel
theorem dX8_areParted_2 : decode cX8_areParted 2 = .ok (.aload_n 0, 1) := by decide +kernel
theorem dX8_areParted_3 : decode cX8_areParted 3 = .ok (.getfield 19, 3) := by decide +kernel
theorem dX8_areParted_6 : decode cX8_areParted 6 = .ok (.iconst 0, 1) := by decide +kernel
theorem dX8_areParted_7 : decode cX8_areParted 7 = .ok (.iaload, 1) := by decide +kernel
theorem dX8_areParted_8 : decode cX8_areParted 8 = .ok (.iconst 0, 1) := by decide +kernel
theorem dX8_areParted_9 : decode cX8_areParted 9 = .ok (.invokevirtual 177, 3) := by decide +kernel
theorem dX8_areParted_12 : decode cX8_areParted 12 = .ok (.ifCond .eq 22, 3) := by decide +kernel
theorem dX8_areParted_15 : decode cX8_areParted 15 = .ok (.aload_n 0, 1) := by decide +kernel
theorem dX8_areParted_16 : decode cX8_areParted 16 = .ok (.iload_n 1, 1) := by decide +kernel
theorem dX8_areParted_17 : decode cX8_areParted 17 = .ok (.iconst 0, 1) := by decide +kernel
theorem dX8_areParted_18 : decode cX8_areParted 18 = .ok (.aload_n 0, 1) := by decide +kernel
theorem dX8_areParted_19 : decode cX8_areParted 19 = .ok (.getfield 19, 3) := by decide +kernel
theorem dX8_areParted_22 : decode cX8_areParted 22 = .ok (.iconst 1, 1) := by decide +kernel
theorem dX8_areParted_23 : decode cX8_areParted 23 = .ok (.iaload, 1) := by decide +kernel
theorem dX8_areParted_24 : decode cX8_areParted 24 = .ok (.invokevirtual 177, 3) := by decide +kernel
theorem dX8_areParted_27 : decode cX8_areParted 27 = .ok (.ifCond .eq 7, 3) := by decide +kernel
theorem dX8_areParted_30 : decode cX8_areParted 30 = .ok (.iconst 1, 1) := by decide +kernel
theorem dX8_areParted_31 : decode cX8_areParted 31 = .ok (.goto 4, 3) := by decide +kernel
theorem dX8_areParted_34 : decode cX8_areParted 34 = .ok (.iconst 0, 1) := by decide +kernel
theorem dX8_areParted_35 : decode cX8_areParted 35 = .ok (.istore_n 2, 1) := by decide +kernel
theorem dX8_areParted_36 : decode cX8_areParted 36 = .ok (.iconst 0, 1) := by decide +kernel
theorem dX8_areParted_37 : decode cX8_areParted 37 = .ok (.istore_n 3, 1) := by decide +kernel
theorem dX8_areParted_38 : decode cX8_areParted 38 = .ok (.iload_n 3, 1) := by decide +kernel
theorem dX8_areParted_39 : decode cX8_areParted 39 = .ok (.aload_n 0, 1) := by decide +kernel
theorem dX8_areParted_40 : decode cX8_areParted 40 = .ok (.getfield 19, 3) := by decide +kernel
theorem dX8_areParted_43 : decode cX8_areParted 43 = .ok (.iconst 1, 1) := by decide +kernel
theorem dX8_areParted_44 : decode cX8_areParted 44 = .ok (.iaload, 1) := by decide +kernel
theorem dX8_areParted_45 : decode cX8_areParted 45 = .ok (.if_icmp .ge 60, 3) := by decide +kernel
theorem dX8_areParted_48 : decode cX8_areParted 48 = .ok (.iconst 0, 1) := by decide +kernel
theorem dX8_areParted_49 : decode cX8_areParted 49 = .ok (.istore 4, 2) := by decide +kernel
theorem dX8_areParted_51 : decode cX8_areParted 51 = .ok (.iload 4, 2) := by decide +kernel
theorem dX8_areParted_53 : decode cX8_areParted 53 = .ok (.aload_n 0, 1) := by decide +kernel
theorem dX8_areParted_54 : decode cX8_areParted 54 = .ok (.getfield 19, 3) := by decide +kernel
theorem dX8_areParted_57 : decode cX8_areParted 57 = .ok (.iconst 0, 1) := by decide +kernel
theorem dX8_areParted_58 : decode cX8_areParted 58 = .ok (.iaload, 1) := by decide +kernel
theorem dX8_areParted_59 : decode cX8_areParted 59 = .ok (.if_icmp .ge 40, 3) := by decide +kernel
theorem dX8_areParted_62 : decode cX8_areParted 62 = .ok (.iload_n 2, 1) := by decide +kernel
theorem dX8_areParted_63 : decode cX8_areParted 63 = .ok (.ifCond .eq 36, 3) := by decide +kernel
theorem dX8_areParted_66 : decode cX8_areParted 66 = .ok (.aload_n 0, 1) := by decide +kernel
theorem dX8_areParted_67 : decode cX8_areParted 67 = .ok (.iload 4, 2) := by decide +kernel
theorem dX8_areParted_69 : decode cX8_areParted 69 = .ok (.iload_n 3, 1) := by decide +kernel
theorem dX8_areParted_70 : decode cX8_areParted 70 = .ok (.invokevirtual 137, 3) := by decide +kernel
theorem dX8_areParted_73 : decode cX8_areParted 73 = .ok (.ifCond .eq 14, 3) := by decide +kernel
theorem dX8_areParted_76 : decode cX8_areParted 76 = .ok (.aload_n 0, 1) := by decide +kernel
theorem dX8_areParted_77 : decode cX8_areParted 77 = .ok (.iload_n 1, 1) := by decide +kernel
theorem dX8_areParted_78 : decode cX8_areParted 78 = .ok (.iload 4, 2) := by decide +kernel
theorem dX8_areParted_80 : decode cX8_areParted 80 = .ok (.iload_n 3, 1) := by decide +kernel
theorem dX8_areParted_81 : decode cX8_areParted 81 = .ok (.invokevirtual 177, 3) := by decide +kernel
theorem dX8_areParted_84 : decode cX8_areParted 84 = .ok (.ifCond .eq 7, 3) := by decide +kernel
theorem dX8_areParted_87 : decode cX8_areParted 87 = .ok (.iconst 1, 1) := by decide +kernel
theorem dX8_areParted_88 : decode cX8_areParted 88 = .ok (.goto 4, 3) := by decide +kernel
theorem dX8_areParted_91 : decode cX8_areParted 91 = .ok (.iconst 0, 1) := by decide +kernel
theorem dX8_areParted_92 : decode cX8_areParted 92 = .ok (.istore_n 2, 1) := by decide +kernel
theorem dX8_areParted_93 : decode cX8_areParted 93 = .ok (.iinc 4 1, 3) := by decide +kernel
theorem dX8_areParted_96 : decode cX8_areParted 96 = .ok (.goto (-45), 3) := by decide +kernel
theorem dX8_areParted_99 : decode cX8_areParted 99 = .ok (.iinc 3 1, 3) := by decide +kernel
theorem dX8_areParted_102 : decode cX8_areParted 102 = .ok (.goto (-64), 3) := by decide +kernel
theorem dX8_areParted_105 : decode cX8_areParted 105 = .ok (.iload_n 2, 1) := by decide +kernel
theorem dX8_areParted_106 : decode cX8_areParted 106 = .ok (.ireturn, 1) := by decide +kernel
def fX8_areParted_99 (v2 : Int32) (v3 : Int32) : Option ((Int32 × Int32) ⊕ (Int32)) :=
  some (.inl (v2, (v3 + 1)))
def fX8_areParted_92 (v4 : Int32) (s0 : Int32) : Option ((Int32 × Int32) ⊕ ((Int32 × Int32) ⊕ (Int32))) :=
  some (.inl (s0, (v4 + 1)))
def fX8_areParted_87 (v4 : Int32) : Option ((Int32 × Int32) ⊕ ((Int32 × Int32) ⊕ (Int32))) :=
  fX8_areParted_92 v4 (1 : Int32)
def fX8_areParted_51_b (o_all_r : Nat → Int32) (o_plans_r : Nat → Int32) (o_shift_r : Nat → Int32) (p1 : Int32) (v3 : Int32) (v2 : Int32) (v4 : Int32) : Option ((Int32 × Int32) ⊕ ((Int32 × Int32) ⊕ (Int32))) :=
  if (o_all_r (0 : Int32).toNatClampNeg) ≤ v4 then Option.bind (fX8_areParted_99 v2 v3) fun z => some (.inr z) else if v2 = 0 then Option.bind (fX8_areParted_99 v2 v3) fun z => some (.inr z) else Option.bind (fX8_isStep o_all_r o_shift_r v4 v3) fun q70 => if q70 = 0 then fX8_areParted_87 v4 else Option.bind (fX8_isParted o_all_r o_plans_r o_shift_r p1 v4 v3) fun q81 => if q81 = 0 then fX8_areParted_92 v4 (0 : Int32) else fX8_areParted_87 v4
def fX8_areParted_51 (o_all_r : Nat → Int32) (o_plans_r : Nat → Int32) (o_shift_r : Nat → Int32) (p1 : Int32) (v3 : Int32) (v2 : Int32) (v4 : Int32) : Option ((Int32 × Int32) ⊕ (Int32)) := ds_it (fun s => fX8_areParted_51_b o_all_r o_plans_r o_shift_r p1 v3 s.1 s.2) 1000 (v2, v4)
def fX8_areParted_38_b (o_all_r : Nat → Int32) (o_plans_r : Nat → Int32) (o_shift_r : Nat → Int32) (p1 : Int32) (v2 : Int32) (v3 : Int32) : Option ((Int32 × Int32) ⊕ (Int32)) :=
  if (o_all_r (1 : Int32).toNatClampNeg) ≤ v3 then if v2 = 0 ∨ v2 = 1 then some (.inr v2) else none else fX8_areParted_51 o_all_r o_plans_r o_shift_r p1 v3 v2 (0 : Int32)
def fX8_areParted_38 (o_all_r : Nat → Int32) (o_plans_r : Nat → Int32) (o_shift_r : Nat → Int32) (p1 : Int32) (v2 : Int32) (v3 : Int32) : Option (Int32) := ds_it (fun s => fX8_areParted_38_b o_all_r o_plans_r o_shift_r p1 s.1 s.2) 1000 (v2, v3)
def fX8_areParted_35 (o_all_r : Nat → Int32) (o_plans_r : Nat → Int32) (o_shift_r : Nat → Int32) (p1 : Int32) (s0 : Int32) : Option (Int32) :=
  fX8_areParted_38 o_all_r o_plans_r o_shift_r p1 s0 (0 : Int32)
def fX8_areParted_34 (o_all_r : Nat → Int32) (o_plans_r : Nat → Int32) (o_shift_r : Nat → Int32) (p1 : Int32) : Option (Int32) :=
  fX8_areParted_35 o_all_r o_plans_r o_shift_r p1 (0 : Int32)
def fX8_areParted (o_all_r : Nat → Int32) (o_plans_r : Nat → Int32) (o_shift_r : Nat → Int32) (p1 : Int32) : Option (Int32) :=
  Option.bind (fX8_isParted o_all_r o_plans_r o_shift_r p1 (o_all_r (0 : Int32).toNatClampNeg) (0 : Int32)) fun q9 => if q9 = 0 then fX8_areParted_34 o_all_r o_plans_r o_shift_r p1 else Option.bind (fX8_isParted o_all_r o_plans_r o_shift_r p1 (0 : Int32) (o_all_r (1 : Int32).toNatClampNeg)) fun q24 => if q24 = 0 then fX8_areParted_34 o_all_r o_plans_r o_shift_r p1 else fX8_areParted_35 o_all_r o_plans_r o_shift_r p1 (1 : Int32)
set_option maxHeartbeats 4000000 in
set_option maxRecDepth 100000 in
theorem c_X8_areParted (l : Launch) (dC : Nat → ClassId) (dI : Nat → Nat → Nat) (ca : Nat → ClassId) (sa : Nat → Nat) (h_o : Nat) (h_o_plans : Nat) (h_o_makers : Nat) (h_o_halves : Nat) (h_o_all : Nat) (h_o_text : Nat) (h_o_saved : Nat) (h_o_undone : Nat) (h_o_told : Nat) (h_o_shift : Nat) (h_o_rootOf : Nat) (h_o_becomes : Nat) (h_o_comes : Nat) (h_o_next : Nat) (sz : Nat) (o_raised : Int32) (o_undos : Int32) (o_reached : Int32) (o_length : Int32) (o_begin : Int32) (o_letters : Int32) (o_sort : Int32) (o_word : Int64) (o_wrongAt : Int32) (o_badAt : Int32) (o_bad : Int32) (o_firstX : Int32) (o_firstY : Int32) (o_secondX : Int32) (o_secondY : Int32) (o_x : Int32) (o_all_r : Nat → Int32) (o_plans_r : Nat → Int32) (o_shift_r : Nat → Int32) (p1 : Int32) (res : Int32) (hf : fX8_areParted o_all_r o_plans_r o_shift_r p1 = some res) : Met l yX8_areParted (Cond.code yX8_areParted cX8_areParted 5 (some .boolean) :: ds_gw) { frames := 4, cells := 0, slots := 0, locals := 91 } (va_Pc [.ref h_o, .int p1] (ds_Pre dC dI ca sa [(h_o, .inr (7, [.ref h_o_plans, .ref h_o_makers, .ref h_o_halves, .int o_raised, .ref h_o_all, .ref h_o_text, .ref h_o_saved, .ref h_o_undone, .int o_undos, .int o_reached, .int o_length, .int o_begin, .int o_letters, .int o_sort, .long o_word, .int o_wrongAt, .int o_badAt, .int o_bad, .ref h_o_told, .ref h_o_shift, .int o_firstX, .int o_firstY, .int o_secondX, .int o_secondY, .ref h_o_rootOf, .ref h_o_becomes, .ref h_o_comes, .ref h_o_next, .int o_x])), (h_o_all, .inl (ca 0, 350, .inl o_all_r)), (h_o_plans, .inl (ca 0, 80, .inl o_plans_r)), (h_o_shift, .inl (ca 3, 768, .inl o_shift_r))] sz)) (va_Qi (fun r (_ : Unit) => r = res) (ds_B dC dI (va_A [(h_o, .inr (7, [.ref h_o_plans, .ref h_o_makers, .ref h_o_halves, .int o_raised, .ref h_o_all, .ref h_o_text, .ref h_o_saved, .ref h_o_undone, .int o_undos, .int o_reached, .int o_length, .int o_begin, .int o_letters, .int o_sort, .long o_word, .int o_wrongAt, .int o_badAt, .int o_bad, .ref h_o_told, .ref h_o_shift, .int o_firstX, .int o_firstY, .int o_secondX, .int o_secondY, .ref h_o_rootOf, .ref h_o_becomes, .ref h_o_comes, .ref h_o_next, .int o_x])), (h_o_all, .inl (ca 0, 350, .inl o_all_r)), (h_o_plans, .inl (ca 0, 80, .inl o_plans_r)), (h_o_shift, .inl (ca 3, 768, .inl o_shift_r))] sz) [(h_o, .inr (7, [.ref h_o_plans, .ref h_o_makers, .ref h_o_halves, .int o_raised, .ref h_o_all, .ref h_o_text, .ref h_o_saved, .ref h_o_undone, .int o_undos, .int o_reached, .int o_length, .int o_begin, .int o_letters, .int o_sort, .long o_word, .int o_wrongAt, .int o_badAt, .int o_bad, .ref h_o_told, .ref h_o_shift, .int o_firstX, .int o_firstY, .int o_secondX, .int o_secondY, .ref h_o_rootOf, .ref h_o_becomes, .ref h_o_comes, .ref h_o_next, .int o_x])), (h_o_all, .inl (ca 0, 350, .inl o_all_r)), (h_o_plans, .inl (ca 0, 80, .inl o_plans_r)), (h_o_shift, .inl (ca 3, 768, .inl o_shift_r))]) (va_A [(h_o, .inr (7, [.ref h_o_plans, .ref h_o_makers, .ref h_o_halves, .int o_raised, .ref h_o_all, .ref h_o_text, .ref h_o_saved, .ref h_o_undone, .int o_undos, .int o_reached, .int o_length, .int o_begin, .int o_letters, .int o_sort, .long o_word, .int o_wrongAt, .int o_badAt, .int o_bad, .ref h_o_told, .ref h_o_shift, .int o_firstX, .int o_firstY, .int o_secondX, .int o_secondY, .ref h_o_rootOf, .ref h_o_becomes, .ref h_o_comes, .ref h_o_next, .int o_x])), (h_o_all, .inl (ca 0, 350, .inl o_all_r)), (h_o_plans, .inl (ca 0, 80, .inl o_plans_r)), (h_o_shift, .inl (ca 3, 768, .inl o_shift_r))] sz)) 0 0 (va_A [(h_o, .inr (7, [.ref h_o_plans, .ref h_o_makers, .ref h_o_halves, .int o_raised, .ref h_o_all, .ref h_o_text, .ref h_o_saved, .ref h_o_undone, .int o_undos, .int o_reached, .int o_length, .int o_begin, .int o_letters, .int o_sort, .long o_word, .int o_wrongAt, .int o_badAt, .int o_bad, .ref h_o_told, .ref h_o_shift, .int o_firstX, .int o_firstY, .int o_secondX, .int o_secondY, .ref h_o_rootOf, .ref h_o_becomes, .ref h_o_comes, .ref h_o_next, .int o_x])), (h_o_all, .inl (ca 0, 350, .inl o_all_r)), (h_o_plans, .inl (ca 0, 80, .inl o_plans_r)), (h_o_shift, .inl (ca 3, 768, .inl o_shift_r))] sz) := by
  refine Met.ofW (cc := cX8_areParted) (maxL := 5) (ret := (some .boolean)) (by decide) rfl ?_
  intro p e s m args below meth c s₁ B hml hv
  obtain ⟨rfl, hsz, hP, hK, hD0, hE⟩ := hv
  have hx := B.exec
  have hb := B.bytes
  have hr := B.returns
  have hts := atoms_spec (ws := Cond.code yX8_areParted cX8_areParted 5 (some .boolean) :: ds_gw) B.pre
  have hg : ∀ {w : Cond}, w ∈ ds_gw → w.before _ s = true := fun h => hts _ (List.mem_cons_of_mem _ h)
  have hown : s.vm.findClass RX8 = some m.cls := findClass_of_methodNamed B.named
  have hlocks := B.notSynchronized
  subst hsz
  have hD := hD0.self (sz := s.heap.size)
  generalize hAe : va_A [(h_o, .inr (7, [.ref h_o_plans, .ref h_o_makers, .ref h_o_halves, .int o_raised, .ref h_o_all, .ref h_o_text, .ref h_o_saved, .ref h_o_undone, .int o_undos, .int o_reached, .int o_length, .int o_begin, .int o_letters, .int o_sort, .long o_word, .int o_wrongAt, .int o_badAt, .int o_bad, .ref h_o_told, .ref h_o_shift, .int o_firstX, .int o_firstY, .int o_secondX, .int o_secondY, .ref h_o_rootOf, .ref h_o_becomes, .ref h_o_comes, .ref h_o_next, .int o_x])), (h_o_all, .inl (ca 0, 350, .inl o_all_r)), (h_o_plans, .inl (ca 0, 80, .inl o_plans_r)), (h_o_shift, .inl (ca 3, 768, .inl o_shift_r))] s.heap.size = A at hD hE ⊢
  have hA : ∀ q : Nat, s.heap.size ≤ q → A q := fun q h => by rw [← hAe]; exact Or.inr h
  have hS : va_S A s.heap s.heap [] := va_S.rf
  have hl := lv_entry ([.ref h_o, .int p1]) (n := 5) (Nat.le_of_ble_eq_true rfl)
  rw [lg_entry_eq]
  generalize (lg_sl ([.ref h_o, .int p1]) ++ List.replicate (5 - (lg_sl ([.ref h_o, .int p1])).length) Slot.unset).toArray = ls at hl ⊢
  have hl : lv_has ls 5 [(0, .ref h_o), (1, .int p1)] := hl
  obtain ⟨G0, eG0⟩ : ∃ G : Int32 → Prop, G = (fun r => r = res) := ⟨_, rfl⟩
  obtain ⟨rr, hrr⟩ : ∃ z, z = res := ⟨_, rfl⟩
  rw [← hrr] at hf
  have hG : G0 rr := by subst eG0; exact hrr
  refine ds_cap (fun WW h1 h2 => ?_)
  have J_38 : ∀ (n : Nat) (v2 : Int32) (v3 : Int32) (rr : Int32) (hf : ds_it (fun s => fX8_areParted_38_b o_all_r o_plans_r o_shift_r p1 s.1 s.2) n (v2, v3) = some rr) (hG : G0 rr) (H : Heap) (locs : List Loc) (hP : va_P (dC, dI) vwCl [(h_o, .inr (7, [.ref h_o_plans, .ref h_o_makers, .ref h_o_halves, .int o_raised, .ref h_o_all, .ref h_o_text, .ref h_o_saved, .ref h_o_undone, .int o_undos, .int o_reached, .int o_length, .int o_begin, .int o_letters, .int o_sort, .long o_word, .int o_wrongAt, .int o_badAt, .int o_bad, .ref h_o_told, .ref h_o_shift, .int o_firstX, .int o_firstY, .int o_secondX, .int o_secondY, .ref h_o_rootOf, .ref h_o_becomes, .ref h_o_comes, .ref h_o_next, .int o_x])), (h_o_all, .inl (ca 0, 350, .inl o_all_r)), (h_o_plans, .inl (ca 0, 80, .inl o_plans_r)), (h_o_shift, .inl (ca 3, 768, .inl o_shift_r))] H) (hD : va_D A [(h_o, .inr (7, [.ref h_o_plans, .ref h_o_makers, .ref h_o_halves, .int o_raised, .ref h_o_all, .ref h_o_text, .ref h_o_saved, .ref h_o_undone, .int o_undos, .int o_reached, .int o_length, .int o_begin, .int o_letters, .int o_sort, .long o_word, .int o_wrongAt, .int o_badAt, .int o_bad, .ref h_o_told, .ref h_o_shift, .int o_firstX, .int o_firstY, .int o_secondX, .int o_secondY, .ref h_o_rootOf, .ref h_o_becomes, .ref h_o_comes, .ref h_o_next, .int o_x])), (h_o_all, .inl (ca 0, 350, .inl o_all_r)), (h_o_plans, .inl (ca 0, 80, .inl o_plans_r)), (h_o_shift, .inl (ca 3, 768, .inl o_shift_r))]) (hS : va_S A s.heap H locs) (ls : Array Slot) (hl : lv_has ls 5 [(0, .ref h_o), (1, .int p1), (2, .int v2), (3, .int v3)]), WW H locs (F0 m 38 ls []) := by
    intro  n
    induction n with
    | zero => intro v2 v3 rr hf; exact (ds_it_zero hf).elim
    | succ n ih38 =>
      intro v2 v3 rr hf hG H locs hP hD hS ls hl
      refine h2 ?_
      obtain ⟨rr, hf, hG⟩ := ds_it_succ hf hG
      replace hf : fX8_areParted_38_b o_all_r o_plans_r o_shift_r p1 v2 v3 = some rr := hf
      obtain ⟨G1, eG1⟩ : ∃ G : ((Int32 × Int32) ⊕ (Int32)) → Prop, G = ds_G (fun s' => ∃ r', ds_it (fun s => fX8_areParted_38_b o_all_r o_plans_r o_shift_r p1 s.1 s.2) n s' = some r' ∧ G0 r') G0 := ⟨_, rfl⟩
      rw [← eG1] at hG
      have J_99 : ∀ (v2 : Int32) (v3 : Int32) (rr : (Int32 × Int32) ⊕ (Int32)) (hf : fX8_areParted_99 v2 v3 = some rr) (hG : G1 rr) (H : Heap) (locs : List Loc) (hP : va_P (dC, dI) vwCl [(h_o, .inr (7, [.ref h_o_plans, .ref h_o_makers, .ref h_o_halves, .int o_raised, .ref h_o_all, .ref h_o_text, .ref h_o_saved, .ref h_o_undone, .int o_undos, .int o_reached, .int o_length, .int o_begin, .int o_letters, .int o_sort, .long o_word, .int o_wrongAt, .int o_badAt, .int o_bad, .ref h_o_told, .ref h_o_shift, .int o_firstX, .int o_firstY, .int o_secondX, .int o_secondY, .ref h_o_rootOf, .ref h_o_becomes, .ref h_o_comes, .ref h_o_next, .int o_x])), (h_o_all, .inl (ca 0, 350, .inl o_all_r)), (h_o_plans, .inl (ca 0, 80, .inl o_plans_r)), (h_o_shift, .inl (ca 3, 768, .inl o_shift_r))] H) (hD : va_D A [(h_o, .inr (7, [.ref h_o_plans, .ref h_o_makers, .ref h_o_halves, .int o_raised, .ref h_o_all, .ref h_o_text, .ref h_o_saved, .ref h_o_undone, .int o_undos, .int o_reached, .int o_length, .int o_begin, .int o_letters, .int o_sort, .long o_word, .int o_wrongAt, .int o_badAt, .int o_bad, .ref h_o_told, .ref h_o_shift, .int o_firstX, .int o_firstY, .int o_secondX, .int o_secondY, .ref h_o_rootOf, .ref h_o_becomes, .ref h_o_comes, .ref h_o_next, .int o_x])), (h_o_all, .inl (ca 0, 350, .inl o_all_r)), (h_o_plans, .inl (ca 0, 80, .inl o_plans_r)), (h_o_shift, .inl (ca 3, 768, .inl o_shift_r))]) (hS : va_S A s.heap H locs) (ls : Array Slot) (hl : lv_has ls 5 [(0, .ref h_o), (1, .int p1), (2, .int v2), (3, .int v3)]), WW H locs (F0 m 99 ls []) := by
        intro v2 v3 rr hf hG H locs hP hD hS ls hl
        refine h2 ?_
        unfold fX8_areParted_99 at hf
        refine lv_iinc (v := (v3 + 1)) (lv' := [(3, .int (v3 + 1)), (0, .ref h_o), (1, .int p1), (2, .int v2)]) hx hb dX8_areParted_99 hl (k := 3) rfl rfl (by decide) rfl (fun ls hl => ?_)
        refine lv_goto (tgt := 38) hx hb dX8_areParted_102 (by decide) ?_
        have hf := Option.some.inj hf
        subst hf
        rw [eG1] at hG
        obtain ⟨rr, hf, hG⟩ := hG
        exact h1 (ih38 v2 (v3 + 1) rr hf hG _ _ hP hD hS _ (lv_sub hl [1, 2, 3, 0] rfl))
      have J_51 : ∀ (v3 : Int32) (n : Nat) (v2 : Int32) (v4 : Int32) (rr : (Int32 × Int32) ⊕ (Int32)) (hf : ds_it (fun s => fX8_areParted_51_b o_all_r o_plans_r o_shift_r p1 v3 s.1 s.2) n (v2, v4) = some rr) (hG : G1 rr) (H : Heap) (locs : List Loc) (hP : va_P (dC, dI) vwCl [(h_o, .inr (7, [.ref h_o_plans, .ref h_o_makers, .ref h_o_halves, .int o_raised, .ref h_o_all, .ref h_o_text, .ref h_o_saved, .ref h_o_undone, .int o_undos, .int o_reached, .int o_length, .int o_begin, .int o_letters, .int o_sort, .long o_word, .int o_wrongAt, .int o_badAt, .int o_bad, .ref h_o_told, .ref h_o_shift, .int o_firstX, .int o_firstY, .int o_secondX, .int o_secondY, .ref h_o_rootOf, .ref h_o_becomes, .ref h_o_comes, .ref h_o_next, .int o_x])), (h_o_all, .inl (ca 0, 350, .inl o_all_r)), (h_o_plans, .inl (ca 0, 80, .inl o_plans_r)), (h_o_shift, .inl (ca 3, 768, .inl o_shift_r))] H) (hD : va_D A [(h_o, .inr (7, [.ref h_o_plans, .ref h_o_makers, .ref h_o_halves, .int o_raised, .ref h_o_all, .ref h_o_text, .ref h_o_saved, .ref h_o_undone, .int o_undos, .int o_reached, .int o_length, .int o_begin, .int o_letters, .int o_sort, .long o_word, .int o_wrongAt, .int o_badAt, .int o_bad, .ref h_o_told, .ref h_o_shift, .int o_firstX, .int o_firstY, .int o_secondX, .int o_secondY, .ref h_o_rootOf, .ref h_o_becomes, .ref h_o_comes, .ref h_o_next, .int o_x])), (h_o_all, .inl (ca 0, 350, .inl o_all_r)), (h_o_plans, .inl (ca 0, 80, .inl o_plans_r)), (h_o_shift, .inl (ca 3, 768, .inl o_shift_r))]) (hS : va_S A s.heap H locs) (ls : Array Slot) (hl : lv_has ls 5 [(0, .ref h_o), (1, .int p1), (2, .int v2), (3, .int v3), (4, .int v4)]), WW H locs (F0 m 51 ls []) := by
        intro v3 n
        induction n with
        | zero => intro v2 v4 rr hf; exact (ds_it_zero hf).elim
        | succ n ih51 =>
          intro v2 v4 rr hf hG H locs hP hD hS ls hl
          refine h2 ?_
          obtain ⟨rr, hf, hG⟩ := ds_it_succ hf hG
          replace hf : fX8_areParted_51_b o_all_r o_plans_r o_shift_r p1 v3 v2 v4 = some rr := hf
          obtain ⟨G2, eG2⟩ : ∃ G : ((Int32 × Int32) ⊕ ((Int32 × Int32) ⊕ (Int32))) → Prop, G = ds_G (fun s' => ∃ r', ds_it (fun s => fX8_areParted_51_b o_all_r o_plans_r o_shift_r p1 v3 s.1 s.2) n s' = some r' ∧ G1 r') G1 := ⟨_, rfl⟩
          rw [← eG2] at hG
          have J_92 : ∀ (v4 : Int32) (s0 : Int32) (rr : (Int32 × Int32) ⊕ ((Int32 × Int32) ⊕ (Int32))) (hf : fX8_areParted_92 v4 s0 = some rr) (hG : G2 rr) (H : Heap) (locs : List Loc) (hP : va_P (dC, dI) vwCl [(h_o, .inr (7, [.ref h_o_plans, .ref h_o_makers, .ref h_o_halves, .int o_raised, .ref h_o_all, .ref h_o_text, .ref h_o_saved, .ref h_o_undone, .int o_undos, .int o_reached, .int o_length, .int o_begin, .int o_letters, .int o_sort, .long o_word, .int o_wrongAt, .int o_badAt, .int o_bad, .ref h_o_told, .ref h_o_shift, .int o_firstX, .int o_firstY, .int o_secondX, .int o_secondY, .ref h_o_rootOf, .ref h_o_becomes, .ref h_o_comes, .ref h_o_next, .int o_x])), (h_o_all, .inl (ca 0, 350, .inl o_all_r)), (h_o_plans, .inl (ca 0, 80, .inl o_plans_r)), (h_o_shift, .inl (ca 3, 768, .inl o_shift_r))] H) (hD : va_D A [(h_o, .inr (7, [.ref h_o_plans, .ref h_o_makers, .ref h_o_halves, .int o_raised, .ref h_o_all, .ref h_o_text, .ref h_o_saved, .ref h_o_undone, .int o_undos, .int o_reached, .int o_length, .int o_begin, .int o_letters, .int o_sort, .long o_word, .int o_wrongAt, .int o_badAt, .int o_bad, .ref h_o_told, .ref h_o_shift, .int o_firstX, .int o_firstY, .int o_secondX, .int o_secondY, .ref h_o_rootOf, .ref h_o_becomes, .ref h_o_comes, .ref h_o_next, .int o_x])), (h_o_all, .inl (ca 0, 350, .inl o_all_r)), (h_o_plans, .inl (ca 0, 80, .inl o_plans_r)), (h_o_shift, .inl (ca 3, 768, .inl o_shift_r))]) (hS : va_S A s.heap H locs) (ls : Array Slot) (hl : lv_has ls 5 [(0, .ref h_o), (1, .int p1), (3, .int v3), (4, .int v4)]), WW H locs (F0 m 92 ls [.int s0]) := by
            intro v4 s0 rr hf hG H locs hP hD hS ls hl
            refine h2 ?_
            unfold fX8_areParted_92 at hf
            refine lv_istore_n (lv' := [(2, .int s0), (0, .ref h_o), (1, .int p1), (3, .int v3), (4, .int v4)]) hx hb dX8_areParted_92 rfl hl (by decide) rfl (fun ls hl => ?_)
            refine lv_iinc (v := (v4 + 1)) (lv' := [(4, .int (v4 + 1)), (2, .int s0), (0, .ref h_o), (1, .int p1), (3, .int v3)]) hx hb dX8_areParted_93 hl (k := 4) rfl rfl (by decide) rfl (fun ls hl => ?_)
            refine lv_goto (tgt := 51) hx hb dX8_areParted_96 (by decide) ?_
            have hf := Option.some.inj hf
            subst hf
            rw [eG2] at hG
            obtain ⟨rr, hf, hG⟩ := hG
            exact h1 (ih51 s0 (v4 + 1) rr hf hG _ _ hP hD hS _ (lv_sub hl [2, 3, 1, 4, 0] rfl))
          have J_87 : ∀ (v4 : Int32) (rr : (Int32 × Int32) ⊕ ((Int32 × Int32) ⊕ (Int32))) (hf : fX8_areParted_87 v4 = some rr) (hG : G2 rr) (H : Heap) (locs : List Loc) (hP : va_P (dC, dI) vwCl [(h_o, .inr (7, [.ref h_o_plans, .ref h_o_makers, .ref h_o_halves, .int o_raised, .ref h_o_all, .ref h_o_text, .ref h_o_saved, .ref h_o_undone, .int o_undos, .int o_reached, .int o_length, .int o_begin, .int o_letters, .int o_sort, .long o_word, .int o_wrongAt, .int o_badAt, .int o_bad, .ref h_o_told, .ref h_o_shift, .int o_firstX, .int o_firstY, .int o_secondX, .int o_secondY, .ref h_o_rootOf, .ref h_o_becomes, .ref h_o_comes, .ref h_o_next, .int o_x])), (h_o_all, .inl (ca 0, 350, .inl o_all_r)), (h_o_plans, .inl (ca 0, 80, .inl o_plans_r)), (h_o_shift, .inl (ca 3, 768, .inl o_shift_r))] H) (hD : va_D A [(h_o, .inr (7, [.ref h_o_plans, .ref h_o_makers, .ref h_o_halves, .int o_raised, .ref h_o_all, .ref h_o_text, .ref h_o_saved, .ref h_o_undone, .int o_undos, .int o_reached, .int o_length, .int o_begin, .int o_letters, .int o_sort, .long o_word, .int o_wrongAt, .int o_badAt, .int o_bad, .ref h_o_told, .ref h_o_shift, .int o_firstX, .int o_firstY, .int o_secondX, .int o_secondY, .ref h_o_rootOf, .ref h_o_becomes, .ref h_o_comes, .ref h_o_next, .int o_x])), (h_o_all, .inl (ca 0, 350, .inl o_all_r)), (h_o_plans, .inl (ca 0, 80, .inl o_plans_r)), (h_o_shift, .inl (ca 3, 768, .inl o_shift_r))]) (hS : va_S A s.heap H locs) (ls : Array Slot) (hl : lv_has ls 5 [(0, .ref h_o), (1, .int p1), (3, .int v3), (4, .int v4)]), WW H locs (F0 m 87 ls []) := by
            intro v4 rr hf hG H locs hP hD hS ls hl
            refine h2 ?_
            unfold fX8_areParted_87 at hf
            refine lv_iconst (v := 1) hx hb dX8_areParted_87 (by decide) ?_
            refine lv_goto (tgt := 92) hx hb dX8_areParted_88 (by decide) ?_
            exact h1 (J_92 v4 (1 : Int32) _ hf hG _ _ hP hD hS _ (lv_sub hl [0, 1, 2, 3] rfl))
          unfold fX8_areParted_51_b at hf
          refine lv_iload hx hb dX8_areParted_51 (lv_at hl 4 rfl) ?_
          refine lv_aload_n hx hb dX8_areParted_53 rfl (lv_at hl 0 rfl) ?_
          refine va_get (D := (dC, dI)) (ci := 7) (v := .ref h_o_all) (C := RX8) (T := TX8) (N := 29) hx hb hts (fun w h => List.mem_cons_of_mem _ (kc_X8 w h)) hown hK hP 0 rfl rfl 4 (by decide) (hg kw_594) (fun _ h9 => h9) rfl dX8_areParted_54 ?_
          refine lv_iconst (v := 0) hx hb dX8_areParted_57 (by decide) ?_
          refine va_iald hx hb hK hP 1 0 rfl rfl (ds_in_ok (i := 0) (n := 350) (by decide)) dX8_areParted_58 ?_
          refine lv_icmp_ge (tgt := 99) hx hb dX8_areParted_59 (by decide) (fun c_59 => ?_) (fun c_59 => ?_)
          · replace hf := ds_t c_59 hf
            obtain ⟨rr, hr_0, hf⟩ := ds_ob hf
            have hf := Option.some.inj hf
            subst hf
            rw [eG2] at hG
            replace hG : G1 rr := hG
            have hf := hr_0
            exact h1 (J_99 v2 v3 _ hf hG _ _ hP hD hS _ (lv_sub hl [0, 1, 2, 3] rfl))
          · replace hf := ds_f c_59 hf
            refine lv_iload_n hx hb dX8_areParted_62 rfl (lv_at hl 2 rfl) ?_
            refine lv_if_eq (tgt := 99) hx hb dX8_areParted_63 (by decide) (fun c_63 => ?_) (fun c_63 => ?_)
            · replace hf := ds_t c_63 hf
              obtain ⟨rr, hr_0, hf⟩ := ds_ob hf
              have hf := Option.some.inj hf
              subst hf
              rw [eG2] at hG
              replace hG : G1 rr := hG
              have hf := hr_0
              exact h1 (J_99 v2 v3 _ hf hG _ _ hP hD hS _ (lv_sub hl [0, 1, 2, 3] rfl))
            · replace hf := ds_f c_63 hf
              refine lv_aload_n hx hb dX8_areParted_66 rfl (lv_at hl 0 rfl) ?_
              refine lv_iload hx hb dX8_areParted_67 (lv_at hl 4 rfl) ?_
              refine lv_iload_n hx hb dX8_areParted_69 rfl (lv_at hl 3 rfl) ?_
              obtain ⟨q70, hq70, hf⟩ := ds_ob hf
              refine ds_calli (wr := [(h_o_plans, .inl (ca 0, 80, .inl o_plans_r))]) (va_runV (As := [.int v4, .int v3]) (rest := []) ⟨hx, hb, hml, hown, hts⟩ (c_X8_isStep l dC dI ca sa h_o h_o_plans h_o_makers h_o_halves h_o_all h_o_text h_o_saved h_o_undone h_o_told h_o_shift h_o_rootOf h_o_becomes h_o_comes h_o_next H.size o_raised o_undos o_reached o_length o_begin o_letters o_sort o_word o_wrongAt o_badAt o_bad o_firstX o_firstY o_secondX o_secondY o_x o_all_r o_shift_r v4 v3 q70 hq70) (cwV 2 hts (ds_gV kw_663 kw_664 kw_665 kw_597 kw_666) rfl rfl rfl (by decide +kernel) ⟨Nat.le_of_ble_eq_true rfl, Nat.le_of_ble_eq_true rfl⟩) ⟨ds_blind, va_recv hK hP (ci := 7) (q0 := 0) rfl rfl, ds_at hP hD hK hE hS hA [0, 1, 3] rfl rfl _⟩ rfl rfl hl.1 rfl (lv_room (Nat.le_of_ble_eq_true rfl)) dX8_areParted_70 ⟨Nat.zero_le _, Nat.zero_le _⟩) hP hD hS hA [0, 1, 3] [2] rfl rfl rfl (by decide) (fun H locs hP hD hS => ?_)
              have hP : va_P (dC, dI) vwCl [(h_o_plans, .inl (ca 0, 80, .inl o_plans_r)), (h_o, .inr (7, [.ref h_o_plans, .ref h_o_makers, .ref h_o_halves, .int o_raised, .ref h_o_all, .ref h_o_text, .ref h_o_saved, .ref h_o_undone, .int o_undos, .int o_reached, .int o_length, .int o_begin, .int o_letters, .int o_sort, .long o_word, .int o_wrongAt, .int o_badAt, .int o_bad, .ref h_o_told, .ref h_o_shift, .int o_firstX, .int o_firstY, .int o_secondX, .int o_secondY, .ref h_o_rootOf, .ref h_o_becomes, .ref h_o_comes, .ref h_o_next, .int o_x])), (h_o_all, .inl (ca 0, 350, .inl o_all_r)), (h_o_shift, .inl (ca 3, 768, .inl o_shift_r))] H := hP
              have hD : va_D A [(h_o_plans, .inl (ca 0, 80, .inl o_plans_r)), (h_o, .inr (7, [.ref h_o_plans, .ref h_o_makers, .ref h_o_halves, .int o_raised, .ref h_o_all, .ref h_o_text, .ref h_o_saved, .ref h_o_undone, .int o_undos, .int o_reached, .int o_length, .int o_begin, .int o_letters, .int o_sort, .long o_word, .int o_wrongAt, .int o_badAt, .int o_bad, .ref h_o_told, .ref h_o_shift, .int o_firstX, .int o_firstY, .int o_secondX, .int o_secondY, .ref h_o_rootOf, .ref h_o_becomes, .ref h_o_comes, .ref h_o_next, .int o_x])), (h_o_all, .inl (ca 0, 350, .inl o_all_r)), (h_o_shift, .inl (ca 3, 768, .inl o_shift_r))] := hD
              refine lv_if_eq (tgt := 87) hx hb dX8_areParted_73 (by decide) (fun c_73 => ?_) (fun c_73 => ?_)
              · replace hf := ds_t c_73 hf
                exact h1 (J_87 v4 _ hf hG _ _ (hP.sub [1, 2, 0, 3] rfl) (hD.sub [1, 2, 0, 3] rfl rfl) hS _ (lv_sub hl [0, 1, 3, 4] rfl))
              · replace hf := ds_f c_73 hf
                refine lv_aload_n hx hb dX8_areParted_76 rfl (lv_at hl 0 rfl) ?_
                refine lv_iload_n hx hb dX8_areParted_77 rfl (lv_at hl 1 rfl) ?_
                refine lv_iload hx hb dX8_areParted_78 (lv_at hl 4 rfl) ?_
                refine lv_iload_n hx hb dX8_areParted_80 rfl (lv_at hl 3 rfl) ?_
                obtain ⟨q81, hq81, hf⟩ := ds_ob hf
                refine ds_calli (wr := []) (va_runV (As := [.int p1, .int v4, .int v3]) (rest := []) ⟨hx, hb, hml, hown, hts⟩ (c_X8_isParted l dC dI ca sa h_o h_o_plans h_o_makers h_o_halves h_o_all h_o_text h_o_saved h_o_undone h_o_told h_o_shift h_o_rootOf h_o_becomes h_o_comes h_o_next H.size o_raised o_undos o_reached o_length o_begin o_letters o_sort o_word o_wrongAt o_badAt o_bad o_firstX o_firstY o_secondX o_secondY o_x o_all_r o_plans_r o_shift_r p1 v4 v3 q81 hq81) (cwV 3 hts (ds_gV kw_699 kw_700 kw_701 kw_597 kw_702) rfl rfl rfl (by decide +kernel) ⟨Nat.le_of_ble_eq_true rfl, Nat.le_of_ble_eq_true rfl⟩) ⟨ds_blind, va_recv hK hP (ci := 7) (q0 := 1) rfl rfl, ds_at hP hD hK hE hS hA [1, 2, 0, 3] rfl rfl _⟩ rfl rfl hl.1 rfl (lv_room (Nat.le_of_ble_eq_true rfl)) dX8_areParted_81 ⟨Nat.zero_le _, Nat.zero_le _⟩) hP hD hS hA [1, 2, 0, 3] [] rfl rfl rfl (by decide) (fun H locs hP hD hS => ?_)
                have hP : va_P (dC, dI) vwCl [(h_o, .inr (7, [.ref h_o_plans, .ref h_o_makers, .ref h_o_halves, .int o_raised, .ref h_o_all, .ref h_o_text, .ref h_o_saved, .ref h_o_undone, .int o_undos, .int o_reached, .int o_length, .int o_begin, .int o_letters, .int o_sort, .long o_word, .int o_wrongAt, .int o_badAt, .int o_bad, .ref h_o_told, .ref h_o_shift, .int o_firstX, .int o_firstY, .int o_secondX, .int o_secondY, .ref h_o_rootOf, .ref h_o_becomes, .ref h_o_comes, .ref h_o_next, .int o_x])), (h_o_all, .inl (ca 0, 350, .inl o_all_r)), (h_o_plans, .inl (ca 0, 80, .inl o_plans_r)), (h_o_shift, .inl (ca 3, 768, .inl o_shift_r))] H := hP
                have hD : va_D A [(h_o, .inr (7, [.ref h_o_plans, .ref h_o_makers, .ref h_o_halves, .int o_raised, .ref h_o_all, .ref h_o_text, .ref h_o_saved, .ref h_o_undone, .int o_undos, .int o_reached, .int o_length, .int o_begin, .int o_letters, .int o_sort, .long o_word, .int o_wrongAt, .int o_badAt, .int o_bad, .ref h_o_told, .ref h_o_shift, .int o_firstX, .int o_firstY, .int o_secondX, .int o_secondY, .ref h_o_rootOf, .ref h_o_becomes, .ref h_o_comes, .ref h_o_next, .int o_x])), (h_o_all, .inl (ca 0, 350, .inl o_all_r)), (h_o_plans, .inl (ca 0, 80, .inl o_plans_r)), (h_o_shift, .inl (ca 3, 768, .inl o_shift_r))] := hD
                refine lv_if_eq (tgt := 91) hx hb dX8_areParted_84 (by decide) (fun c_84 => ?_) (fun c_84 => ?_)
                · replace hf := ds_t c_84 hf
                  refine lv_iconst (v := 0) hx hb dX8_areParted_91 (by decide) ?_
                  exact h1 (J_92 v4 (0 : Int32) _ hf hG _ _ hP hD hS _ (lv_sub hl [0, 1, 3, 4] rfl))
                · replace hf := ds_f c_84 hf
                  exact h1 (J_87 v4 _ hf hG _ _ hP hD hS _ (lv_sub hl [0, 1, 3, 4] rfl))
      unfold fX8_areParted_38_b at hf
      refine lv_iload_n hx hb dX8_areParted_38 rfl (lv_at hl 3 rfl) ?_
      refine lv_aload_n hx hb dX8_areParted_39 rfl (lv_at hl 0 rfl) ?_
      refine va_get (D := (dC, dI)) (ci := 7) (v := .ref h_o_all) (C := RX8) (T := TX8) (N := 29) hx hb hts (fun w h => List.mem_cons_of_mem _ (kc_X8 w h)) hown hK hP 0 rfl rfl 4 (by decide) (hg kw_594) (fun _ h9 => h9) rfl dX8_areParted_40 ?_
      refine lv_iconst (v := 1) hx hb dX8_areParted_43 (by decide) ?_
      refine va_iald hx hb hK hP 1 0 rfl rfl (ds_in_ok (i := 1) (n := 350) (by decide)) dX8_areParted_44 ?_
      refine lv_icmp_ge (tgt := 105) hx hb dX8_areParted_45 (by decide) (fun c_45 => ?_) (fun c_45 => ?_)
      · replace hf := ds_t c_45 hf
        refine lv_iload_n hx hb dX8_areParted_105 rfl (lv_at hl 2 rfl) ?_
        obtain ⟨z_106, hf⟩ := ds_c hf
        have hf := Option.some.inj hf
        subst hf
        rw [eG1] at hG
        replace hG : G0 _ := hG
        rw [eG0] at hG
        have hG : _ = res := hG
        subst hG
        exact W.zret (v := v2) (ty := .boolean) hx hb hr (ds_zn z_106) (fun t ht hW => ⟨⟨v2, (), rfl, rfl, by rw [ht]; exact hP, hD⟩, hS.F ht⟩) hS.2.2 dX8_areParted_106
      · replace hf := ds_f c_45 hf
        refine lv_iconst (v := 0) hx hb dX8_areParted_48 (by decide) ?_
        refine lv_istore (lv' := [(4, .int (0 : Int32)), (0, .ref h_o), (1, .int p1), (2, .int v2), (3, .int v3)]) hx hb dX8_areParted_49 hl (by decide) rfl (fun ls hl => ?_)
        exact h1 (J_51 v3 1000 v2 (0 : Int32) _ hf hG _ _ hP hD hS _ (lv_sub hl [1, 2, 3, 4, 0] rfl))
  have J_35 : ∀ (s0 : Int32) (rr : Int32) (hf : fX8_areParted_35 o_all_r o_plans_r o_shift_r p1 s0 = some rr) (hG : G0 rr) (H : Heap) (locs : List Loc) (hP : va_P (dC, dI) vwCl [(h_o, .inr (7, [.ref h_o_plans, .ref h_o_makers, .ref h_o_halves, .int o_raised, .ref h_o_all, .ref h_o_text, .ref h_o_saved, .ref h_o_undone, .int o_undos, .int o_reached, .int o_length, .int o_begin, .int o_letters, .int o_sort, .long o_word, .int o_wrongAt, .int o_badAt, .int o_bad, .ref h_o_told, .ref h_o_shift, .int o_firstX, .int o_firstY, .int o_secondX, .int o_secondY, .ref h_o_rootOf, .ref h_o_becomes, .ref h_o_comes, .ref h_o_next, .int o_x])), (h_o_all, .inl (ca 0, 350, .inl o_all_r)), (h_o_plans, .inl (ca 0, 80, .inl o_plans_r)), (h_o_shift, .inl (ca 3, 768, .inl o_shift_r))] H) (hD : va_D A [(h_o, .inr (7, [.ref h_o_plans, .ref h_o_makers, .ref h_o_halves, .int o_raised, .ref h_o_all, .ref h_o_text, .ref h_o_saved, .ref h_o_undone, .int o_undos, .int o_reached, .int o_length, .int o_begin, .int o_letters, .int o_sort, .long o_word, .int o_wrongAt, .int o_badAt, .int o_bad, .ref h_o_told, .ref h_o_shift, .int o_firstX, .int o_firstY, .int o_secondX, .int o_secondY, .ref h_o_rootOf, .ref h_o_becomes, .ref h_o_comes, .ref h_o_next, .int o_x])), (h_o_all, .inl (ca 0, 350, .inl o_all_r)), (h_o_plans, .inl (ca 0, 80, .inl o_plans_r)), (h_o_shift, .inl (ca 3, 768, .inl o_shift_r))]) (hS : va_S A s.heap H locs) (ls : Array Slot) (hl : lv_has ls 5 [(0, .ref h_o), (1, .int p1)]), WW H locs (F0 m 35 ls [.int s0]) := by
    intro s0 rr hf hG H locs hP hD hS ls hl
    refine h2 ?_
    unfold fX8_areParted_35 at hf
    refine lv_istore_n (lv' := [(2, .int s0), (0, .ref h_o), (1, .int p1)]) hx hb dX8_areParted_35 rfl hl (by decide) rfl (fun ls hl => ?_)
    refine lv_iconst (v := 0) hx hb dX8_areParted_36 (by decide) ?_
    refine lv_istore_n (lv' := [(3, .int (0 : Int32)), (2, .int s0), (0, .ref h_o), (1, .int p1)]) hx hb dX8_areParted_37 rfl hl (by decide) rfl (fun ls hl => ?_)
    exact h1 (J_38  1000 s0 (0 : Int32) _ hf hG _ _ hP hD hS _ (lv_sub hl [2, 3, 1, 0] rfl))
  have J_34 : ∀ (rr : Int32) (hf : fX8_areParted_34 o_all_r o_plans_r o_shift_r p1 = some rr) (hG : G0 rr) (H : Heap) (locs : List Loc) (hP : va_P (dC, dI) vwCl [(h_o, .inr (7, [.ref h_o_plans, .ref h_o_makers, .ref h_o_halves, .int o_raised, .ref h_o_all, .ref h_o_text, .ref h_o_saved, .ref h_o_undone, .int o_undos, .int o_reached, .int o_length, .int o_begin, .int o_letters, .int o_sort, .long o_word, .int o_wrongAt, .int o_badAt, .int o_bad, .ref h_o_told, .ref h_o_shift, .int o_firstX, .int o_firstY, .int o_secondX, .int o_secondY, .ref h_o_rootOf, .ref h_o_becomes, .ref h_o_comes, .ref h_o_next, .int o_x])), (h_o_all, .inl (ca 0, 350, .inl o_all_r)), (h_o_plans, .inl (ca 0, 80, .inl o_plans_r)), (h_o_shift, .inl (ca 3, 768, .inl o_shift_r))] H) (hD : va_D A [(h_o, .inr (7, [.ref h_o_plans, .ref h_o_makers, .ref h_o_halves, .int o_raised, .ref h_o_all, .ref h_o_text, .ref h_o_saved, .ref h_o_undone, .int o_undos, .int o_reached, .int o_length, .int o_begin, .int o_letters, .int o_sort, .long o_word, .int o_wrongAt, .int o_badAt, .int o_bad, .ref h_o_told, .ref h_o_shift, .int o_firstX, .int o_firstY, .int o_secondX, .int o_secondY, .ref h_o_rootOf, .ref h_o_becomes, .ref h_o_comes, .ref h_o_next, .int o_x])), (h_o_all, .inl (ca 0, 350, .inl o_all_r)), (h_o_plans, .inl (ca 0, 80, .inl o_plans_r)), (h_o_shift, .inl (ca 3, 768, .inl o_shift_r))]) (hS : va_S A s.heap H locs) (ls : Array Slot) (hl : lv_has ls 5 [(0, .ref h_o), (1, .int p1)]), WW H locs (F0 m 34 ls []) := by
    intro  rr hf hG H locs hP hD hS ls hl
    refine h2 ?_
    unfold fX8_areParted_34 at hf
    refine lv_iconst (v := 0) hx hb dX8_areParted_34 (by decide) ?_
    exact h1 (J_35 (0 : Int32) _ hf hG _ _ hP hD hS _ (lv_sub hl [0, 1] rfl))
  unfold fX8_areParted at hf
  refine lv_aload_n hx hb dX8_areParted_0 rfl (lv_at hl 0 rfl) ?_
  refine lv_iload_n hx hb dX8_areParted_1 rfl (lv_at hl 1 rfl) ?_
  refine lv_aload_n hx hb dX8_areParted_2 rfl (lv_at hl 0 rfl) ?_
  refine va_get (D := (dC, dI)) (ci := 7) (v := .ref h_o_all) (C := RX8) (T := TX8) (N := 29) hx hb hts (fun w h => List.mem_cons_of_mem _ (kc_X8 w h)) hown hK hP 0 rfl rfl 4 (by decide) (hg kw_594) (fun _ h9 => h9) rfl dX8_areParted_3 ?_
  refine lv_iconst (v := 0) hx hb dX8_areParted_6 (by decide) ?_
  refine va_iald hx hb hK hP 1 0 rfl rfl (ds_in_ok (i := 0) (n := 350) (by decide)) dX8_areParted_7 ?_
  refine lv_iconst (v := 0) hx hb dX8_areParted_8 (by decide) ?_
  obtain ⟨q9, hq9, hf⟩ := ds_ob hf
  refine ds_calli (wr := []) (va_runV (As := [.int p1, .int (o_all_r (0 : Int32).toNatClampNeg), .int (0 : Int32)]) (rest := []) ⟨hx, hb, hml, hown, hts⟩ (c_X8_isParted l dC dI ca sa h_o h_o_plans h_o_makers h_o_halves h_o_all h_o_text h_o_saved h_o_undone h_o_told h_o_shift h_o_rootOf h_o_becomes h_o_comes h_o_next s.heap.size o_raised o_undos o_reached o_length o_begin o_letters o_sort o_word o_wrongAt o_badAt o_bad o_firstX o_firstY o_secondX o_secondY o_x o_all_r o_plans_r o_shift_r p1 (o_all_r (0 : Int32).toNatClampNeg) (0 : Int32) q9 hq9) (cwV 3 hts (ds_gV kw_699 kw_700 kw_701 kw_597 kw_702) rfl rfl rfl (by decide +kernel) ⟨Nat.le_of_ble_eq_true rfl, Nat.le_of_ble_eq_true rfl⟩) ⟨ds_blind, va_recv hK hP (ci := 7) (q0 := 0) rfl rfl, ds_at hP hD hK hE hS hA [0, 1, 2, 3] rfl rfl _⟩ rfl rfl hl.1 rfl (lv_room (Nat.le_of_ble_eq_true rfl)) dX8_areParted_9 ⟨Nat.zero_le _, Nat.zero_le _⟩) hP hD hS hA [0, 1, 2, 3] [] rfl rfl rfl (by decide) (fun H locs hP hD hS => ?_)
  have hP : va_P (dC, dI) vwCl [(h_o, .inr (7, [.ref h_o_plans, .ref h_o_makers, .ref h_o_halves, .int o_raised, .ref h_o_all, .ref h_o_text, .ref h_o_saved, .ref h_o_undone, .int o_undos, .int o_reached, .int o_length, .int o_begin, .int o_letters, .int o_sort, .long o_word, .int o_wrongAt, .int o_badAt, .int o_bad, .ref h_o_told, .ref h_o_shift, .int o_firstX, .int o_firstY, .int o_secondX, .int o_secondY, .ref h_o_rootOf, .ref h_o_becomes, .ref h_o_comes, .ref h_o_next, .int o_x])), (h_o_all, .inl (ca 0, 350, .inl o_all_r)), (h_o_plans, .inl (ca 0, 80, .inl o_plans_r)), (h_o_shift, .inl (ca 3, 768, .inl o_shift_r))] H := hP
  have hD : va_D A [(h_o, .inr (7, [.ref h_o_plans, .ref h_o_makers, .ref h_o_halves, .int o_raised, .ref h_o_all, .ref h_o_text, .ref h_o_saved, .ref h_o_undone, .int o_undos, .int o_reached, .int o_length, .int o_begin, .int o_letters, .int o_sort, .long o_word, .int o_wrongAt, .int o_badAt, .int o_bad, .ref h_o_told, .ref h_o_shift, .int o_firstX, .int o_firstY, .int o_secondX, .int o_secondY, .ref h_o_rootOf, .ref h_o_becomes, .ref h_o_comes, .ref h_o_next, .int o_x])), (h_o_all, .inl (ca 0, 350, .inl o_all_r)), (h_o_plans, .inl (ca 0, 80, .inl o_plans_r)), (h_o_shift, .inl (ca 3, 768, .inl o_shift_r))] := hD
  refine lv_if_eq (tgt := 34) hx hb dX8_areParted_12 (by decide) (fun c_12 => ?_) (fun c_12 => ?_)
  · replace hf := ds_t c_12 hf
    exact h1 (J_34  _ hf hG _ _ hP hD hS _ (lv_sub hl [0, 1] rfl))
  · replace hf := ds_f c_12 hf
    refine lv_aload_n hx hb dX8_areParted_15 rfl (lv_at hl 0 rfl) ?_
    refine lv_iload_n hx hb dX8_areParted_16 rfl (lv_at hl 1 rfl) ?_
    refine lv_iconst (v := 0) hx hb dX8_areParted_17 (by decide) ?_
    refine lv_aload_n hx hb dX8_areParted_18 rfl (lv_at hl 0 rfl) ?_
    refine va_get (D := (dC, dI)) (ci := 7) (v := .ref h_o_all) (C := RX8) (T := TX8) (N := 29) hx hb hts (fun w h => List.mem_cons_of_mem _ (kc_X8 w h)) hown hK hP 0 rfl rfl 4 (by decide) (hg kw_594) (fun _ h9 => h9) rfl dX8_areParted_19 ?_
    refine lv_iconst (v := 1) hx hb dX8_areParted_22 (by decide) ?_
    refine va_iald hx hb hK hP 1 0 rfl rfl (ds_in_ok (i := 1) (n := 350) (by decide)) dX8_areParted_23 ?_
    obtain ⟨q24, hq24, hf⟩ := ds_ob hf
    refine ds_calli (wr := []) (va_runV (As := [.int p1, .int (0 : Int32), .int (o_all_r (1 : Int32).toNatClampNeg)]) (rest := []) ⟨hx, hb, hml, hown, hts⟩ (c_X8_isParted l dC dI ca sa h_o h_o_plans h_o_makers h_o_halves h_o_all h_o_text h_o_saved h_o_undone h_o_told h_o_shift h_o_rootOf h_o_becomes h_o_comes h_o_next H.size o_raised o_undos o_reached o_length o_begin o_letters o_sort o_word o_wrongAt o_badAt o_bad o_firstX o_firstY o_secondX o_secondY o_x o_all_r o_plans_r o_shift_r p1 (0 : Int32) (o_all_r (1 : Int32).toNatClampNeg) q24 hq24) (cwV 3 hts (ds_gV kw_699 kw_700 kw_701 kw_597 kw_702) rfl rfl rfl (by decide +kernel) ⟨Nat.le_of_ble_eq_true rfl, Nat.le_of_ble_eq_true rfl⟩) ⟨ds_blind, va_recv hK hP (ci := 7) (q0 := 0) rfl rfl, ds_at hP hD hK hE hS hA [0, 1, 2, 3] rfl rfl _⟩ rfl rfl hl.1 rfl (lv_room (Nat.le_of_ble_eq_true rfl)) dX8_areParted_24 ⟨Nat.zero_le _, Nat.zero_le _⟩) hP hD hS hA [0, 1, 2, 3] [] rfl rfl rfl (by decide) (fun H locs hP hD hS => ?_)
    have hP : va_P (dC, dI) vwCl [(h_o, .inr (7, [.ref h_o_plans, .ref h_o_makers, .ref h_o_halves, .int o_raised, .ref h_o_all, .ref h_o_text, .ref h_o_saved, .ref h_o_undone, .int o_undos, .int o_reached, .int o_length, .int o_begin, .int o_letters, .int o_sort, .long o_word, .int o_wrongAt, .int o_badAt, .int o_bad, .ref h_o_told, .ref h_o_shift, .int o_firstX, .int o_firstY, .int o_secondX, .int o_secondY, .ref h_o_rootOf, .ref h_o_becomes, .ref h_o_comes, .ref h_o_next, .int o_x])), (h_o_all, .inl (ca 0, 350, .inl o_all_r)), (h_o_plans, .inl (ca 0, 80, .inl o_plans_r)), (h_o_shift, .inl (ca 3, 768, .inl o_shift_r))] H := hP
    have hD : va_D A [(h_o, .inr (7, [.ref h_o_plans, .ref h_o_makers, .ref h_o_halves, .int o_raised, .ref h_o_all, .ref h_o_text, .ref h_o_saved, .ref h_o_undone, .int o_undos, .int o_reached, .int o_length, .int o_begin, .int o_letters, .int o_sort, .long o_word, .int o_wrongAt, .int o_badAt, .int o_bad, .ref h_o_told, .ref h_o_shift, .int o_firstX, .int o_firstY, .int o_secondX, .int o_secondY, .ref h_o_rootOf, .ref h_o_becomes, .ref h_o_comes, .ref h_o_next, .int o_x])), (h_o_all, .inl (ca 0, 350, .inl o_all_r)), (h_o_plans, .inl (ca 0, 80, .inl o_plans_r)), (h_o_shift, .inl (ca 3, 768, .inl o_shift_r))] := hD
    refine lv_if_eq (tgt := 34) hx hb dX8_areParted_27 (by decide) (fun c_27 => ?_) (fun c_27 => ?_)
    · replace hf := ds_t c_27 hf
      exact h1 (J_34  _ hf hG _ _ hP hD hS _ (lv_sub hl [0, 1] rfl))
    · replace hf := ds_f c_27 hf
      refine lv_iconst (v := 1) hx hb dX8_areParted_30 (by decide) ?_
      refine lv_goto (tgt := 35) hx hb dX8_areParted_31 (by decide) ?_
      exact h1 (J_35 (1 : Int32) _ hf hG _ _ hP hD hS _ (lv_sub hl [0, 1] rfl))
theorem dX8_flips_0 : decode cX8_flips 0 = .ok (.iconst 0, 1) := by decide +kernel
theorem dX8_flips_1 : decode cX8_flips 1 = .ok (.istore_n 2, 1) := by decide +kernel
theorem dX8_flips_2 : decode cX8_flips 2 = .ok (.aload_n 0, 1) := by decide +kernel
theorem dX8_flips_3 : decode cX8_flips 3 = .ok (.invokevirtual 62, 3) := by decide +kernel
theorem dX8_flips_6 : decode cX8_flips 6 = .ok (.iconst 2, 1) := by decide +kernel
theorem dX8_flips_7 : decode cX8_flips 7 = .ok (.idiv, 1) := by decide +kernel
theorem dX8_flips_8 : decode cX8_flips 8 = .ok (.istore_n 3, 1) := by decide +kernel
theorem dX8_flips_9 : decode cX8_flips 9 = .ok (.iload_n 3, 1) := by decide +kernel
theorem dX8_flips_10 : decode cX8_flips 10 = .ok (.aload_n 0, 1) := by decide +kernel
theorem dX8_flips_11 : decode cX8_flips 11 = .ok (.invokevirtual 62, 3) := by decide +kernel
theorem dX8_flips_14 : decode cX8_flips 14 = .ok (.if_icmp .ge 63, 3) := by decide +kernel
theorem dX8_flips_17 : decode cX8_flips 17 = .ok (.aload_n 0, 1) := by decide +kernel
theorem dX8_flips_18 : decode cX8_flips 18 = .ok (.iload_n 3, 1) := by decide +kernel
theorem dX8_flips_19 : decode cX8_flips 19 = .ok (.invokevirtual 180, 3) := by decide +kernel
theorem dX8_flips_22 : decode cX8_flips 22 = .ok (.ifCond .eq 49, 3) := by decide +kernel
theorem dX8_flips_25 : decode cX8_flips 25 = .ok (.iload_n 2, 1) := by decide +kernel
theorem dX8_flips_26 : decode cX8_flips 26 = .ok (.iload_n 1, 1) := by decide +kernel
theorem dX8_flips_27 : decode cX8_flips 27 = .ok (.ifCond .eq 37, 3) := by decide +kernel
theorem dX8_flips_30 : decode cX8_flips 30 = .ok (.iload_n 1, 1) := by decide +kernel
theorem dX8_flips_31 : decode cX8_flips 31 = .ok (.iconst 3, 1) := by decide +kernel
theorem dX8_flips_32 : decode cX8_flips 32 = .ok (.if_icmp .ne 14, 3) := by decide +kernel
theorem dX8_flips_35 : decode cX8_flips 35 = .ok (.aload_n 0, 1) := by decide +kernel
theorem dX8_flips_36 : decode cX8_flips 36 = .ok (.iload_n 3, 1) := by decide +kernel
theorem dX8_flips_37 : decode cX8_flips 37 = .ok (.invokevirtual 183, 3) := by decide +kernel
theorem dX8_flips_40 : decode cX8_flips 40 = .ok (.ifCond .ne 28, 3) := by decide +kernel
theorem dX8_flips_43 : decode cX8_flips 43 = .ok (.goto 21, 3) := by decide +kernel
theorem dX8_flips_46 : decode cX8_flips 46 = .ok (.aload_n 0, 1) := by decide +kernel
theorem dX8_flips_47 : decode cX8_flips 47 = .ok (.iload_n 3, 1) := by decide +kernel
theorem dX8_flips_48 : decode cX8_flips 48 = .ok (.invokevirtual 186, 3) := by decide +kernel
theorem dX8_flips_51 : decode cX8_flips 51 = .ok (.iload_n 1, 1) := by decide +kernel
theorem dX8_flips_52 : decode cX8_flips 52 = .ok (.iconst 1, 1) := by decide +kernel
theorem dX8_flips_53 : decode cX8_flips 53 = .ok (.if_icmp .ne 7, 3) := by decide +kernel
theorem dX8_flips_56 : decode cX8_flips 56 = .ok (.iconst 1, 1) := by decide +kernel
theorem dX8_flips_57 : decode cX8_flips 57 = .ok (.goto 4, 3) := by decide +kernel
theorem dX8_flips_60 : decode cX8_flips 60 = .ok (.iconst 0, 1) := by decide +kernel
theorem dX8_flips_61 : decode cX8_flips 61 = .ok (.if_icmp .ne 7, 3) := by decide +kernel
theorem dX8_flips_64 : decode cX8_flips 64 = .ok (.iconst 1, 1) := by decide +kernel
theorem dX8_flips_65 : decode cX8_flips 65 = .ok (.goto 4, 3) := by decide +kernel
theorem dX8_flips_68 : decode cX8_flips 68 = .ok (.iconst 0, 1) := by decide +kernel
theorem dX8_flips_69 : decode cX8_flips 69 = .ok (.iadd, 1) := by decide +kernel
theorem dX8_flips_70 : decode cX8_flips 70 = .ok (.istore_n 2, 1) := by decide +kernel
theorem dX8_flips_71 : decode cX8_flips 71 = .ok (.iinc 3 1, 3) := by decide +kernel
theorem dX8_flips_74 : decode cX8_flips 74 = .ok (.goto (-65), 3) := by decide +kernel
theorem dX8_flips_77 : decode cX8_flips 77 = .ok (.iload_n 2, 1) := by decide +kernel
theorem dX8_flips_78 : decode cX8_flips 78 = .ok (.ireturn, 1) := by decide +kernel
def fX8_flips_71 (v2 : Int32) (v3 : Int32) : Option ((Int32 × Int32) ⊕ (Int32)) :=
  some (.inl (v2, (v3 + 1)))
def fX8_flips_69 (v3 : Int32) (s0 : Int32) (s1 : Int32) : Option ((Int32 × Int32) ⊕ (Int32)) :=
  fX8_flips_71 (s1 + s0) v3
def fX8_flips_68 (v3 : Int32) (s0 : Int32) : Option ((Int32 × Int32) ⊕ (Int32)) :=
  fX8_flips_69 v3 (0 : Int32) s0
def fX8_flips_64 (v3 : Int32) (s0 : Int32) : Option ((Int32 × Int32) ⊕ (Int32)) :=
  fX8_flips_69 v3 (1 : Int32) s0
def fX8_flips_61 (v3 : Int32) (s0 : Int32) (s1 : Int32) (s2 : Int32) : Option ((Int32 × Int32) ⊕ (Int32)) :=
  if s1 = s0 then fX8_flips_64 v3 s2 else fX8_flips_68 v3 s2
def fX8_flips_9_b (o_all_r : Nat → Int32) (o_shift_r : Nat → Int32) (o_plans_r : Nat → Int32) (p1 : Int32) (v2 : Int32) (v3 : Int32) : Option ((Int32 × Int32) ⊕ (Int32)) :=
  Option.bind (fX8_turnings o_all_r) fun q11 => if q11 ≤ v3 then some (.inr v2) else Option.bind (fX8_isFlipThere o_all_r o_shift_r v3) fun q19 => if q19 = 0 then fX8_flips_71 v2 v3 else if p1 = 0 then fX8_flips_64 v3 v2 else if p1 = (3 : Int32) then Option.bind (fX8_areParted o_all_r o_plans_r o_shift_r v3) fun q37 => if q37 = 0 then fX8_flips_64 v3 v2 else fX8_flips_68 v3 v2 else Option.bind (fX8_isMirror o_all_r o_plans_r o_shift_r v3) fun q48 => if p1 = (1 : Int32) then fX8_flips_61 v3 (1 : Int32) q48 v2 else fX8_flips_61 v3 (0 : Int32) q48 v2
def fX8_flips_9 (o_all_r : Nat → Int32) (o_shift_r : Nat → Int32) (o_plans_r : Nat → Int32) (p1 : Int32) (v2 : Int32) (v3 : Int32) : Option (Int32) := ds_it (fun s => fX8_flips_9_b o_all_r o_shift_r o_plans_r p1 s.1 s.2) 1000 (v2, v3)
def fX8_flips (o_all_r : Nat → Int32) (o_shift_r : Nat → Int32) (o_plans_r : Nat → Int32) (p1 : Int32) : Option (Int32) :=
  Option.bind (fX8_turnings o_all_r) fun q3 => fX8_flips_9 o_all_r o_shift_r o_plans_r p1 (0 : Int32) (q3 / (2 : Int32))
set_option maxHeartbeats 4000000 in
set_option maxRecDepth 100000 in
theorem c_X8_flips (l : Launch) (dC : Nat → ClassId) (dI : Nat → Nat → Nat) (ca : Nat → ClassId) (sa : Nat → Nat) (h_o : Nat) (h_o_plans : Nat) (h_o_makers : Nat) (h_o_halves : Nat) (h_o_all : Nat) (h_o_text : Nat) (h_o_saved : Nat) (h_o_undone : Nat) (h_o_told : Nat) (h_o_shift : Nat) (h_o_rootOf : Nat) (h_o_becomes : Nat) (h_o_comes : Nat) (h_o_next : Nat) (sz : Nat) (o_raised : Int32) (o_undos : Int32) (o_reached : Int32) (o_length : Int32) (o_begin : Int32) (o_letters : Int32) (o_sort : Int32) (o_word : Int64) (o_wrongAt : Int32) (o_badAt : Int32) (o_bad : Int32) (o_firstX : Int32) (o_firstY : Int32) (o_secondX : Int32) (o_secondY : Int32) (o_x : Int32) (o_all_r : Nat → Int32) (o_shift_r : Nat → Int32) (o_plans_r : Nat → Int32) (p1 : Int32) (res : Int32) (hf : fX8_flips o_all_r o_shift_r o_plans_r p1 = some res) : Met l yX8_flips (Cond.code yX8_flips cX8_flips 4 (some .int) :: ds_gw) { frames := 5, cells := 0, slots := 0, locals := 115 } (va_Pc [.ref h_o, .int p1] (ds_Pre dC dI ca sa [(h_o, .inr (7, [.ref h_o_plans, .ref h_o_makers, .ref h_o_halves, .int o_raised, .ref h_o_all, .ref h_o_text, .ref h_o_saved, .ref h_o_undone, .int o_undos, .int o_reached, .int o_length, .int o_begin, .int o_letters, .int o_sort, .long o_word, .int o_wrongAt, .int o_badAt, .int o_bad, .ref h_o_told, .ref h_o_shift, .int o_firstX, .int o_firstY, .int o_secondX, .int o_secondY, .ref h_o_rootOf, .ref h_o_becomes, .ref h_o_comes, .ref h_o_next, .int o_x])), (h_o_all, .inl (ca 0, 350, .inl o_all_r)), (h_o_shift, .inl (ca 3, 768, .inl o_shift_r)), (h_o_plans, .inl (ca 0, 80, .inl o_plans_r))] sz)) (va_Qi (fun r (_ : Unit) => r = res) (ds_B dC dI (va_A [(h_o, .inr (7, [.ref h_o_plans, .ref h_o_makers, .ref h_o_halves, .int o_raised, .ref h_o_all, .ref h_o_text, .ref h_o_saved, .ref h_o_undone, .int o_undos, .int o_reached, .int o_length, .int o_begin, .int o_letters, .int o_sort, .long o_word, .int o_wrongAt, .int o_badAt, .int o_bad, .ref h_o_told, .ref h_o_shift, .int o_firstX, .int o_firstY, .int o_secondX, .int o_secondY, .ref h_o_rootOf, .ref h_o_becomes, .ref h_o_comes, .ref h_o_next, .int o_x])), (h_o_all, .inl (ca 0, 350, .inl o_all_r)), (h_o_shift, .inl (ca 3, 768, .inl o_shift_r)), (h_o_plans, .inl (ca 0, 80, .inl o_plans_r))] sz) [(h_o, .inr (7, [.ref h_o_plans, .ref h_o_makers, .ref h_o_halves, .int o_raised, .ref h_o_all, .ref h_o_text, .ref h_o_saved, .ref h_o_undone, .int o_undos, .int o_reached, .int o_length, .int o_begin, .int o_letters, .int o_sort, .long o_word, .int o_wrongAt, .int o_badAt, .int o_bad, .ref h_o_told, .ref h_o_shift, .int o_firstX, .int o_firstY, .int o_secondX, .int o_secondY, .ref h_o_rootOf, .ref h_o_becomes, .ref h_o_comes, .ref h_o_next, .int o_x])), (h_o_all, .inl (ca 0, 350, .inl o_all_r)), (h_o_shift, .inl (ca 3, 768, .inl o_shift_r)), (h_o_plans, .inl (ca 0, 80, .inl o_plans_r))]) (va_A [(h_o, .inr (7, [.ref h_o_plans, .ref h_o_makers, .ref h_o_halves, .int o_raised, .ref h_o_all, .ref h_o_text, .ref h_o_saved, .ref h_o_undone, .int o_undos, .int o_reached, .int o_length, .int o_begin, .int o_letters, .int o_sort, .long o_word, .int o_wrongAt, .int o_badAt, .int o_bad, .ref h_o_told, .ref h_o_shift, .int o_firstX, .int o_firstY, .int o_secondX, .int o_secondY, .ref h_o_rootOf, .ref h_o_becomes, .ref h_o_comes, .ref h_o_next, .int o_x])), (h_o_all, .inl (ca 0, 350, .inl o_all_r)), (h_o_shift, .inl (ca 3, 768, .inl o_shift_r)), (h_o_plans, .inl (ca 0, 80, .inl o_plans_r))] sz)) 0 0 (va_A [(h_o, .inr (7, [.ref h_o_plans, .ref h_o_makers, .ref h_o_halves, .int o_raised, .ref h_o_all, .ref h_o_text, .ref h_o_saved, .ref h_o_undone, .int o_undos, .int o_reached, .int o_length, .int o_begin, .int o_letters, .int o_sort, .long o_word, .int o_wrongAt, .int o_badAt, .int o_bad, .ref h_o_told, .ref h_o_shift, .int o_firstX, .int o_firstY, .int o_secondX, .int o_secondY, .ref h_o_rootOf, .ref h_o_becomes, .ref h_o_comes, .ref h_o_next, .int o_x])), (h_o_all, .inl (ca 0, 350, .inl o_all_r)), (h_o_shift, .inl (ca 3, 768, .inl o_shift_r)), (h_o_plans, .inl (ca 0, 80, .inl o_plans_r))] sz) := by
  refine Met.ofW (cc := cX8_flips) (maxL := 4) (ret := (some .int)) (by decide) rfl ?_
  intro p e s m args below meth c s₁ B hml hv
  obtain ⟨rfl, hsz, hP, hK, hD0, hE⟩ := hv
  have hx := B.exec
  have hb := B.bytes
  have hr := B.returns
  have hts := atoms_spec (ws := Cond.code yX8_flips cX8_flips 4 (some .int) :: ds_gw) B.pre
  have hg : ∀ {w : Cond}, w ∈ ds_gw → w.before _ s = true := fun h => hts _ (List.mem_cons_of_mem _ h)
  have hown : s.vm.findClass RX8 = some m.cls := findClass_of_methodNamed B.named
  have hlocks := B.notSynchronized
  subst hsz
  have hD := hD0.self (sz := s.heap.size)
  generalize hAe : va_A [(h_o, .inr (7, [.ref h_o_plans, .ref h_o_makers, .ref h_o_halves, .int o_raised, .ref h_o_all, .ref h_o_text, .ref h_o_saved, .ref h_o_undone, .int o_undos, .int o_reached, .int o_length, .int o_begin, .int o_letters, .int o_sort, .long o_word, .int o_wrongAt, .int o_badAt, .int o_bad, .ref h_o_told, .ref h_o_shift, .int o_firstX, .int o_firstY, .int o_secondX, .int o_secondY, .ref h_o_rootOf, .ref h_o_becomes, .ref h_o_comes, .ref h_o_next, .int o_x])), (h_o_all, .inl (ca 0, 350, .inl o_all_r)), (h_o_shift, .inl (ca 3, 768, .inl o_shift_r)), (h_o_plans, .inl (ca 0, 80, .inl o_plans_r))] s.heap.size = A at hD hE ⊢
  have hA : ∀ q : Nat, s.heap.size ≤ q → A q := fun q h => by rw [← hAe]; exact Or.inr h
  have hS : va_S A s.heap s.heap [] := va_S.rf
  have hl := lv_entry ([.ref h_o, .int p1]) (n := 4) (Nat.le_of_ble_eq_true rfl)
  rw [lg_entry_eq]
  generalize (lg_sl ([.ref h_o, .int p1]) ++ List.replicate (4 - (lg_sl ([.ref h_o, .int p1])).length) Slot.unset).toArray = ls at hl ⊢
  have hl : lv_has ls 4 [(0, .ref h_o), (1, .int p1)] := hl
  obtain ⟨G0, eG0⟩ : ∃ G : Int32 → Prop, G = (fun r => r = res) := ⟨_, rfl⟩
  obtain ⟨rr, hrr⟩ : ∃ z, z = res := ⟨_, rfl⟩
  rw [← hrr] at hf
  have hG : G0 rr := by subst eG0; exact hrr
  refine ds_cap (fun WW h1 h2 => ?_)
  have J_9 : ∀ (n : Nat) (v2 : Int32) (v3 : Int32) (rr : Int32) (hf : ds_it (fun s => fX8_flips_9_b o_all_r o_shift_r o_plans_r p1 s.1 s.2) n (v2, v3) = some rr) (hG : G0 rr) (H : Heap) (locs : List Loc) (hP : va_P (dC, dI) vwCl [(h_o, .inr (7, [.ref h_o_plans, .ref h_o_makers, .ref h_o_halves, .int o_raised, .ref h_o_all, .ref h_o_text, .ref h_o_saved, .ref h_o_undone, .int o_undos, .int o_reached, .int o_length, .int o_begin, .int o_letters, .int o_sort, .long o_word, .int o_wrongAt, .int o_badAt, .int o_bad, .ref h_o_told, .ref h_o_shift, .int o_firstX, .int o_firstY, .int o_secondX, .int o_secondY, .ref h_o_rootOf, .ref h_o_becomes, .ref h_o_comes, .ref h_o_next, .int o_x])), (h_o_all, .inl (ca 0, 350, .inl o_all_r)), (h_o_shift, .inl (ca 3, 768, .inl o_shift_r)), (h_o_plans, .inl (ca 0, 80, .inl o_plans_r))] H) (hD : va_D A [(h_o, .inr (7, [.ref h_o_plans, .ref h_o_makers, .ref h_o_halves, .int o_raised, .ref h_o_all, .ref h_o_text, .ref h_o_saved, .ref h_o_undone, .int o_undos, .int o_reached, .int o_length, .int o_begin, .int o_letters, .int o_sort, .long o_word, .int o_wrongAt, .int o_badAt, .int o_bad, .ref h_o_told, .ref h_o_shift, .int o_firstX, .int o_firstY, .int o_secondX, .int o_secondY, .ref h_o_rootOf, .ref h_o_becomes, .ref h_o_comes, .ref h_o_next, .int o_x])), (h_o_all, .inl (ca 0, 350, .inl o_all_r)), (h_o_shift, .inl (ca 3, 768, .inl o_shift_r)), (h_o_plans, .inl (ca 0, 80, .inl o_plans_r))]) (hS : va_S A s.heap H locs) (ls : Array Slot) (hl : lv_has ls 4 [(0, .ref h_o), (1, .int p1), (2, .int v2), (3, .int v3)]), WW H locs (F0 m 9 ls []) := by
    intro  n
    induction n with
    | zero => intro v2 v3 rr hf; exact (ds_it_zero hf).elim
    | succ n ih9 =>
      intro v2 v3 rr hf hG H locs hP hD hS ls hl
      refine h2 ?_
      obtain ⟨rr, hf, hG⟩ := ds_it_succ hf hG
      replace hf : fX8_flips_9_b o_all_r o_shift_r o_plans_r p1 v2 v3 = some rr := hf
      obtain ⟨G1, eG1⟩ : ∃ G : ((Int32 × Int32) ⊕ (Int32)) → Prop, G = ds_G (fun s' => ∃ r', ds_it (fun s => fX8_flips_9_b o_all_r o_shift_r o_plans_r p1 s.1 s.2) n s' = some r' ∧ G0 r') G0 := ⟨_, rfl⟩
      rw [← eG1] at hG
      have J_71 : ∀ (v2 : Int32) (v3 : Int32) (rr : (Int32 × Int32) ⊕ (Int32)) (hf : fX8_flips_71 v2 v3 = some rr) (hG : G1 rr) (H : Heap) (locs : List Loc) (hP : va_P (dC, dI) vwCl [(h_o, .inr (7, [.ref h_o_plans, .ref h_o_makers, .ref h_o_halves, .int o_raised, .ref h_o_all, .ref h_o_text, .ref h_o_saved, .ref h_o_undone, .int o_undos, .int o_reached, .int o_length, .int o_begin, .int o_letters, .int o_sort, .long o_word, .int o_wrongAt, .int o_badAt, .int o_bad, .ref h_o_told, .ref h_o_shift, .int o_firstX, .int o_firstY, .int o_secondX, .int o_secondY, .ref h_o_rootOf, .ref h_o_becomes, .ref h_o_comes, .ref h_o_next, .int o_x])), (h_o_all, .inl (ca 0, 350, .inl o_all_r)), (h_o_shift, .inl (ca 3, 768, .inl o_shift_r)), (h_o_plans, .inl (ca 0, 80, .inl o_plans_r))] H) (hD : va_D A [(h_o, .inr (7, [.ref h_o_plans, .ref h_o_makers, .ref h_o_halves, .int o_raised, .ref h_o_all, .ref h_o_text, .ref h_o_saved, .ref h_o_undone, .int o_undos, .int o_reached, .int o_length, .int o_begin, .int o_letters, .int o_sort, .long o_word, .int o_wrongAt, .int o_badAt, .int o_bad, .ref h_o_told, .ref h_o_shift, .int o_firstX, .int o_firstY, .int o_secondX, .int o_secondY, .ref h_o_rootOf, .ref h_o_becomes, .ref h_o_comes, .ref h_o_next, .int o_x])), (h_o_all, .inl (ca 0, 350, .inl o_all_r)), (h_o_shift, .inl (ca 3, 768, .inl o_shift_r)), (h_o_plans, .inl (ca 0, 80, .inl o_plans_r))]) (hS : va_S A s.heap H locs) (ls : Array Slot) (hl : lv_has ls 4 [(0, .ref h_o), (1, .int p1), (2, .int v2), (3, .int v3)]), WW H locs (F0 m 71 ls []) := by
        intro v2 v3 rr hf hG H locs hP hD hS ls hl
        refine h2 ?_
        unfold fX8_flips_71 at hf
        refine lv_iinc (v := (v3 + 1)) (lv' := [(3, .int (v3 + 1)), (0, .ref h_o), (1, .int p1), (2, .int v2)]) hx hb dX8_flips_71 hl (k := 3) rfl rfl (by decide) rfl (fun ls hl => ?_)
        refine lv_goto (tgt := 9) hx hb dX8_flips_74 (by decide) ?_
        have hf := Option.some.inj hf
        subst hf
        rw [eG1] at hG
        obtain ⟨rr, hf, hG⟩ := hG
        exact h1 (ih9 v2 (v3 + 1) rr hf hG _ _ hP hD hS _ (lv_sub hl [1, 2, 3, 0] rfl))
      have J_69 : ∀ (v3 : Int32) (s0 : Int32) (s1 : Int32) (rr : (Int32 × Int32) ⊕ (Int32)) (hf : fX8_flips_69 v3 s0 s1 = some rr) (hG : G1 rr) (H : Heap) (locs : List Loc) (hP : va_P (dC, dI) vwCl [(h_o, .inr (7, [.ref h_o_plans, .ref h_o_makers, .ref h_o_halves, .int o_raised, .ref h_o_all, .ref h_o_text, .ref h_o_saved, .ref h_o_undone, .int o_undos, .int o_reached, .int o_length, .int o_begin, .int o_letters, .int o_sort, .long o_word, .int o_wrongAt, .int o_badAt, .int o_bad, .ref h_o_told, .ref h_o_shift, .int o_firstX, .int o_firstY, .int o_secondX, .int o_secondY, .ref h_o_rootOf, .ref h_o_becomes, .ref h_o_comes, .ref h_o_next, .int o_x])), (h_o_all, .inl (ca 0, 350, .inl o_all_r)), (h_o_shift, .inl (ca 3, 768, .inl o_shift_r)), (h_o_plans, .inl (ca 0, 80, .inl o_plans_r))] H) (hD : va_D A [(h_o, .inr (7, [.ref h_o_plans, .ref h_o_makers, .ref h_o_halves, .int o_raised, .ref h_o_all, .ref h_o_text, .ref h_o_saved, .ref h_o_undone, .int o_undos, .int o_reached, .int o_length, .int o_begin, .int o_letters, .int o_sort, .long o_word, .int o_wrongAt, .int o_badAt, .int o_bad, .ref h_o_told, .ref h_o_shift, .int o_firstX, .int o_firstY, .int o_secondX, .int o_secondY, .ref h_o_rootOf, .ref h_o_becomes, .ref h_o_comes, .ref h_o_next, .int o_x])), (h_o_all, .inl (ca 0, 350, .inl o_all_r)), (h_o_shift, .inl (ca 3, 768, .inl o_shift_r)), (h_o_plans, .inl (ca 0, 80, .inl o_plans_r))]) (hS : va_S A s.heap H locs) (ls : Array Slot) (hl : lv_has ls 4 [(0, .ref h_o), (1, .int p1), (3, .int v3)]), WW H locs (F0 m 69 ls [.int s0, .int s1]) := by
        intro v3 s0 s1 rr hf hG H locs hP hD hS ls hl
        refine h2 ?_
        unfold fX8_flips_69 at hf
        refine lv_iadd hx hb dX8_flips_69 ?_
        refine lv_istore_n (lv' := [(2, .int (s1 + s0)), (0, .ref h_o), (1, .int p1), (3, .int v3)]) hx hb dX8_flips_70 rfl hl (by decide) rfl (fun ls hl => ?_)
        exact h1 (J_71 (s1 + s0) v3 _ hf hG _ _ hP hD hS _ (lv_sub hl [1, 2, 0, 3] rfl))
      have J_68 : ∀ (v3 : Int32) (s0 : Int32) (rr : (Int32 × Int32) ⊕ (Int32)) (hf : fX8_flips_68 v3 s0 = some rr) (hG : G1 rr) (H : Heap) (locs : List Loc) (hP : va_P (dC, dI) vwCl [(h_o, .inr (7, [.ref h_o_plans, .ref h_o_makers, .ref h_o_halves, .int o_raised, .ref h_o_all, .ref h_o_text, .ref h_o_saved, .ref h_o_undone, .int o_undos, .int o_reached, .int o_length, .int o_begin, .int o_letters, .int o_sort, .long o_word, .int o_wrongAt, .int o_badAt, .int o_bad, .ref h_o_told, .ref h_o_shift, .int o_firstX, .int o_firstY, .int o_secondX, .int o_secondY, .ref h_o_rootOf, .ref h_o_becomes, .ref h_o_comes, .ref h_o_next, .int o_x])), (h_o_all, .inl (ca 0, 350, .inl o_all_r)), (h_o_shift, .inl (ca 3, 768, .inl o_shift_r)), (h_o_plans, .inl (ca 0, 80, .inl o_plans_r))] H) (hD : va_D A [(h_o, .inr (7, [.ref h_o_plans, .ref h_o_makers, .ref h_o_halves, .int o_raised, .ref h_o_all, .ref h_o_text, .ref h_o_saved, .ref h_o_undone, .int o_undos, .int o_reached, .int o_length, .int o_begin, .int o_letters, .int o_sort, .long o_word, .int o_wrongAt, .int o_badAt, .int o_bad, .ref h_o_told, .ref h_o_shift, .int o_firstX, .int o_firstY, .int o_secondX, .int o_secondY, .ref h_o_rootOf, .ref h_o_becomes, .ref h_o_comes, .ref h_o_next, .int o_x])), (h_o_all, .inl (ca 0, 350, .inl o_all_r)), (h_o_shift, .inl (ca 3, 768, .inl o_shift_r)), (h_o_plans, .inl (ca 0, 80, .inl o_plans_r))]) (hS : va_S A s.heap H locs) (ls : Array Slot) (hl : lv_has ls 4 [(0, .ref h_o), (1, .int p1), (3, .int v3)]), WW H locs (F0 m 68 ls [.int s0]) := by
        intro v3 s0 rr hf hG H locs hP hD hS ls hl
        refine h2 ?_
        unfold fX8_flips_68 at hf
        refine lv_iconst (v := 0) hx hb dX8_flips_68 (by decide) ?_
        exact h1 (J_69 v3 (0 : Int32) s0 _ hf hG _ _ hP hD hS _ (lv_sub hl [0, 1, 2] rfl))
      have J_64 : ∀ (v3 : Int32) (s0 : Int32) (rr : (Int32 × Int32) ⊕ (Int32)) (hf : fX8_flips_64 v3 s0 = some rr) (hG : G1 rr) (H : Heap) (locs : List Loc) (hP : va_P (dC, dI) vwCl [(h_o, .inr (7, [.ref h_o_plans, .ref h_o_makers, .ref h_o_halves, .int o_raised, .ref h_o_all, .ref h_o_text, .ref h_o_saved, .ref h_o_undone, .int o_undos, .int o_reached, .int o_length, .int o_begin, .int o_letters, .int o_sort, .long o_word, .int o_wrongAt, .int o_badAt, .int o_bad, .ref h_o_told, .ref h_o_shift, .int o_firstX, .int o_firstY, .int o_secondX, .int o_secondY, .ref h_o_rootOf, .ref h_o_becomes, .ref h_o_comes, .ref h_o_next, .int o_x])), (h_o_all, .inl (ca 0, 350, .inl o_all_r)), (h_o_shift, .inl (ca 3, 768, .inl o_shift_r)), (h_o_plans, .inl (ca 0, 80, .inl o_plans_r))] H) (hD : va_D A [(h_o, .inr (7, [.ref h_o_plans, .ref h_o_makers, .ref h_o_halves, .int o_raised, .ref h_o_all, .ref h_o_text, .ref h_o_saved, .ref h_o_undone, .int o_undos, .int o_reached, .int o_length, .int o_begin, .int o_letters, .int o_sort, .long o_word, .int o_wrongAt, .int o_badAt, .int o_bad, .ref h_o_told, .ref h_o_shift, .int o_firstX, .int o_firstY, .int o_secondX, .int o_secondY, .ref h_o_rootOf, .ref h_o_becomes, .ref h_o_comes, .ref h_o_next, .int o_x])), (h_o_all, .inl (ca 0, 350, .inl o_all_r)), (h_o_shift, .inl (ca 3, 768, .inl o_shift_r)), (h_o_plans, .inl (ca 0, 80, .inl o_plans_r))]) (hS : va_S A s.heap H locs) (ls : Array Slot) (hl : lv_has ls 4 [(0, .ref h_o), (1, .int p1), (3, .int v3)]), WW H locs (F0 m 64 ls [.int s0]) := by
        intro v3 s0 rr hf hG H locs hP hD hS ls hl
        refine h2 ?_
        unfold fX8_flips_64 at hf
        refine lv_iconst (v := 1) hx hb dX8_flips_64 (by decide) ?_
        refine lv_goto (tgt := 69) hx hb dX8_flips_65 (by decide) ?_
        exact h1 (J_69 v3 (1 : Int32) s0 _ hf hG _ _ hP hD hS _ (lv_sub hl [0, 1, 2] rfl))
      have J_61 : ∀ (v3 : Int32) (s0 : Int32) (s1 : Int32) (s2 : Int32) (rr : (Int32 × Int32) ⊕ (Int32)) (hf : fX8_flips_61 v3 s0 s1 s2 = some rr) (hG : G1 rr) (H : Heap) (locs : List Loc) (hP : va_P (dC, dI) vwCl [(h_o, .inr (7, [.ref h_o_plans, .ref h_o_makers, .ref h_o_halves, .int o_raised, .ref h_o_all, .ref h_o_text, .ref h_o_saved, .ref h_o_undone, .int o_undos, .int o_reached, .int o_length, .int o_begin, .int o_letters, .int o_sort, .long o_word, .int o_wrongAt, .int o_badAt, .int o_bad, .ref h_o_told, .ref h_o_shift, .int o_firstX, .int o_firstY, .int o_secondX, .int o_secondY, .ref h_o_rootOf, .ref h_o_becomes, .ref h_o_comes, .ref h_o_next, .int o_x])), (h_o_all, .inl (ca 0, 350, .inl o_all_r)), (h_o_shift, .inl (ca 3, 768, .inl o_shift_r)), (h_o_plans, .inl (ca 0, 80, .inl o_plans_r))] H) (hD : va_D A [(h_o, .inr (7, [.ref h_o_plans, .ref h_o_makers, .ref h_o_halves, .int o_raised, .ref h_o_all, .ref h_o_text, .ref h_o_saved, .ref h_o_undone, .int o_undos, .int o_reached, .int o_length, .int o_begin, .int o_letters, .int o_sort, .long o_word, .int o_wrongAt, .int o_badAt, .int o_bad, .ref h_o_told, .ref h_o_shift, .int o_firstX, .int o_firstY, .int o_secondX, .int o_secondY, .ref h_o_rootOf, .ref h_o_becomes, .ref h_o_comes, .ref h_o_next, .int o_x])), (h_o_all, .inl (ca 0, 350, .inl o_all_r)), (h_o_shift, .inl (ca 3, 768, .inl o_shift_r)), (h_o_plans, .inl (ca 0, 80, .inl o_plans_r))]) (hS : va_S A s.heap H locs) (ls : Array Slot) (hl : lv_has ls 4 [(0, .ref h_o), (1, .int p1), (3, .int v3)]), WW H locs (F0 m 61 ls [.int s0, .int s1, .int s2]) := by
        intro v3 s0 s1 s2 rr hf hG H locs hP hD hS ls hl
        refine h2 ?_
        unfold fX8_flips_61 at hf
        refine lv_icmp_ne (tgt := 68) hx hb dX8_flips_61 (by decide) (fun c_61 => ?_) (fun c_61 => ?_)
        · replace hf := ds_f c_61 hf
          exact h1 (J_68 v3 s2 _ hf hG _ _ hP hD hS _ (lv_sub hl [0, 1, 2] rfl))
        · replace hf := ds_t c_61 hf
          exact h1 (J_64 v3 s2 _ hf hG _ _ hP hD hS _ (lv_sub hl [0, 1, 2] rfl))
      unfold fX8_flips_9_b at hf
      refine lv_iload_n hx hb dX8_flips_9 rfl (lv_at hl 3 rfl) ?_
      refine lv_aload_n hx hb dX8_flips_10 rfl (lv_at hl 0 rfl) ?_
      obtain ⟨q11, hq11, hf⟩ := ds_ob hf
      refine ds_calli (wr := [(h_o_shift, .inl (ca 3, 768, .inl o_shift_r)), (h_o_plans, .inl (ca 0, 80, .inl o_plans_r))]) (va_runV (As := []) (rest := [.int v3]) ⟨hx, hb, hml, hown, hts⟩ (c_X8_turnings l dC dI ca sa h_o h_o_plans h_o_makers h_o_halves h_o_all h_o_text h_o_saved h_o_undone h_o_told h_o_shift h_o_rootOf h_o_becomes h_o_comes h_o_next H.size o_raised o_undos o_reached o_length o_begin o_letters o_sort o_word o_wrongAt o_badAt o_bad o_firstX o_firstY o_secondX o_secondY o_x o_all_r  q11 hq11) (cwV 0 hts (ds_gV kw_604 kw_605 kw_606 kw_597 kw_607) rfl rfl rfl (by decide +kernel) ⟨Nat.le_of_ble_eq_true rfl, Nat.le_of_ble_eq_true rfl⟩) ⟨ds_blind, va_recv hK hP (ci := 7) (q0 := 0) rfl rfl, ds_at hP hD hK hE hS hA [0, 1] rfl rfl _⟩ rfl rfl hl.1 rfl (lv_room (Nat.le_of_ble_eq_true rfl)) dX8_flips_11 ⟨Nat.zero_le _, Nat.zero_le _⟩) hP hD hS hA [0, 1] [2, 3] rfl rfl rfl (by decide) (fun H locs hP hD hS => ?_)
      have hP : va_P (dC, dI) vwCl [(h_o_shift, .inl (ca 3, 768, .inl o_shift_r)), (h_o_plans, .inl (ca 0, 80, .inl o_plans_r)), (h_o, .inr (7, [.ref h_o_plans, .ref h_o_makers, .ref h_o_halves, .int o_raised, .ref h_o_all, .ref h_o_text, .ref h_o_saved, .ref h_o_undone, .int o_undos, .int o_reached, .int o_length, .int o_begin, .int o_letters, .int o_sort, .long o_word, .int o_wrongAt, .int o_badAt, .int o_bad, .ref h_o_told, .ref h_o_shift, .int o_firstX, .int o_firstY, .int o_secondX, .int o_secondY, .ref h_o_rootOf, .ref h_o_becomes, .ref h_o_comes, .ref h_o_next, .int o_x])), (h_o_all, .inl (ca 0, 350, .inl o_all_r))] H := hP
      have hD : va_D A [(h_o_shift, .inl (ca 3, 768, .inl o_shift_r)), (h_o_plans, .inl (ca 0, 80, .inl o_plans_r)), (h_o, .inr (7, [.ref h_o_plans, .ref h_o_makers, .ref h_o_halves, .int o_raised, .ref h_o_all, .ref h_o_text, .ref h_o_saved, .ref h_o_undone, .int o_undos, .int o_reached, .int o_length, .int o_begin, .int o_letters, .int o_sort, .long o_word, .int o_wrongAt, .int o_badAt, .int o_bad, .ref h_o_told, .ref h_o_shift, .int o_firstX, .int o_firstY, .int o_secondX, .int o_secondY, .ref h_o_rootOf, .ref h_o_becomes, .ref h_o_comes, .ref h_o_next, .int o_x])), (h_o_all, .inl (ca 0, 350, .inl o_all_r))] := hD
      refine lv_icmp_ge (tgt := 77) hx hb dX8_flips_14 (by decide) (fun c_14 => ?_) (fun c_14 => ?_)
      · replace hf := ds_t c_14 hf
        refine lv_iload_n hx hb dX8_flips_77 rfl (lv_at hl 2 rfl) ?_
        have hf := Option.some.inj hf
        subst hf
        rw [eG1] at hG
        replace hG : G0 _ := hG
        rw [eG0] at hG
        have hG : _ = res := hG
        subst hG
        exact W.iret (v := v2) hx hb hr (fun t ht hW => ⟨⟨v2, (), rfl, rfl, by rw [ht]; exact (hP.sub [2, 3, 0, 1] rfl), (hD.sub [2, 3, 0, 1] rfl rfl)⟩, hS.F ht⟩) hS.2.2 dX8_flips_78
      · replace hf := ds_f c_14 hf
        refine lv_aload_n hx hb dX8_flips_17 rfl (lv_at hl 0 rfl) ?_
        refine lv_iload_n hx hb dX8_flips_18 rfl (lv_at hl 3 rfl) ?_
        obtain ⟨q19, hq19, hf⟩ := ds_ob hf
        refine ds_calli (wr := [(h_o_plans, .inl (ca 0, 80, .inl o_plans_r))]) (va_runV (As := [.int v3]) (rest := []) ⟨hx, hb, hml, hown, hts⟩ (c_X8_isFlipThere l dC dI ca sa h_o h_o_plans h_o_makers h_o_halves h_o_all h_o_text h_o_saved h_o_undone h_o_told h_o_shift h_o_rootOf h_o_becomes h_o_comes h_o_next H.size o_raised o_undos o_reached o_length o_begin o_letters o_sort o_word o_wrongAt o_badAt o_bad o_firstX o_firstY o_secondX o_secondY o_x o_all_r o_shift_r v3 q19 hq19) (cwV 1 hts (ds_gV kw_703 kw_704 kw_705 kw_597 kw_706) rfl rfl rfl (by decide +kernel) ⟨Nat.le_of_ble_eq_true rfl, Nat.le_of_ble_eq_true rfl⟩) ⟨ds_blind, va_recv hK hP (ci := 7) (q0 := 2) rfl rfl, ds_at hP hD hK hE hS hA [2, 3, 0] rfl rfl _⟩ rfl rfl hl.1 rfl (lv_room (Nat.le_of_ble_eq_true rfl)) dX8_flips_19 ⟨Nat.zero_le _, Nat.zero_le _⟩) hP hD hS hA [2, 3, 0] [1] rfl rfl rfl (by decide) (fun H locs hP hD hS => ?_)
        have hP : va_P (dC, dI) vwCl [(h_o_plans, .inl (ca 0, 80, .inl o_plans_r)), (h_o, .inr (7, [.ref h_o_plans, .ref h_o_makers, .ref h_o_halves, .int o_raised, .ref h_o_all, .ref h_o_text, .ref h_o_saved, .ref h_o_undone, .int o_undos, .int o_reached, .int o_length, .int o_begin, .int o_letters, .int o_sort, .long o_word, .int o_wrongAt, .int o_badAt, .int o_bad, .ref h_o_told, .ref h_o_shift, .int o_firstX, .int o_firstY, .int o_secondX, .int o_secondY, .ref h_o_rootOf, .ref h_o_becomes, .ref h_o_comes, .ref h_o_next, .int o_x])), (h_o_all, .inl (ca 0, 350, .inl o_all_r)), (h_o_shift, .inl (ca 3, 768, .inl o_shift_r))] H := hP
        have hD : va_D A [(h_o_plans, .inl (ca 0, 80, .inl o_plans_r)), (h_o, .inr (7, [.ref h_o_plans, .ref h_o_makers, .ref h_o_halves, .int o_raised, .ref h_o_all, .ref h_o_text, .ref h_o_saved, .ref h_o_undone, .int o_undos, .int o_reached, .int o_length, .int o_begin, .int o_letters, .int o_sort, .long o_word, .int o_wrongAt, .int o_badAt, .int o_bad, .ref h_o_told, .ref h_o_shift, .int o_firstX, .int o_firstY, .int o_secondX, .int o_secondY, .ref h_o_rootOf, .ref h_o_becomes, .ref h_o_comes, .ref h_o_next, .int o_x])), (h_o_all, .inl (ca 0, 350, .inl o_all_r)), (h_o_shift, .inl (ca 3, 768, .inl o_shift_r))] := hD
        refine lv_if_eq (tgt := 71) hx hb dX8_flips_22 (by decide) (fun c_22 => ?_) (fun c_22 => ?_)
        · replace hf := ds_t c_22 hf
          exact h1 (J_71 v2 v3 _ hf hG _ _ (hP.sub [1, 2, 3, 0] rfl) (hD.sub [1, 2, 3, 0] rfl rfl) hS _ (lv_sub hl [0, 1, 2, 3] rfl))
        · replace hf := ds_f c_22 hf
          refine lv_iload_n hx hb dX8_flips_25 rfl (lv_at hl 2 rfl) ?_
          refine lv_iload_n hx hb dX8_flips_26 rfl (lv_at hl 1 rfl) ?_
          refine lv_if_eq (tgt := 64) hx hb dX8_flips_27 (by decide) (fun c_27 => ?_) (fun c_27 => ?_)
          · replace hf := ds_t c_27 hf
            exact h1 (J_64 v3 v2 _ hf hG _ _ (hP.sub [1, 2, 3, 0] rfl) (hD.sub [1, 2, 3, 0] rfl rfl) hS _ (lv_sub hl [0, 1, 3] rfl))
          · replace hf := ds_f c_27 hf
            refine lv_iload_n hx hb dX8_flips_30 rfl (lv_at hl 1 rfl) ?_
            refine lv_iconst (v := 3) hx hb dX8_flips_31 (by decide) ?_
            refine lv_icmp_ne (tgt := 46) hx hb dX8_flips_32 (by decide) (fun c_32 => ?_) (fun c_32 => ?_)
            · replace hf := ds_f c_32 hf
              refine lv_aload_n hx hb dX8_flips_46 rfl (lv_at hl 0 rfl) ?_
              refine lv_iload_n hx hb dX8_flips_47 rfl (lv_at hl 3 rfl) ?_
              obtain ⟨q48, hq48, hf⟩ := ds_ob hf
              refine ds_calli (wr := []) (va_runV (As := [.int v3]) (rest := [.int v2]) ⟨hx, hb, hml, hown, hts⟩ (c_X8_isMirror l dC dI ca sa h_o h_o_plans h_o_makers h_o_halves h_o_all h_o_text h_o_saved h_o_undone h_o_told h_o_shift h_o_rootOf h_o_becomes h_o_comes h_o_next H.size o_raised o_undos o_reached o_length o_begin o_letters o_sort o_word o_wrongAt o_badAt o_bad o_firstX o_firstY o_secondX o_secondY o_x o_all_r o_plans_r o_shift_r v3 q48 hq48) (cwV 1 hts (ds_gV kw_707 kw_708 kw_709 kw_597 kw_710) rfl rfl rfl (by decide +kernel) ⟨Nat.le_of_ble_eq_true rfl, Nat.le_of_ble_eq_true rfl⟩) ⟨ds_blind, va_recv hK hP (ci := 7) (q0 := 1) rfl rfl, ds_at hP hD hK hE hS hA [1, 2, 0, 3] rfl rfl _⟩ rfl rfl hl.1 rfl (lv_room (Nat.le_of_ble_eq_true rfl)) dX8_flips_48 ⟨Nat.zero_le _, Nat.zero_le _⟩) hP hD hS hA [1, 2, 0, 3] [] rfl rfl rfl (by decide) (fun H locs hP hD hS => ?_)
              have hP : va_P (dC, dI) vwCl [(h_o, .inr (7, [.ref h_o_plans, .ref h_o_makers, .ref h_o_halves, .int o_raised, .ref h_o_all, .ref h_o_text, .ref h_o_saved, .ref h_o_undone, .int o_undos, .int o_reached, .int o_length, .int o_begin, .int o_letters, .int o_sort, .long o_word, .int o_wrongAt, .int o_badAt, .int o_bad, .ref h_o_told, .ref h_o_shift, .int o_firstX, .int o_firstY, .int o_secondX, .int o_secondY, .ref h_o_rootOf, .ref h_o_becomes, .ref h_o_comes, .ref h_o_next, .int o_x])), (h_o_all, .inl (ca 0, 350, .inl o_all_r)), (h_o_plans, .inl (ca 0, 80, .inl o_plans_r)), (h_o_shift, .inl (ca 3, 768, .inl o_shift_r))] H := hP
              have hD : va_D A [(h_o, .inr (7, [.ref h_o_plans, .ref h_o_makers, .ref h_o_halves, .int o_raised, .ref h_o_all, .ref h_o_text, .ref h_o_saved, .ref h_o_undone, .int o_undos, .int o_reached, .int o_length, .int o_begin, .int o_letters, .int o_sort, .long o_word, .int o_wrongAt, .int o_badAt, .int o_bad, .ref h_o_told, .ref h_o_shift, .int o_firstX, .int o_firstY, .int o_secondX, .int o_secondY, .ref h_o_rootOf, .ref h_o_becomes, .ref h_o_comes, .ref h_o_next, .int o_x])), (h_o_all, .inl (ca 0, 350, .inl o_all_r)), (h_o_plans, .inl (ca 0, 80, .inl o_plans_r)), (h_o_shift, .inl (ca 3, 768, .inl o_shift_r))] := hD
              refine lv_iload_n hx hb dX8_flips_51 rfl (lv_at hl 1 rfl) ?_
              refine lv_iconst (v := 1) hx hb dX8_flips_52 (by decide) ?_
              refine lv_icmp_ne (tgt := 60) hx hb dX8_flips_53 (by decide) (fun c_53 => ?_) (fun c_53 => ?_)
              · replace hf := ds_f c_53 hf
                refine lv_iconst (v := 0) hx hb dX8_flips_60 (by decide) ?_
                exact h1 (J_61 v3 (0 : Int32) q48 v2 _ hf hG _ _ (hP.sub [0, 1, 3, 2] rfl) (hD.sub [0, 1, 3, 2] rfl rfl) hS _ (lv_sub hl [0, 1, 3] rfl))
              · replace hf := ds_t c_53 hf
                refine lv_iconst (v := 1) hx hb dX8_flips_56 (by decide) ?_
                refine lv_goto (tgt := 61) hx hb dX8_flips_57 (by decide) ?_
                exact h1 (J_61 v3 (1 : Int32) q48 v2 _ hf hG _ _ (hP.sub [0, 1, 3, 2] rfl) (hD.sub [0, 1, 3, 2] rfl rfl) hS _ (lv_sub hl [0, 1, 3] rfl))
            · replace hf := ds_t c_32 hf
              refine lv_aload_n hx hb dX8_flips_35 rfl (lv_at hl 0 rfl) ?_
              refine lv_iload_n hx hb dX8_flips_36 rfl (lv_at hl 3 rfl) ?_
              obtain ⟨q37, hq37, hf⟩ := ds_ob hf
              refine ds_calli (wr := []) (va_runV (As := [.int v3]) (rest := [.int v2]) ⟨hx, hb, hml, hown, hts⟩ (c_X8_areParted l dC dI ca sa h_o h_o_plans h_o_makers h_o_halves h_o_all h_o_text h_o_saved h_o_undone h_o_told h_o_shift h_o_rootOf h_o_becomes h_o_comes h_o_next H.size o_raised o_undos o_reached o_length o_begin o_letters o_sort o_word o_wrongAt o_badAt o_bad o_firstX o_firstY o_secondX o_secondY o_x o_all_r o_plans_r o_shift_r v3 q37 hq37) (cwV 1 hts (ds_gV kw_711 kw_712 kw_713 kw_597 kw_714) rfl rfl rfl (by decide +kernel) ⟨Nat.le_of_ble_eq_true rfl, Nat.le_of_ble_eq_true rfl⟩) ⟨ds_blind, va_recv hK hP (ci := 7) (q0 := 1) rfl rfl, ds_at hP hD hK hE hS hA [1, 2, 0, 3] rfl rfl _⟩ rfl rfl hl.1 rfl (lv_room (Nat.le_of_ble_eq_true rfl)) dX8_flips_37 ⟨Nat.zero_le _, Nat.zero_le _⟩) hP hD hS hA [1, 2, 0, 3] [] rfl rfl rfl (by decide) (fun H locs hP hD hS => ?_)
              have hP : va_P (dC, dI) vwCl [(h_o, .inr (7, [.ref h_o_plans, .ref h_o_makers, .ref h_o_halves, .int o_raised, .ref h_o_all, .ref h_o_text, .ref h_o_saved, .ref h_o_undone, .int o_undos, .int o_reached, .int o_length, .int o_begin, .int o_letters, .int o_sort, .long o_word, .int o_wrongAt, .int o_badAt, .int o_bad, .ref h_o_told, .ref h_o_shift, .int o_firstX, .int o_firstY, .int o_secondX, .int o_secondY, .ref h_o_rootOf, .ref h_o_becomes, .ref h_o_comes, .ref h_o_next, .int o_x])), (h_o_all, .inl (ca 0, 350, .inl o_all_r)), (h_o_plans, .inl (ca 0, 80, .inl o_plans_r)), (h_o_shift, .inl (ca 3, 768, .inl o_shift_r))] H := hP
              have hD : va_D A [(h_o, .inr (7, [.ref h_o_plans, .ref h_o_makers, .ref h_o_halves, .int o_raised, .ref h_o_all, .ref h_o_text, .ref h_o_saved, .ref h_o_undone, .int o_undos, .int o_reached, .int o_length, .int o_begin, .int o_letters, .int o_sort, .long o_word, .int o_wrongAt, .int o_badAt, .int o_bad, .ref h_o_told, .ref h_o_shift, .int o_firstX, .int o_firstY, .int o_secondX, .int o_secondY, .ref h_o_rootOf, .ref h_o_becomes, .ref h_o_comes, .ref h_o_next, .int o_x])), (h_o_all, .inl (ca 0, 350, .inl o_all_r)), (h_o_plans, .inl (ca 0, 80, .inl o_plans_r)), (h_o_shift, .inl (ca 3, 768, .inl o_shift_r))] := hD
              refine lv_if_ne (tgt := 68) hx hb dX8_flips_40 (by decide) (fun c_40 => ?_) (fun c_40 => ?_)
              · replace hf := ds_f c_40 hf
                exact h1 (J_68 v3 v2 _ hf hG _ _ (hP.sub [0, 1, 3, 2] rfl) (hD.sub [0, 1, 3, 2] rfl rfl) hS _ (lv_sub hl [0, 1, 3] rfl))
              · replace hf := ds_t c_40 hf
                refine lv_goto (tgt := 64) hx hb dX8_flips_43 (by decide) ?_
                exact h1 (J_64 v3 v2 _ hf hG _ _ (hP.sub [0, 1, 3, 2] rfl) (hD.sub [0, 1, 3, 2] rfl rfl) hS _ (lv_sub hl [0, 1, 3] rfl))
  unfold fX8_flips at hf
  refine lv_iconst (v := 0) hx hb dX8_flips_0 (by decide) ?_
  refine lv_istore_n (lv' := [(2, .int (0 : Int32)), (0, .ref h_o), (1, .int p1)]) hx hb dX8_flips_1 rfl hl (by decide) rfl (fun ls hl => ?_)
  refine lv_aload_n hx hb dX8_flips_2 rfl (lv_at hl 1 rfl) ?_
  obtain ⟨q3, hq3, hf⟩ := ds_ob hf
  refine ds_calli (wr := [(h_o_shift, .inl (ca 3, 768, .inl o_shift_r)), (h_o_plans, .inl (ca 0, 80, .inl o_plans_r))]) (va_runV (As := []) (rest := []) ⟨hx, hb, hml, hown, hts⟩ (c_X8_turnings l dC dI ca sa h_o h_o_plans h_o_makers h_o_halves h_o_all h_o_text h_o_saved h_o_undone h_o_told h_o_shift h_o_rootOf h_o_becomes h_o_comes h_o_next s.heap.size o_raised o_undos o_reached o_length o_begin o_letters o_sort o_word o_wrongAt o_badAt o_bad o_firstX o_firstY o_secondX o_secondY o_x o_all_r  q3 hq3) (cwV 0 hts (ds_gV kw_604 kw_605 kw_606 kw_597 kw_607) rfl rfl rfl (by decide +kernel) ⟨Nat.le_of_ble_eq_true rfl, Nat.le_of_ble_eq_true rfl⟩) ⟨ds_blind, va_recv hK hP (ci := 7) (q0 := 0) rfl rfl, ds_at hP hD hK hE hS hA [0, 1] rfl rfl _⟩ rfl rfl hl.1 rfl (lv_room (Nat.le_of_ble_eq_true rfl)) dX8_flips_3 ⟨Nat.zero_le _, Nat.zero_le _⟩) hP hD hS hA [0, 1] [2, 3] rfl rfl rfl (by decide) (fun H locs hP hD hS => ?_)
  have hP : va_P (dC, dI) vwCl [(h_o_shift, .inl (ca 3, 768, .inl o_shift_r)), (h_o_plans, .inl (ca 0, 80, .inl o_plans_r)), (h_o, .inr (7, [.ref h_o_plans, .ref h_o_makers, .ref h_o_halves, .int o_raised, .ref h_o_all, .ref h_o_text, .ref h_o_saved, .ref h_o_undone, .int o_undos, .int o_reached, .int o_length, .int o_begin, .int o_letters, .int o_sort, .long o_word, .int o_wrongAt, .int o_badAt, .int o_bad, .ref h_o_told, .ref h_o_shift, .int o_firstX, .int o_firstY, .int o_secondX, .int o_secondY, .ref h_o_rootOf, .ref h_o_becomes, .ref h_o_comes, .ref h_o_next, .int o_x])), (h_o_all, .inl (ca 0, 350, .inl o_all_r))] H := hP
  have hD : va_D A [(h_o_shift, .inl (ca 3, 768, .inl o_shift_r)), (h_o_plans, .inl (ca 0, 80, .inl o_plans_r)), (h_o, .inr (7, [.ref h_o_plans, .ref h_o_makers, .ref h_o_halves, .int o_raised, .ref h_o_all, .ref h_o_text, .ref h_o_saved, .ref h_o_undone, .int o_undos, .int o_reached, .int o_length, .int o_begin, .int o_letters, .int o_sort, .long o_word, .int o_wrongAt, .int o_badAt, .int o_bad, .ref h_o_told, .ref h_o_shift, .int o_firstX, .int o_firstY, .int o_secondX, .int o_secondY, .ref h_o_rootOf, .ref h_o_becomes, .ref h_o_comes, .ref h_o_next, .int o_x])), (h_o_all, .inl (ca 0, 350, .inl o_all_r))] := hD
  refine lv_iconst (v := 2) hx hb dX8_flips_6 (by decide) ?_
  refine lv_idiv hx hb dX8_flips_7 (by decide) ?_
  refine lv_istore_n (lv' := [(3, .int (q3 / (2 : Int32))), (2, .int (0 : Int32)), (0, .ref h_o), (1, .int p1)]) hx hb dX8_flips_8 rfl hl (by decide) rfl (fun ls hl => ?_)
  exact h1 (J_9  1000 (0 : Int32) (q3 / (2 : Int32)) _ hf hG _ _ (hP.sub [2, 3, 0, 1] rfl) (hD.sub [2, 3, 0, 1] rfl rfl) hS _ (lv_sub hl [2, 3, 1, 0] rfl))
theorem dX8_isFirstLeft_0 : decode cX8_isFirstLeft 0 = .ok (.aload_n 0, 1) := by decide +kernel
theorem dX8_isFirstLeft_1 : decode cX8_isFirstLeft 1 = .ok (.iload_n 1, 1) := by decide +kernel
theorem dX8_isFirstLeft_2 : decode cX8_isFirstLeft 2 = .ok (.aload_n 0, 1) := by decide +kernel
theorem dX8_isFirstLeft_3 : decode cX8_isFirstLeft 3 = .ok (.getfield 151, 3) := by decide +kernel
theorem dX8_isFirstLeft_6 : decode cX8_isFirstLeft 6 = .ok (.aload_n 0, 1) := by decide +kernel
theorem dX8_isFirstLeft_7 : decode cX8_isFirstLeft 7 = .ok (.getfield 154, 3) := by decide +kernel
theorem dX8_isFirstLeft_10 : decode cX8_isFirstLeft 10 = .ok (.invokevirtual 130, 3) := by decide +kernel
theorem dX8_isFirstLeft_13 : decode cX8_isFirstLeft 13 = .ok (.aload_n 0, 1) := by decide +kernel
theorem dX8_isFirstLeft_14 : decode cX8_isFirstLeft 14 = .ok (.getfield 151, 3) := by decide +kernel
theorem dX8_isFirstLeft_17 : decode cX8_isFirstLeft 17 = .ok (.if_icmp .ne 27, 3) := by decide +kernel
theorem dX8_isFirstLeft_20 : decode cX8_isFirstLeft 20 = .ok (.aload_n 0, 1) := by decide +kernel
theorem dX8_isFirstLeft_21 : decode cX8_isFirstLeft 21 = .ok (.iload_n 1, 1) := by decide +kernel
theorem dX8_isFirstLeft_22 : decode cX8_isFirstLeft 22 = .ok (.aload_n 0, 1) := by decide +kernel
theorem dX8_isFirstLeft_23 : decode cX8_isFirstLeft 23 = .ok (.getfield 151, 3) := by decide +kernel
theorem dX8_isFirstLeft_26 : decode cX8_isFirstLeft 26 = .ok (.aload_n 0, 1) := by decide +kernel
theorem dX8_isFirstLeft_27 : decode cX8_isFirstLeft 27 = .ok (.getfield 154, 3) := by decide +kernel
theorem dX8_isFirstLeft_30 : decode cX8_isFirstLeft 30 = .ok (.invokevirtual 134, 3) := by decide +kernel
theorem dX8_isFirstLeft_33 : decode cX8_isFirstLeft 33 = .ok (.aload_n 0, 1) := by decide +kernel
theorem dX8_isFirstLeft_34 : decode cX8_isFirstLeft 34 = .ok (.getfield 154, 3) := by decide +kernel
theorem dX8_isFirstLeft_37 : decode cX8_isFirstLeft 37 = .ok (.if_icmp .ne 7, 3) := by decide +kernel
theorem dX8_isFirstLeft_40 : decode cX8_isFirstLeft 40 = .ok (.iconst 1, 1) := by decide +kernel
theorem dX8_isFirstLeft_41 : decode cX8_isFirstLeft 41 = .ok (.goto 4, 3) := by decide +kernel
theorem dX8_isFirstLeft_44 : decode cX8_isFirstLeft 44 = .ok (.iconst 0, 1) := by decide +kernel
theorem dX8_isFirstLeft_45 : decode cX8_isFirstLeft 45 = .ok (.ireturn, 1) := by decide +kernel
def fX8_isFirstLeft (o_firstX : Int32) (o_firstY : Int32) (o_all_r : Nat → Int32) (o_plans_r : Nat → Int32) (p1 : Int32) : Option (Int32) :=
  Option.bind (fX8_turnX o_all_r o_plans_r p1 o_firstX o_firstY) fun q10 => if q10 = o_firstX then Option.bind (fX8_turnY o_all_r o_plans_r p1 o_firstX o_firstY) fun q30 => if q30 = o_firstY then some (1 : Int32) else some (0 : Int32) else some (0 : Int32)
set_option maxHeartbeats 4000000 in
set_option maxRecDepth 100000 in
theorem c_X8_isFirstLeft (l : Launch) (dC : Nat → ClassId) (dI : Nat → Nat → Nat) (ca : Nat → ClassId) (sa : Nat → Nat) (h_o : Nat) (h_o_plans : Nat) (h_o_makers : Nat) (h_o_halves : Nat) (h_o_all : Nat) (h_o_text : Nat) (h_o_saved : Nat) (h_o_undone : Nat) (h_o_told : Nat) (h_o_shift : Nat) (h_o_rootOf : Nat) (h_o_becomes : Nat) (h_o_comes : Nat) (h_o_next : Nat) (sz : Nat) (o_raised : Int32) (o_undos : Int32) (o_reached : Int32) (o_length : Int32) (o_begin : Int32) (o_letters : Int32) (o_sort : Int32) (o_word : Int64) (o_wrongAt : Int32) (o_badAt : Int32) (o_bad : Int32) (o_firstX : Int32) (o_firstY : Int32) (o_secondX : Int32) (o_secondY : Int32) (o_x : Int32) (o_all_r : Nat → Int32) (o_plans_r : Nat → Int32) (p1 : Int32) (res : Int32) (hf : fX8_isFirstLeft o_firstX o_firstY o_all_r o_plans_r p1 = some res) : Met l yX8_isFirstLeft (Cond.code yX8_isFirstLeft cX8_isFirstLeft 2 (some .boolean) :: ds_gw) { frames := 1, cells := 0, slots := 0, locals := 24 } (va_Pc [.ref h_o, .int p1] (ds_Pre dC dI ca sa [(h_o, .inr (7, [.ref h_o_plans, .ref h_o_makers, .ref h_o_halves, .int o_raised, .ref h_o_all, .ref h_o_text, .ref h_o_saved, .ref h_o_undone, .int o_undos, .int o_reached, .int o_length, .int o_begin, .int o_letters, .int o_sort, .long o_word, .int o_wrongAt, .int o_badAt, .int o_bad, .ref h_o_told, .ref h_o_shift, .int o_firstX, .int o_firstY, .int o_secondX, .int o_secondY, .ref h_o_rootOf, .ref h_o_becomes, .ref h_o_comes, .ref h_o_next, .int o_x])), (h_o_all, .inl (ca 0, 350, .inl o_all_r)), (h_o_plans, .inl (ca 0, 80, .inl o_plans_r))] sz)) (va_Qi (fun r (_ : Unit) => r = res) (ds_B dC dI (va_A [(h_o, .inr (7, [.ref h_o_plans, .ref h_o_makers, .ref h_o_halves, .int o_raised, .ref h_o_all, .ref h_o_text, .ref h_o_saved, .ref h_o_undone, .int o_undos, .int o_reached, .int o_length, .int o_begin, .int o_letters, .int o_sort, .long o_word, .int o_wrongAt, .int o_badAt, .int o_bad, .ref h_o_told, .ref h_o_shift, .int o_firstX, .int o_firstY, .int o_secondX, .int o_secondY, .ref h_o_rootOf, .ref h_o_becomes, .ref h_o_comes, .ref h_o_next, .int o_x])), (h_o_all, .inl (ca 0, 350, .inl o_all_r)), (h_o_plans, .inl (ca 0, 80, .inl o_plans_r))] sz) [(h_o, .inr (7, [.ref h_o_plans, .ref h_o_makers, .ref h_o_halves, .int o_raised, .ref h_o_all, .ref h_o_text, .ref h_o_saved, .ref h_o_undone, .int o_undos, .int o_reached, .int o_length, .int o_begin, .int o_letters, .int o_sort, .long o_word, .int o_wrongAt, .int o_badAt, .int o_bad, .ref h_o_told, .ref h_o_shift, .int o_firstX, .int o_firstY, .int o_secondX, .int o_secondY, .ref h_o_rootOf, .ref h_o_becomes, .ref h_o_comes, .ref h_o_next, .int o_x])), (h_o_all, .inl (ca 0, 350, .inl o_all_r)), (h_o_plans, .inl (ca 0, 80, .inl o_plans_r))]) (va_A [(h_o, .inr (7, [.ref h_o_plans, .ref h_o_makers, .ref h_o_halves, .int o_raised, .ref h_o_all, .ref h_o_text, .ref h_o_saved, .ref h_o_undone, .int o_undos, .int o_reached, .int o_length, .int o_begin, .int o_letters, .int o_sort, .long o_word, .int o_wrongAt, .int o_badAt, .int o_bad, .ref h_o_told, .ref h_o_shift, .int o_firstX, .int o_firstY, .int o_secondX, .int o_secondY, .ref h_o_rootOf, .ref h_o_becomes, .ref h_o_comes, .ref h_o_next, .int o_x])), (h_o_all, .inl (ca 0, 350, .inl o_all_r)), (h_o_plans, .inl (ca 0, 80, .inl o_plans_r))] sz)) 0 0 (va_A [(h_o, .inr (7, [.ref h_o_plans, .ref h_o_makers, .ref h_o_halves, .int o_raised, .ref h_o_all, .ref h_o_text, .ref h_o_saved, .ref h_o_undone, .int o_undos, .int o_reached, .int o_length, .int o_begin, .int o_letters, .int o_sort, .long o_word, .int o_wrongAt, .int o_badAt, .int o_bad, .ref h_o_told, .ref h_o_shift, .int o_firstX, .int o_firstY, .int o_secondX, .int o_secondY, .ref h_o_rootOf, .ref h_o_becomes, .ref h_o_comes, .ref h_o_next, .int o_x])), (h_o_all, .inl (ca 0, 350, .inl o_all_r)), (h_o_plans, .inl (ca 0, 80, .inl o_plans_r))] sz) := by
  refine Met.ofW (cc := cX8_isFirstLeft) (maxL := 2) (ret := (some .boolean)) (by decide) rfl ?_
  intro p e s m args below meth c s₁ B hml hv
  obtain ⟨rfl, hsz, hP, hK, hD0, hE⟩ := hv
  have hx := B.exec
  have hb := B.bytes
  have hr := B.returns
  have hts := atoms_spec (ws := Cond.code yX8_isFirstLeft cX8_isFirstLeft 2 (some .boolean) :: ds_gw) B.pre
  have hg : ∀ {w : Cond}, w ∈ ds_gw → w.before _ s = true := fun h => hts _ (List.mem_cons_of_mem _ h)
  have hown : s.vm.findClass RX8 = some m.cls := findClass_of_methodNamed B.named
  have hlocks := B.notSynchronized
  subst hsz
  have hD := hD0.self (sz := s.heap.size)
  generalize hAe : va_A [(h_o, .inr (7, [.ref h_o_plans, .ref h_o_makers, .ref h_o_halves, .int o_raised, .ref h_o_all, .ref h_o_text, .ref h_o_saved, .ref h_o_undone, .int o_undos, .int o_reached, .int o_length, .int o_begin, .int o_letters, .int o_sort, .long o_word, .int o_wrongAt, .int o_badAt, .int o_bad, .ref h_o_told, .ref h_o_shift, .int o_firstX, .int o_firstY, .int o_secondX, .int o_secondY, .ref h_o_rootOf, .ref h_o_becomes, .ref h_o_comes, .ref h_o_next, .int o_x])), (h_o_all, .inl (ca 0, 350, .inl o_all_r)), (h_o_plans, .inl (ca 0, 80, .inl o_plans_r))] s.heap.size = A at hD hE ⊢
  have hA : ∀ q : Nat, s.heap.size ≤ q → A q := fun q h => by rw [← hAe]; exact Or.inr h
  have hS : va_S A s.heap s.heap [] := va_S.rf
  have hl := lv_entry ([.ref h_o, .int p1]) (n := 2) (Nat.le_of_ble_eq_true rfl)
  rw [lg_entry_eq]
  generalize (lg_sl ([.ref h_o, .int p1]) ++ List.replicate (2 - (lg_sl ([.ref h_o, .int p1])).length) Slot.unset).toArray = ls at hl ⊢
  have hl : lv_has ls 2 [(0, .ref h_o), (1, .int p1)] := hl
  obtain ⟨G0, eG0⟩ : ∃ G : Int32 → Prop, G = (fun r => r = res) := ⟨_, rfl⟩
  obtain ⟨rr, hrr⟩ : ∃ z, z = res := ⟨_, rfl⟩
  rw [← hrr] at hf
  have hG : G0 rr := by subst eG0; exact hrr
  unfold fX8_isFirstLeft at hf
  refine lv_aload_n hx hb dX8_isFirstLeft_0 rfl (lv_at hl 0 rfl) ?_
  refine lv_iload_n hx hb dX8_isFirstLeft_1 rfl (lv_at hl 1 rfl) ?_
  refine lv_aload_n hx hb dX8_isFirstLeft_2 rfl (lv_at hl 0 rfl) ?_
  refine va_get (D := (dC, dI)) (ci := 7) (v := .int o_firstX) (C := RX8) (T := TX8) (N := 29) hx hb hts (fun w h => List.mem_cons_of_mem _ (kc_X8 w h)) hown hK hP 0 rfl rfl 20 (by decide) (hg kw_686) (fun _ h9 => h9) rfl dX8_isFirstLeft_3 ?_
  refine lv_aload_n hx hb dX8_isFirstLeft_6 rfl (lv_at hl 0 rfl) ?_
  refine va_get (D := (dC, dI)) (ci := 7) (v := .int o_firstY) (C := RX8) (T := TX8) (N := 29) hx hb hts (fun w h => List.mem_cons_of_mem _ (kc_X8 w h)) hown hK hP 0 rfl rfl 21 (by decide) (hg kw_685) (fun _ h9 => h9) rfl dX8_isFirstLeft_7 ?_
  obtain ⟨q10, hq10, hf⟩ := ds_ob hf
  refine ds_calli (wr := []) (va_runV (As := [.int p1, .int o_firstX, .int o_firstY]) (rest := []) ⟨hx, hb, hml, hown, hts⟩ (c_X8_turnX l dC dI ca sa h_o h_o_plans h_o_makers h_o_halves h_o_all h_o_text h_o_saved h_o_undone h_o_told h_o_shift h_o_rootOf h_o_becomes h_o_comes h_o_next s.heap.size o_raised o_undos o_reached o_length o_begin o_letters o_sort o_word o_wrongAt o_badAt o_bad o_firstX o_firstY o_secondX o_secondY o_x o_all_r o_plans_r p1 o_firstX o_firstY q10 hq10) (cwV 3 hts (ds_gV kw_655 kw_656 kw_657 kw_597 kw_658) rfl rfl rfl (by decide +kernel) ⟨Nat.le_of_ble_eq_true rfl, Nat.le_of_ble_eq_true rfl⟩) ⟨ds_blind, va_recv hK hP (ci := 7) (q0 := 0) rfl rfl, ds_at hP hD hK hE hS hA [0, 1, 2] rfl rfl _⟩ rfl rfl hl.1 rfl (lv_room (Nat.le_of_ble_eq_true rfl)) dX8_isFirstLeft_10 ⟨Nat.zero_le _, Nat.zero_le _⟩) hP hD hS hA [0, 1, 2] [] rfl rfl rfl (by decide) (fun H locs hP hD hS => ?_)
  have hP : va_P (dC, dI) vwCl [(h_o, .inr (7, [.ref h_o_plans, .ref h_o_makers, .ref h_o_halves, .int o_raised, .ref h_o_all, .ref h_o_text, .ref h_o_saved, .ref h_o_undone, .int o_undos, .int o_reached, .int o_length, .int o_begin, .int o_letters, .int o_sort, .long o_word, .int o_wrongAt, .int o_badAt, .int o_bad, .ref h_o_told, .ref h_o_shift, .int o_firstX, .int o_firstY, .int o_secondX, .int o_secondY, .ref h_o_rootOf, .ref h_o_becomes, .ref h_o_comes, .ref h_o_next, .int o_x])), (h_o_all, .inl (ca 0, 350, .inl o_all_r)), (h_o_plans, .inl (ca 0, 80, .inl o_plans_r))] H := hP
  have hD : va_D A [(h_o, .inr (7, [.ref h_o_plans, .ref h_o_makers, .ref h_o_halves, .int o_raised, .ref h_o_all, .ref h_o_text, .ref h_o_saved, .ref h_o_undone, .int o_undos, .int o_reached, .int o_length, .int o_begin, .int o_letters, .int o_sort, .long o_word, .int o_wrongAt, .int o_badAt, .int o_bad, .ref h_o_told, .ref h_o_shift, .int o_firstX, .int o_firstY, .int o_secondX, .int o_secondY, .ref h_o_rootOf, .ref h_o_becomes, .ref h_o_comes, .ref h_o_next, .int o_x])), (h_o_all, .inl (ca 0, 350, .inl o_all_r)), (h_o_plans, .inl (ca 0, 80, .inl o_plans_r))] := hD
  refine lv_aload_n hx hb dX8_isFirstLeft_13 rfl (lv_at hl 0 rfl) ?_
  refine va_get (D := (dC, dI)) (ci := 7) (v := .int o_firstX) (C := RX8) (T := TX8) (N := 29) hx hb hts (fun w h => List.mem_cons_of_mem _ (kc_X8 w h)) hown hK hP 0 rfl rfl 20 (by decide) (hg kw_686) (fun _ h9 => h9) rfl dX8_isFirstLeft_14 ?_
  refine lv_icmp_ne (tgt := 44) hx hb dX8_isFirstLeft_17 (by decide) (fun c_17 => ?_) (fun c_17 => ?_)
  · replace hf := ds_f c_17 hf
    refine lv_iconst (v := 0) hx hb dX8_isFirstLeft_44 (by decide) ?_
    have hf := Option.some.inj hf
    subst hf
    rw [eG0] at hG
    have hG : _ = res := hG
    subst hG
    exact W.zret (v := (0 : Int32)) (ty := .boolean) hx hb hr rfl (fun t ht hW => ⟨⟨(0 : Int32), (), rfl, rfl, by rw [ht]; exact hP, hD⟩, hS.F ht⟩) hS.2.2 dX8_isFirstLeft_45
  · replace hf := ds_t c_17 hf
    refine lv_aload_n hx hb dX8_isFirstLeft_20 rfl (lv_at hl 0 rfl) ?_
    refine lv_iload_n hx hb dX8_isFirstLeft_21 rfl (lv_at hl 1 rfl) ?_
    refine lv_aload_n hx hb dX8_isFirstLeft_22 rfl (lv_at hl 0 rfl) ?_
    refine va_get (D := (dC, dI)) (ci := 7) (v := .int o_firstX) (C := RX8) (T := TX8) (N := 29) hx hb hts (fun w h => List.mem_cons_of_mem _ (kc_X8 w h)) hown hK hP 0 rfl rfl 20 (by decide) (hg kw_686) (fun _ h9 => h9) rfl dX8_isFirstLeft_23 ?_
    refine lv_aload_n hx hb dX8_isFirstLeft_26 rfl (lv_at hl 0 rfl) ?_
    refine va_get (D := (dC, dI)) (ci := 7) (v := .int o_firstY) (C := RX8) (T := TX8) (N := 29) hx hb hts (fun w h => List.mem_cons_of_mem _ (kc_X8 w h)) hown hK hP 0 rfl rfl 21 (by decide) (hg kw_685) (fun _ h9 => h9) rfl dX8_isFirstLeft_27 ?_
    obtain ⟨q30, hq30, hf⟩ := ds_ob hf
    refine ds_calli (wr := []) (va_runV (As := [.int p1, .int o_firstX, .int o_firstY]) (rest := []) ⟨hx, hb, hml, hown, hts⟩ (c_X8_turnY l dC dI ca sa h_o h_o_plans h_o_makers h_o_halves h_o_all h_o_text h_o_saved h_o_undone h_o_told h_o_shift h_o_rootOf h_o_becomes h_o_comes h_o_next H.size o_raised o_undos o_reached o_length o_begin o_letters o_sort o_word o_wrongAt o_badAt o_bad o_firstX o_firstY o_secondX o_secondY o_x o_all_r o_plans_r p1 o_firstX o_firstY q30 hq30) (cwV 3 hts (ds_gV kw_659 kw_660 kw_661 kw_597 kw_662) rfl rfl rfl (by decide +kernel) ⟨Nat.le_of_ble_eq_true rfl, Nat.le_of_ble_eq_true rfl⟩) ⟨ds_blind, va_recv hK hP (ci := 7) (q0 := 0) rfl rfl, ds_at hP hD hK hE hS hA [0, 1, 2] rfl rfl _⟩ rfl rfl hl.1 rfl (lv_room (Nat.le_of_ble_eq_true rfl)) dX8_isFirstLeft_30 ⟨Nat.zero_le _, Nat.zero_le _⟩) hP hD hS hA [0, 1, 2] [] rfl rfl rfl (by decide) (fun H locs hP hD hS => ?_)
    have hP : va_P (dC, dI) vwCl [(h_o, .inr (7, [.ref h_o_plans, .ref h_o_makers, .ref h_o_halves, .int o_raised, .ref h_o_all, .ref h_o_text, .ref h_o_saved, .ref h_o_undone, .int o_undos, .int o_reached, .int o_length, .int o_begin, .int o_letters, .int o_sort, .long o_word, .int o_wrongAt, .int o_badAt, .int o_bad, .ref h_o_told, .ref h_o_shift, .int o_firstX, .int o_firstY, .int o_secondX, .int o_secondY, .ref h_o_rootOf, .ref h_o_becomes, .ref h_o_comes, .ref h_o_next, .int o_x])), (h_o_all, .inl (ca 0, 350, .inl o_all_r)), (h_o_plans, .inl (ca 0, 80, .inl o_plans_r))] H := hP
    have hD : va_D A [(h_o, .inr (7, [.ref h_o_plans, .ref h_o_makers, .ref h_o_halves, .int o_raised, .ref h_o_all, .ref h_o_text, .ref h_o_saved, .ref h_o_undone, .int o_undos, .int o_reached, .int o_length, .int o_begin, .int o_letters, .int o_sort, .long o_word, .int o_wrongAt, .int o_badAt, .int o_bad, .ref h_o_told, .ref h_o_shift, .int o_firstX, .int o_firstY, .int o_secondX, .int o_secondY, .ref h_o_rootOf, .ref h_o_becomes, .ref h_o_comes, .ref h_o_next, .int o_x])), (h_o_all, .inl (ca 0, 350, .inl o_all_r)), (h_o_plans, .inl (ca 0, 80, .inl o_plans_r))] := hD
    refine lv_aload_n hx hb dX8_isFirstLeft_33 rfl (lv_at hl 0 rfl) ?_
    refine va_get (D := (dC, dI)) (ci := 7) (v := .int o_firstY) (C := RX8) (T := TX8) (N := 29) hx hb hts (fun w h => List.mem_cons_of_mem _ (kc_X8 w h)) hown hK hP 0 rfl rfl 21 (by decide) (hg kw_685) (fun _ h9 => h9) rfl dX8_isFirstLeft_34 ?_
    refine lv_icmp_ne (tgt := 44) hx hb dX8_isFirstLeft_37 (by decide) (fun c_37 => ?_) (fun c_37 => ?_)
    · replace hf := ds_f c_37 hf
      refine lv_iconst (v := 0) hx hb dX8_isFirstLeft_44 (by decide) ?_
      have hf := Option.some.inj hf
      subst hf
      rw [eG0] at hG
      have hG : _ = res := hG
      subst hG
      exact W.zret (v := (0 : Int32)) (ty := .boolean) hx hb hr rfl (fun t ht hW => ⟨⟨(0 : Int32), (), rfl, rfl, by rw [ht]; exact hP, hD⟩, hS.F ht⟩) hS.2.2 dX8_isFirstLeft_45
    · replace hf := ds_t c_37 hf
      refine lv_iconst (v := 1) hx hb dX8_isFirstLeft_40 (by decide) ?_
      refine lv_goto (tgt := 45) hx hb dX8_isFirstLeft_41 (by decide) ?_
      have hf := Option.some.inj hf
      subst hf
      rw [eG0] at hG
      have hG : _ = res := hG
      subst hG
      exact W.zret (v := (1 : Int32)) (ty := .boolean) hx hb hr rfl (fun t ht hW => ⟨⟨(1 : Int32), (), rfl, rfl, by rw [ht]; exact hP, hD⟩, hS.F ht⟩) hS.2.2 dX8_isFirstLeft_45
theorem dX8_isFirstMirror_0 : decode cX8_isFirstMirror 0 = .ok (.aload_n 0, 1) := by decide +kernel
theorem dX8_isFirstMirror_1 : decode cX8_isFirstMirror 1 = .ok (.invokevirtual 62, 3) := by decide +kernel
theorem dX8_isFirstMirror_4 : decode cX8_isFirstMirror 4 = .ok (.iconst 2, 1) := by decide +kernel
theorem dX8_isFirstMirror_5 : decode cX8_isFirstMirror 5 = .ok (.idiv, 1) := by decide +kernel
theorem dX8_isFirstMirror_6 : decode cX8_isFirstMirror 6 = .ok (.istore_n 1, 1) := by decide +kernel
theorem dX8_isFirstMirror_7 : decode cX8_isFirstMirror 7 = .ok (.iload_n 1, 1) := by decide +kernel
theorem dX8_isFirstMirror_8 : decode cX8_isFirstMirror 8 = .ok (.aload_n 0, 1) := by decide +kernel
theorem dX8_isFirstMirror_9 : decode cX8_isFirstMirror 9 = .ok (.invokevirtual 62, 3) := by decide +kernel
theorem dX8_isFirstMirror_12 : decode cX8_isFirstMirror 12 = .ok (.if_icmp .ge 31, 3) := by decide +kernel
theorem dX8_isFirstMirror_15 : decode cX8_isFirstMirror 15 = .ok (.aload_n 0, 1) := by decide +kernel
theorem dX8_isFirstMirror_16 : decode cX8_isFirstMirror 16 = .ok (.iload_n 1, 1) := by decide +kernel
theorem dX8_isFirstMirror_17 : decode cX8_isFirstMirror 17 = .ok (.invokevirtual 180, 3) := by decide +kernel
theorem dX8_isFirstMirror_20 : decode cX8_isFirstMirror 20 = .ok (.ifCond .eq 17, 3) := by decide +kernel
theorem dX8_isFirstMirror_23 : decode cX8_isFirstMirror 23 = .ok (.aload_n 0, 1) := by decide +kernel
theorem dX8_isFirstMirror_24 : decode cX8_isFirstMirror 24 = .ok (.iload_n 1, 1) := by decide +kernel
theorem dX8_isFirstMirror_25 : decode cX8_isFirstMirror 25 = .ok (.invokevirtual 189, 3) := by decide +kernel
theorem dX8_isFirstMirror_28 : decode cX8_isFirstMirror 28 = .ok (.ifCond .eq 9, 3) := by decide +kernel
theorem dX8_isFirstMirror_31 : decode cX8_isFirstMirror 31 = .ok (.aload_n 0, 1) := by decide +kernel
theorem dX8_isFirstMirror_32 : decode cX8_isFirstMirror 32 = .ok (.iload_n 1, 1) := by decide +kernel
theorem dX8_isFirstMirror_33 : decode cX8_isFirstMirror 33 = .ok (.invokevirtual 186, 3) := by decide +kernel
theorem dX8_isFirstMirror_36 : decode cX8_isFirstMirror 36 = .ok (.ireturn, 1) := by decide +kernel
theorem dX8_isFirstMirror_37 : decode cX8_isFirstMirror 37 = .ok (.iinc 1 1, 3) := by decide +kernel
theorem dX8_isFirstMirror_40 : decode cX8_isFirstMirror 40 = .ok (.goto (-33), 3) := by decide +kernel
theorem dX8_isFirstMirror_43 : decode cX8_isFirstMirror 43 = .ok (.iconst 0, 1) := by decide +kernel
theorem dX8_isFirstMirror_44 : decode cX8_isFirstMirror 44 = .ok (.ireturn, 1) := by decide +kernel
def fX8_isFirstMirror_31 (o_all_r : Nat → Int32) (o_shift_r : Nat → Int32) (o_plans_r : Nat → Int32) (v1 : Int32) : Option (Int32) :=
  Option.bind (fX8_isMirror o_all_r o_plans_r o_shift_r v1) fun q33 => if q33 = 0 ∨ q33 = 1 then some q33 else none
def fX8_isFirstMirror_37 (v1 : Int32) : Option ((Int32) ⊕ (Int32)) :=
  some (.inl (v1 + 1))
def fX8_isFirstMirror_7_b (o_firstX : Int32) (o_firstY : Int32) (o_all_r : Nat → Int32) (o_shift_r : Nat → Int32) (o_plans_r : Nat → Int32) (v1 : Int32) : Option ((Int32) ⊕ (Int32)) :=
  Option.bind (fX8_turnings o_all_r) fun q9 => if q9 ≤ v1 then some (.inr (0 : Int32)) else Option.bind (fX8_isFlipThere o_all_r o_shift_r v1) fun q17 => if q17 = 0 then fX8_isFirstMirror_37 v1 else Option.bind (fX8_isFirstLeft o_firstX o_firstY o_all_r o_plans_r v1) fun q25 => if q25 = 0 then fX8_isFirstMirror_37 v1 else Option.bind (fX8_isFirstMirror_31 o_all_r o_shift_r o_plans_r v1) fun z => some (.inr z)
def fX8_isFirstMirror_7 (o_firstX : Int32) (o_firstY : Int32) (o_all_r : Nat → Int32) (o_shift_r : Nat → Int32) (o_plans_r : Nat → Int32) (v1 : Int32) : Option (Int32) := ds_it (fun s => fX8_isFirstMirror_7_b o_firstX o_firstY o_all_r o_shift_r o_plans_r s) 1000 v1
def fX8_isFirstMirror (o_firstX : Int32) (o_firstY : Int32) (o_all_r : Nat → Int32) (o_shift_r : Nat → Int32) (o_plans_r : Nat → Int32) : Option (Int32) :=
  Option.bind (fX8_turnings o_all_r) fun q1 => fX8_isFirstMirror_7 o_firstX o_firstY o_all_r o_shift_r o_plans_r (q1 / (2 : Int32))
set_option maxHeartbeats 4000000 in
set_option maxRecDepth 100000 in
theorem c_X8_isFirstMirror (l : Launch) (dC : Nat → ClassId) (dI : Nat → Nat → Nat) (ca : Nat → ClassId) (sa : Nat → Nat) (h_o : Nat) (h_o_plans : Nat) (h_o_makers : Nat) (h_o_halves : Nat) (h_o_all : Nat) (h_o_text : Nat) (h_o_saved : Nat) (h_o_undone : Nat) (h_o_told : Nat) (h_o_shift : Nat) (h_o_rootOf : Nat) (h_o_becomes : Nat) (h_o_comes : Nat) (h_o_next : Nat) (sz : Nat) (o_raised : Int32) (o_undos : Int32) (o_reached : Int32) (o_length : Int32) (o_begin : Int32) (o_letters : Int32) (o_sort : Int32) (o_word : Int64) (o_wrongAt : Int32) (o_badAt : Int32) (o_bad : Int32) (o_firstX : Int32) (o_firstY : Int32) (o_secondX : Int32) (o_secondY : Int32) (o_x : Int32) (o_all_r : Nat → Int32) (o_shift_r : Nat → Int32) (o_plans_r : Nat → Int32) (res : Int32) (hf : fX8_isFirstMirror o_firstX o_firstY o_all_r o_shift_r o_plans_r = some res) : Met l yX8_isFirstMirror (Cond.code yX8_isFirstMirror cX8_isFirstMirror 2 (some .boolean) :: ds_gw) { frames := 4, cells := 0, slots := 0, locals := 92 } (va_Pc [.ref h_o] (ds_Pre dC dI ca sa [(h_o, .inr (7, [.ref h_o_plans, .ref h_o_makers, .ref h_o_halves, .int o_raised, .ref h_o_all, .ref h_o_text, .ref h_o_saved, .ref h_o_undone, .int o_undos, .int o_reached, .int o_length, .int o_begin, .int o_letters, .int o_sort, .long o_word, .int o_wrongAt, .int o_badAt, .int o_bad, .ref h_o_told, .ref h_o_shift, .int o_firstX, .int o_firstY, .int o_secondX, .int o_secondY, .ref h_o_rootOf, .ref h_o_becomes, .ref h_o_comes, .ref h_o_next, .int o_x])), (h_o_all, .inl (ca 0, 350, .inl o_all_r)), (h_o_shift, .inl (ca 3, 768, .inl o_shift_r)), (h_o_plans, .inl (ca 0, 80, .inl o_plans_r))] sz)) (va_Qi (fun r (_ : Unit) => r = res) (ds_B dC dI (va_A [(h_o, .inr (7, [.ref h_o_plans, .ref h_o_makers, .ref h_o_halves, .int o_raised, .ref h_o_all, .ref h_o_text, .ref h_o_saved, .ref h_o_undone, .int o_undos, .int o_reached, .int o_length, .int o_begin, .int o_letters, .int o_sort, .long o_word, .int o_wrongAt, .int o_badAt, .int o_bad, .ref h_o_told, .ref h_o_shift, .int o_firstX, .int o_firstY, .int o_secondX, .int o_secondY, .ref h_o_rootOf, .ref h_o_becomes, .ref h_o_comes, .ref h_o_next, .int o_x])), (h_o_all, .inl (ca 0, 350, .inl o_all_r)), (h_o_shift, .inl (ca 3, 768, .inl o_shift_r)), (h_o_plans, .inl (ca 0, 80, .inl o_plans_r))] sz) [(h_o, .inr (7, [.ref h_o_plans, .ref h_o_makers, .ref h_o_halves, .int o_raised, .ref h_o_all, .ref h_o_text, .ref h_o_saved, .ref h_o_undone, .int o_undos, .int o_reached, .int o_length, .int o_begin, .int o_letters, .int o_sort, .long o_word, .int o_wrongAt, .int o_badAt, .int o_bad, .ref h_o_told, .ref h_o_shift, .int o_firstX, .int o_firstY, .int o_secondX, .int o_secondY, .ref h_o_rootOf, .ref h_o_becomes, .ref h_o_comes, .ref h_o_next, .int o_x])), (h_o_all, .inl (ca 0, 350, .inl o_all_r)), (h_o_shift, .inl (ca 3, 768, .inl o_shift_r)), (h_o_plans, .inl (ca 0, 80, .inl o_plans_r))]) (va_A [(h_o, .inr (7, [.ref h_o_plans, .ref h_o_makers, .ref h_o_halves, .int o_raised, .ref h_o_all, .ref h_o_text, .ref h_o_saved, .ref h_o_undone, .int o_undos, .int o_reached, .int o_length, .int o_begin, .int o_letters, .int o_sort, .long o_word, .int o_wrongAt, .int o_badAt, .int o_bad, .ref h_o_told, .ref h_o_shift, .int o_firstX, .int o_firstY, .int o_secondX, .int o_secondY, .ref h_o_rootOf, .ref h_o_becomes, .ref h_o_comes, .ref h_o_next, .int o_x])), (h_o_all, .inl (ca 0, 350, .inl o_all_r)), (h_o_shift, .inl (ca 3, 768, .inl o_shift_r)), (h_o_plans, .inl (ca 0, 80, .inl o_plans_r))] sz)) 0 0 (va_A [(h_o, .inr (7, [.ref h_o_plans, .ref h_o_makers, .ref h_o_halves, .int o_raised, .ref h_o_all, .ref h_o_text, .ref h_o_saved, .ref h_o_undone, .int o_undos, .int o_reached, .int o_length, .int o_begin, .int o_letters, .int o_sort, .long o_word, .int o_wrongAt, .int o_badAt, .int o_bad, .ref h_o_told, .ref h_o_shift, .int o_firstX, .int o_firstY, .int o_secondX, .int o_secondY, .ref h_o_rootOf, .ref h_o_becomes, .ref h_o_comes, .ref h_o_next, .int o_x])), (h_o_all, .inl (ca 0, 350, .inl o_all_r)), (h_o_shift, .inl (ca 3, 768, .inl o_shift_r)), (h_o_plans, .inl (ca 0, 80, .inl o_plans_r))] sz) := by
  refine Met.ofW (cc := cX8_isFirstMirror) (maxL := 2) (ret := (some .boolean)) (by decide) rfl ?_
  intro p e s m args below meth c s₁ B hml hv
  obtain ⟨rfl, hsz, hP, hK, hD0, hE⟩ := hv
  have hx := B.exec
  have hb := B.bytes
  have hr := B.returns
  have hts := atoms_spec (ws := Cond.code yX8_isFirstMirror cX8_isFirstMirror 2 (some .boolean) :: ds_gw) B.pre
  have hg : ∀ {w : Cond}, w ∈ ds_gw → w.before _ s = true := fun h => hts _ (List.mem_cons_of_mem _ h)
  have hown : s.vm.findClass RX8 = some m.cls := findClass_of_methodNamed B.named
  have hlocks := B.notSynchronized
  subst hsz
  have hD := hD0.self (sz := s.heap.size)
  generalize hAe : va_A [(h_o, .inr (7, [.ref h_o_plans, .ref h_o_makers, .ref h_o_halves, .int o_raised, .ref h_o_all, .ref h_o_text, .ref h_o_saved, .ref h_o_undone, .int o_undos, .int o_reached, .int o_length, .int o_begin, .int o_letters, .int o_sort, .long o_word, .int o_wrongAt, .int o_badAt, .int o_bad, .ref h_o_told, .ref h_o_shift, .int o_firstX, .int o_firstY, .int o_secondX, .int o_secondY, .ref h_o_rootOf, .ref h_o_becomes, .ref h_o_comes, .ref h_o_next, .int o_x])), (h_o_all, .inl (ca 0, 350, .inl o_all_r)), (h_o_shift, .inl (ca 3, 768, .inl o_shift_r)), (h_o_plans, .inl (ca 0, 80, .inl o_plans_r))] s.heap.size = A at hD hE ⊢
  have hA : ∀ q : Nat, s.heap.size ≤ q → A q := fun q h => by rw [← hAe]; exact Or.inr h
  have hS : va_S A s.heap s.heap [] := va_S.rf
  have hl := lv_entry ([.ref h_o]) (n := 2) (Nat.le_of_ble_eq_true rfl)
  rw [lg_entry_eq]
  generalize (lg_sl ([.ref h_o]) ++ List.replicate (2 - (lg_sl ([.ref h_o])).length) Slot.unset).toArray = ls at hl ⊢
  have hl : lv_has ls 2 [(0, .ref h_o)] := hl
  obtain ⟨G0, eG0⟩ : ∃ G : Int32 → Prop, G = (fun r => r = res) := ⟨_, rfl⟩
  obtain ⟨rr, hrr⟩ : ∃ z, z = res := ⟨_, rfl⟩
  rw [← hrr] at hf
  have hG : G0 rr := by subst eG0; exact hrr
  refine ds_cap (fun WW h1 h2 => ?_)
  have J_31 : ∀ (v1 : Int32) (rr : Int32) (hf : fX8_isFirstMirror_31 o_all_r o_shift_r o_plans_r v1 = some rr) (hG : G0 rr) (H : Heap) (locs : List Loc) (hP : va_P (dC, dI) vwCl [(h_o, .inr (7, [.ref h_o_plans, .ref h_o_makers, .ref h_o_halves, .int o_raised, .ref h_o_all, .ref h_o_text, .ref h_o_saved, .ref h_o_undone, .int o_undos, .int o_reached, .int o_length, .int o_begin, .int o_letters, .int o_sort, .long o_word, .int o_wrongAt, .int o_badAt, .int o_bad, .ref h_o_told, .ref h_o_shift, .int o_firstX, .int o_firstY, .int o_secondX, .int o_secondY, .ref h_o_rootOf, .ref h_o_becomes, .ref h_o_comes, .ref h_o_next, .int o_x])), (h_o_all, .inl (ca 0, 350, .inl o_all_r)), (h_o_shift, .inl (ca 3, 768, .inl o_shift_r)), (h_o_plans, .inl (ca 0, 80, .inl o_plans_r))] H) (hD : va_D A [(h_o, .inr (7, [.ref h_o_plans, .ref h_o_makers, .ref h_o_halves, .int o_raised, .ref h_o_all, .ref h_o_text, .ref h_o_saved, .ref h_o_undone, .int o_undos, .int o_reached, .int o_length, .int o_begin, .int o_letters, .int o_sort, .long o_word, .int o_wrongAt, .int o_badAt, .int o_bad, .ref h_o_told, .ref h_o_shift, .int o_firstX, .int o_firstY, .int o_secondX, .int o_secondY, .ref h_o_rootOf, .ref h_o_becomes, .ref h_o_comes, .ref h_o_next, .int o_x])), (h_o_all, .inl (ca 0, 350, .inl o_all_r)), (h_o_shift, .inl (ca 3, 768, .inl o_shift_r)), (h_o_plans, .inl (ca 0, 80, .inl o_plans_r))]) (hS : va_S A s.heap H locs) (ls : Array Slot) (hl : lv_has ls 2 [(0, .ref h_o), (1, .int v1)]), WW H locs (F0 m 31 ls []) := by
    intro v1 rr hf hG H locs hP hD hS ls hl
    refine h2 ?_
    unfold fX8_isFirstMirror_31 at hf
    refine lv_aload_n hx hb dX8_isFirstMirror_31 rfl (lv_at hl 0 rfl) ?_
    refine lv_iload_n hx hb dX8_isFirstMirror_32 rfl (lv_at hl 1 rfl) ?_
    obtain ⟨q33, hq33, hf⟩ := ds_ob hf
    refine ds_calli (wr := []) (va_runV (As := [.int v1]) (rest := []) ⟨hx, hb, hml, hown, hts⟩ (c_X8_isMirror l dC dI ca sa h_o h_o_plans h_o_makers h_o_halves h_o_all h_o_text h_o_saved h_o_undone h_o_told h_o_shift h_o_rootOf h_o_becomes h_o_comes h_o_next H.size o_raised o_undos o_reached o_length o_begin o_letters o_sort o_word o_wrongAt o_badAt o_bad o_firstX o_firstY o_secondX o_secondY o_x o_all_r o_plans_r o_shift_r v1 q33 hq33) (cwV 1 hts (ds_gV kw_707 kw_708 kw_709 kw_597 kw_710) rfl rfl rfl (by decide +kernel) ⟨Nat.le_of_ble_eq_true rfl, Nat.le_of_ble_eq_true rfl⟩) ⟨ds_blind, va_recv hK hP (ci := 7) (q0 := 0) rfl rfl, ds_at hP hD hK hE hS hA [0, 1, 3, 2] rfl rfl _⟩ rfl rfl hl.1 rfl (lv_room (Nat.le_of_ble_eq_true rfl)) dX8_isFirstMirror_33 ⟨Nat.zero_le _, Nat.zero_le _⟩) hP hD hS hA [0, 1, 3, 2] [] rfl rfl rfl (by decide) (fun H locs hP hD hS => ?_)
    have hP : va_P (dC, dI) vwCl [(h_o, .inr (7, [.ref h_o_plans, .ref h_o_makers, .ref h_o_halves, .int o_raised, .ref h_o_all, .ref h_o_text, .ref h_o_saved, .ref h_o_undone, .int o_undos, .int o_reached, .int o_length, .int o_begin, .int o_letters, .int o_sort, .long o_word, .int o_wrongAt, .int o_badAt, .int o_bad, .ref h_o_told, .ref h_o_shift, .int o_firstX, .int o_firstY, .int o_secondX, .int o_secondY, .ref h_o_rootOf, .ref h_o_becomes, .ref h_o_comes, .ref h_o_next, .int o_x])), (h_o_all, .inl (ca 0, 350, .inl o_all_r)), (h_o_plans, .inl (ca 0, 80, .inl o_plans_r)), (h_o_shift, .inl (ca 3, 768, .inl o_shift_r))] H := hP
    have hD : va_D A [(h_o, .inr (7, [.ref h_o_plans, .ref h_o_makers, .ref h_o_halves, .int o_raised, .ref h_o_all, .ref h_o_text, .ref h_o_saved, .ref h_o_undone, .int o_undos, .int o_reached, .int o_length, .int o_begin, .int o_letters, .int o_sort, .long o_word, .int o_wrongAt, .int o_badAt, .int o_bad, .ref h_o_told, .ref h_o_shift, .int o_firstX, .int o_firstY, .int o_secondX, .int o_secondY, .ref h_o_rootOf, .ref h_o_becomes, .ref h_o_comes, .ref h_o_next, .int o_x])), (h_o_all, .inl (ca 0, 350, .inl o_all_r)), (h_o_plans, .inl (ca 0, 80, .inl o_plans_r)), (h_o_shift, .inl (ca 3, 768, .inl o_shift_r))] := hD
    obtain ⟨z_36, hf⟩ := ds_c hf
    have hf := Option.some.inj hf
    subst hf
    rw [eG0] at hG
    have hG : _ = res := hG
    subst hG
    exact W.zret (v := q33) (ty := .boolean) hx hb hr (ds_zn z_36) (fun t ht hW => ⟨⟨q33, (), rfl, rfl, by rw [ht]; exact (hP.sub [0, 1, 3, 2] rfl), (hD.sub [0, 1, 3, 2] rfl rfl)⟩, hS.F ht⟩) hS.2.2 dX8_isFirstMirror_36
  have J_7 : ∀ (n : Nat) (v1 : Int32) (rr : Int32) (hf : ds_it (fun s => fX8_isFirstMirror_7_b o_firstX o_firstY o_all_r o_shift_r o_plans_r s) n v1 = some rr) (hG : G0 rr) (H : Heap) (locs : List Loc) (hP : va_P (dC, dI) vwCl [(h_o, .inr (7, [.ref h_o_plans, .ref h_o_makers, .ref h_o_halves, .int o_raised, .ref h_o_all, .ref h_o_text, .ref h_o_saved, .ref h_o_undone, .int o_undos, .int o_reached, .int o_length, .int o_begin, .int o_letters, .int o_sort, .long o_word, .int o_wrongAt, .int o_badAt, .int o_bad, .ref h_o_told, .ref h_o_shift, .int o_firstX, .int o_firstY, .int o_secondX, .int o_secondY, .ref h_o_rootOf, .ref h_o_becomes, .ref h_o_comes, .ref h_o_next, .int o_x])), (h_o_all, .inl (ca 0, 350, .inl o_all_r)), (h_o_shift, .inl (ca 3, 768, .inl o_shift_r)), (h_o_plans, .inl (ca 0, 80, .inl o_plans_r))] H) (hD : va_D A [(h_o, .inr (7, [.ref h_o_plans, .ref h_o_makers, .ref h_o_halves, .int o_raised, .ref h_o_all, .ref h_o_text, .ref h_o_saved, .ref h_o_undone, .int o_undos, .int o_reached, .int o_length, .int o_begin, .int o_letters, .int o_sort, .long o_word, .int o_wrongAt, .int o_badAt, .int o_bad, .ref h_o_told, .ref h_o_shift, .int o_firstX, .int o_firstY, .int o_secondX, .int o_secondY, .ref h_o_rootOf, .ref h_o_becomes, .ref h_o_comes, .ref h_o_next, .int o_x])), (h_o_all, .inl (ca 0, 350, .inl o_all_r)), (h_o_shift, .inl (ca 3, 768, .inl o_shift_r)), (h_o_plans, .inl (ca 0, 80, .inl o_plans_r))]) (hS : va_S A s.heap H locs) (ls : Array Slot) (hl : lv_has ls 2 [(0, .ref h_o), (1, .int v1)]), WW H locs (F0 m 7 ls []) := by
    intro  n
    induction n with
    | zero => intro v1 rr hf; exact (ds_it_zero hf).elim
    | succ n ih7 =>
      intro v1 rr hf hG H locs hP hD hS ls hl
      refine h2 ?_
      obtain ⟨rr, hf, hG⟩ := ds_it_succ hf hG
      replace hf : fX8_isFirstMirror_7_b o_firstX o_firstY o_all_r o_shift_r o_plans_r v1 = some rr := hf
      obtain ⟨G1, eG1⟩ : ∃ G : ((Int32) ⊕ (Int32)) → Prop, G = ds_G (fun s' => ∃ r', ds_it (fun s => fX8_isFirstMirror_7_b o_firstX o_firstY o_all_r o_shift_r o_plans_r s) n s' = some r' ∧ G0 r') G0 := ⟨_, rfl⟩
      rw [← eG1] at hG
      have J_37 : ∀ (v1 : Int32) (rr : (Int32) ⊕ (Int32)) (hf : fX8_isFirstMirror_37 v1 = some rr) (hG : G1 rr) (H : Heap) (locs : List Loc) (hP : va_P (dC, dI) vwCl [(h_o, .inr (7, [.ref h_o_plans, .ref h_o_makers, .ref h_o_halves, .int o_raised, .ref h_o_all, .ref h_o_text, .ref h_o_saved, .ref h_o_undone, .int o_undos, .int o_reached, .int o_length, .int o_begin, .int o_letters, .int o_sort, .long o_word, .int o_wrongAt, .int o_badAt, .int o_bad, .ref h_o_told, .ref h_o_shift, .int o_firstX, .int o_firstY, .int o_secondX, .int o_secondY, .ref h_o_rootOf, .ref h_o_becomes, .ref h_o_comes, .ref h_o_next, .int o_x])), (h_o_all, .inl (ca 0, 350, .inl o_all_r)), (h_o_shift, .inl (ca 3, 768, .inl o_shift_r)), (h_o_plans, .inl (ca 0, 80, .inl o_plans_r))] H) (hD : va_D A [(h_o, .inr (7, [.ref h_o_plans, .ref h_o_makers, .ref h_o_halves, .int o_raised, .ref h_o_all, .ref h_o_text, .ref h_o_saved, .ref h_o_undone, .int o_undos, .int o_reached, .int o_length, .int o_begin, .int o_letters, .int o_sort, .long o_word, .int o_wrongAt, .int o_badAt, .int o_bad, .ref h_o_told, .ref h_o_shift, .int o_firstX, .int o_firstY, .int o_secondX, .int o_secondY, .ref h_o_rootOf, .ref h_o_becomes, .ref h_o_comes, .ref h_o_next, .int o_x])), (h_o_all, .inl (ca 0, 350, .inl o_all_r)), (h_o_shift, .inl (ca 3, 768, .inl o_shift_r)), (h_o_plans, .inl (ca 0, 80, .inl o_plans_r))]) (hS : va_S A s.heap H locs) (ls : Array Slot) (hl : lv_has ls 2 [(0, .ref h_o), (1, .int v1)]), WW H locs (F0 m 37 ls []) := by
        intro v1 rr hf hG H locs hP hD hS ls hl
        refine h2 ?_
        unfold fX8_isFirstMirror_37 at hf
        refine lv_iinc (v := (v1 + 1)) (lv' := [(1, .int (v1 + 1)), (0, .ref h_o)]) hx hb dX8_isFirstMirror_37 hl (k := 1) rfl rfl (by decide) rfl (fun ls hl => ?_)
        refine lv_goto (tgt := 7) hx hb dX8_isFirstMirror_40 (by decide) ?_
        have hf := Option.some.inj hf
        subst hf
        rw [eG1] at hG
        obtain ⟨rr, hf, hG⟩ := hG
        exact h1 (ih7 (v1 + 1) rr hf hG _ _ hP hD hS _ (lv_sub hl [1, 0] rfl))
      unfold fX8_isFirstMirror_7_b at hf
      refine lv_iload_n hx hb dX8_isFirstMirror_7 rfl (lv_at hl 1 rfl) ?_
      refine lv_aload_n hx hb dX8_isFirstMirror_8 rfl (lv_at hl 0 rfl) ?_
      obtain ⟨q9, hq9, hf⟩ := ds_ob hf
      refine ds_calli (wr := [(h_o_shift, .inl (ca 3, 768, .inl o_shift_r)), (h_o_plans, .inl (ca 0, 80, .inl o_plans_r))]) (va_runV (As := []) (rest := [.int v1]) ⟨hx, hb, hml, hown, hts⟩ (c_X8_turnings l dC dI ca sa h_o h_o_plans h_o_makers h_o_halves h_o_all h_o_text h_o_saved h_o_undone h_o_told h_o_shift h_o_rootOf h_o_becomes h_o_comes h_o_next H.size o_raised o_undos o_reached o_length o_begin o_letters o_sort o_word o_wrongAt o_badAt o_bad o_firstX o_firstY o_secondX o_secondY o_x o_all_r  q9 hq9) (cwV 0 hts (ds_gV kw_604 kw_605 kw_606 kw_597 kw_607) rfl rfl rfl (by decide +kernel) ⟨Nat.le_of_ble_eq_true rfl, Nat.le_of_ble_eq_true rfl⟩) ⟨ds_blind, va_recv hK hP (ci := 7) (q0 := 0) rfl rfl, ds_at hP hD hK hE hS hA [0, 1] rfl rfl _⟩ rfl rfl hl.1 rfl (lv_room (Nat.le_of_ble_eq_true rfl)) dX8_isFirstMirror_9 ⟨Nat.zero_le _, Nat.zero_le _⟩) hP hD hS hA [0, 1] [2, 3] rfl rfl rfl (by decide) (fun H locs hP hD hS => ?_)
      have hP : va_P (dC, dI) vwCl [(h_o_shift, .inl (ca 3, 768, .inl o_shift_r)), (h_o_plans, .inl (ca 0, 80, .inl o_plans_r)), (h_o, .inr (7, [.ref h_o_plans, .ref h_o_makers, .ref h_o_halves, .int o_raised, .ref h_o_all, .ref h_o_text, .ref h_o_saved, .ref h_o_undone, .int o_undos, .int o_reached, .int o_length, .int o_begin, .int o_letters, .int o_sort, .long o_word, .int o_wrongAt, .int o_badAt, .int o_bad, .ref h_o_told, .ref h_o_shift, .int o_firstX, .int o_firstY, .int o_secondX, .int o_secondY, .ref h_o_rootOf, .ref h_o_becomes, .ref h_o_comes, .ref h_o_next, .int o_x])), (h_o_all, .inl (ca 0, 350, .inl o_all_r))] H := hP
      have hD : va_D A [(h_o_shift, .inl (ca 3, 768, .inl o_shift_r)), (h_o_plans, .inl (ca 0, 80, .inl o_plans_r)), (h_o, .inr (7, [.ref h_o_plans, .ref h_o_makers, .ref h_o_halves, .int o_raised, .ref h_o_all, .ref h_o_text, .ref h_o_saved, .ref h_o_undone, .int o_undos, .int o_reached, .int o_length, .int o_begin, .int o_letters, .int o_sort, .long o_word, .int o_wrongAt, .int o_badAt, .int o_bad, .ref h_o_told, .ref h_o_shift, .int o_firstX, .int o_firstY, .int o_secondX, .int o_secondY, .ref h_o_rootOf, .ref h_o_becomes, .ref h_o_comes, .ref h_o_next, .int o_x])), (h_o_all, .inl (ca 0, 350, .inl o_all_r))] := hD
      refine lv_icmp_ge (tgt := 43) hx hb dX8_isFirstMirror_12 (by decide) (fun c_12 => ?_) (fun c_12 => ?_)
      · replace hf := ds_t c_12 hf
        refine lv_iconst (v := 0) hx hb dX8_isFirstMirror_43 (by decide) ?_
        have hf := Option.some.inj hf
        subst hf
        rw [eG1] at hG
        replace hG : G0 _ := hG
        rw [eG0] at hG
        have hG : _ = res := hG
        subst hG
        exact W.zret (v := (0 : Int32)) (ty := .boolean) hx hb hr rfl (fun t ht hW => ⟨⟨(0 : Int32), (), rfl, rfl, by rw [ht]; exact (hP.sub [2, 3, 0, 1] rfl), (hD.sub [2, 3, 0, 1] rfl rfl)⟩, hS.F ht⟩) hS.2.2 dX8_isFirstMirror_44
      · replace hf := ds_f c_12 hf
        refine lv_aload_n hx hb dX8_isFirstMirror_15 rfl (lv_at hl 0 rfl) ?_
        refine lv_iload_n hx hb dX8_isFirstMirror_16 rfl (lv_at hl 1 rfl) ?_
        obtain ⟨q17, hq17, hf⟩ := ds_ob hf
        refine ds_calli (wr := [(h_o_plans, .inl (ca 0, 80, .inl o_plans_r))]) (va_runV (As := [.int v1]) (rest := []) ⟨hx, hb, hml, hown, hts⟩ (c_X8_isFlipThere l dC dI ca sa h_o h_o_plans h_o_makers h_o_halves h_o_all h_o_text h_o_saved h_o_undone h_o_told h_o_shift h_o_rootOf h_o_becomes h_o_comes h_o_next H.size o_raised o_undos o_reached o_length o_begin o_letters o_sort o_word o_wrongAt o_badAt o_bad o_firstX o_firstY o_secondX o_secondY o_x o_all_r o_shift_r v1 q17 hq17) (cwV 1 hts (ds_gV kw_703 kw_704 kw_705 kw_597 kw_706) rfl rfl rfl (by decide +kernel) ⟨Nat.le_of_ble_eq_true rfl, Nat.le_of_ble_eq_true rfl⟩) ⟨ds_blind, va_recv hK hP (ci := 7) (q0 := 2) rfl rfl, ds_at hP hD hK hE hS hA [2, 3, 0] rfl rfl _⟩ rfl rfl hl.1 rfl (lv_room (Nat.le_of_ble_eq_true rfl)) dX8_isFirstMirror_17 ⟨Nat.zero_le _, Nat.zero_le _⟩) hP hD hS hA [2, 3, 0] [1] rfl rfl rfl (by decide) (fun H locs hP hD hS => ?_)
        have hP : va_P (dC, dI) vwCl [(h_o_plans, .inl (ca 0, 80, .inl o_plans_r)), (h_o, .inr (7, [.ref h_o_plans, .ref h_o_makers, .ref h_o_halves, .int o_raised, .ref h_o_all, .ref h_o_text, .ref h_o_saved, .ref h_o_undone, .int o_undos, .int o_reached, .int o_length, .int o_begin, .int o_letters, .int o_sort, .long o_word, .int o_wrongAt, .int o_badAt, .int o_bad, .ref h_o_told, .ref h_o_shift, .int o_firstX, .int o_firstY, .int o_secondX, .int o_secondY, .ref h_o_rootOf, .ref h_o_becomes, .ref h_o_comes, .ref h_o_next, .int o_x])), (h_o_all, .inl (ca 0, 350, .inl o_all_r)), (h_o_shift, .inl (ca 3, 768, .inl o_shift_r))] H := hP
        have hD : va_D A [(h_o_plans, .inl (ca 0, 80, .inl o_plans_r)), (h_o, .inr (7, [.ref h_o_plans, .ref h_o_makers, .ref h_o_halves, .int o_raised, .ref h_o_all, .ref h_o_text, .ref h_o_saved, .ref h_o_undone, .int o_undos, .int o_reached, .int o_length, .int o_begin, .int o_letters, .int o_sort, .long o_word, .int o_wrongAt, .int o_badAt, .int o_bad, .ref h_o_told, .ref h_o_shift, .int o_firstX, .int o_firstY, .int o_secondX, .int o_secondY, .ref h_o_rootOf, .ref h_o_becomes, .ref h_o_comes, .ref h_o_next, .int o_x])), (h_o_all, .inl (ca 0, 350, .inl o_all_r)), (h_o_shift, .inl (ca 3, 768, .inl o_shift_r))] := hD
        refine lv_if_eq (tgt := 37) hx hb dX8_isFirstMirror_20 (by decide) (fun c_20 => ?_) (fun c_20 => ?_)
        · replace hf := ds_t c_20 hf
          exact h1 (J_37 v1 _ hf hG _ _ (hP.sub [1, 2, 3, 0] rfl) (hD.sub [1, 2, 3, 0] rfl rfl) hS _ (lv_sub hl [0, 1] rfl))
        · replace hf := ds_f c_20 hf
          refine lv_aload_n hx hb dX8_isFirstMirror_23 rfl (lv_at hl 0 rfl) ?_
          refine lv_iload_n hx hb dX8_isFirstMirror_24 rfl (lv_at hl 1 rfl) ?_
          obtain ⟨q25, hq25, hf⟩ := ds_ob hf
          refine ds_calli (wr := [(h_o_shift, .inl (ca 3, 768, .inl o_shift_r))]) (va_runV (As := [.int v1]) (rest := []) ⟨hx, hb, hml, hown, hts⟩ (c_X8_isFirstLeft l dC dI ca sa h_o h_o_plans h_o_makers h_o_halves h_o_all h_o_text h_o_saved h_o_undone h_o_told h_o_shift h_o_rootOf h_o_becomes h_o_comes h_o_next H.size o_raised o_undos o_reached o_length o_begin o_letters o_sort o_word o_wrongAt o_badAt o_bad o_firstX o_firstY o_secondX o_secondY o_x o_all_r o_plans_r v1 q25 hq25) (cwV 1 hts (ds_gV kw_715 kw_716 kw_717 kw_597 kw_718) rfl rfl rfl (by decide +kernel) ⟨Nat.le_of_ble_eq_true rfl, Nat.le_of_ble_eq_true rfl⟩) ⟨ds_blind, va_recv hK hP (ci := 7) (q0 := 1) rfl rfl, ds_at hP hD hK hE hS hA [1, 2, 0] rfl rfl _⟩ rfl rfl hl.1 rfl (lv_room (Nat.le_of_ble_eq_true rfl)) dX8_isFirstMirror_25 ⟨Nat.zero_le _, Nat.zero_le _⟩) hP hD hS hA [1, 2, 0] [3] rfl rfl rfl (by decide) (fun H locs hP hD hS => ?_)
          have hP : va_P (dC, dI) vwCl [(h_o_shift, .inl (ca 3, 768, .inl o_shift_r)), (h_o, .inr (7, [.ref h_o_plans, .ref h_o_makers, .ref h_o_halves, .int o_raised, .ref h_o_all, .ref h_o_text, .ref h_o_saved, .ref h_o_undone, .int o_undos, .int o_reached, .int o_length, .int o_begin, .int o_letters, .int o_sort, .long o_word, .int o_wrongAt, .int o_badAt, .int o_bad, .ref h_o_told, .ref h_o_shift, .int o_firstX, .int o_firstY, .int o_secondX, .int o_secondY, .ref h_o_rootOf, .ref h_o_becomes, .ref h_o_comes, .ref h_o_next, .int o_x])), (h_o_all, .inl (ca 0, 350, .inl o_all_r)), (h_o_plans, .inl (ca 0, 80, .inl o_plans_r))] H := hP
          have hD : va_D A [(h_o_shift, .inl (ca 3, 768, .inl o_shift_r)), (h_o, .inr (7, [.ref h_o_plans, .ref h_o_makers, .ref h_o_halves, .int o_raised, .ref h_o_all, .ref h_o_text, .ref h_o_saved, .ref h_o_undone, .int o_undos, .int o_reached, .int o_length, .int o_begin, .int o_letters, .int o_sort, .long o_word, .int o_wrongAt, .int o_badAt, .int o_bad, .ref h_o_told, .ref h_o_shift, .int o_firstX, .int o_firstY, .int o_secondX, .int o_secondY, .ref h_o_rootOf, .ref h_o_becomes, .ref h_o_comes, .ref h_o_next, .int o_x])), (h_o_all, .inl (ca 0, 350, .inl o_all_r)), (h_o_plans, .inl (ca 0, 80, .inl o_plans_r))] := hD
          refine lv_if_eq (tgt := 37) hx hb dX8_isFirstMirror_28 (by decide) (fun c_28 => ?_) (fun c_28 => ?_)
          · replace hf := ds_t c_28 hf
            exact h1 (J_37 v1 _ hf hG _ _ (hP.sub [1, 2, 0, 3] rfl) (hD.sub [1, 2, 0, 3] rfl rfl) hS _ (lv_sub hl [0, 1] rfl))
          · replace hf := ds_f c_28 hf
            obtain ⟨rr, hr_0, hf⟩ := ds_ob hf
            have hf := Option.some.inj hf
            subst hf
            rw [eG1] at hG
            replace hG : G0 rr := hG
            have hf := hr_0
            exact h1 (J_31 v1 _ hf hG _ _ (hP.sub [1, 2, 0, 3] rfl) (hD.sub [1, 2, 0, 3] rfl rfl) hS _ (lv_sub hl [0, 1] rfl))
  unfold fX8_isFirstMirror at hf
  refine lv_aload_n hx hb dX8_isFirstMirror_0 rfl (lv_at hl 0 rfl) ?_
  obtain ⟨q1, hq1, hf⟩ := ds_ob hf
  refine ds_calli (wr := [(h_o_shift, .inl (ca 3, 768, .inl o_shift_r)), (h_o_plans, .inl (ca 0, 80, .inl o_plans_r))]) (va_runV (As := []) (rest := []) ⟨hx, hb, hml, hown, hts⟩ (c_X8_turnings l dC dI ca sa h_o h_o_plans h_o_makers h_o_halves h_o_all h_o_text h_o_saved h_o_undone h_o_told h_o_shift h_o_rootOf h_o_becomes h_o_comes h_o_next s.heap.size o_raised o_undos o_reached o_length o_begin o_letters o_sort o_word o_wrongAt o_badAt o_bad o_firstX o_firstY o_secondX o_secondY o_x o_all_r  q1 hq1) (cwV 0 hts (ds_gV kw_604 kw_605 kw_606 kw_597 kw_607) rfl rfl rfl (by decide +kernel) ⟨Nat.le_of_ble_eq_true rfl, Nat.le_of_ble_eq_true rfl⟩) ⟨ds_blind, va_recv hK hP (ci := 7) (q0 := 0) rfl rfl, ds_at hP hD hK hE hS hA [0, 1] rfl rfl _⟩ rfl rfl hl.1 rfl (lv_room (Nat.le_of_ble_eq_true rfl)) dX8_isFirstMirror_1 ⟨Nat.zero_le _, Nat.zero_le _⟩) hP hD hS hA [0, 1] [2, 3] rfl rfl rfl (by decide) (fun H locs hP hD hS => ?_)
  have hP : va_P (dC, dI) vwCl [(h_o_shift, .inl (ca 3, 768, .inl o_shift_r)), (h_o_plans, .inl (ca 0, 80, .inl o_plans_r)), (h_o, .inr (7, [.ref h_o_plans, .ref h_o_makers, .ref h_o_halves, .int o_raised, .ref h_o_all, .ref h_o_text, .ref h_o_saved, .ref h_o_undone, .int o_undos, .int o_reached, .int o_length, .int o_begin, .int o_letters, .int o_sort, .long o_word, .int o_wrongAt, .int o_badAt, .int o_bad, .ref h_o_told, .ref h_o_shift, .int o_firstX, .int o_firstY, .int o_secondX, .int o_secondY, .ref h_o_rootOf, .ref h_o_becomes, .ref h_o_comes, .ref h_o_next, .int o_x])), (h_o_all, .inl (ca 0, 350, .inl o_all_r))] H := hP
  have hD : va_D A [(h_o_shift, .inl (ca 3, 768, .inl o_shift_r)), (h_o_plans, .inl (ca 0, 80, .inl o_plans_r)), (h_o, .inr (7, [.ref h_o_plans, .ref h_o_makers, .ref h_o_halves, .int o_raised, .ref h_o_all, .ref h_o_text, .ref h_o_saved, .ref h_o_undone, .int o_undos, .int o_reached, .int o_length, .int o_begin, .int o_letters, .int o_sort, .long o_word, .int o_wrongAt, .int o_badAt, .int o_bad, .ref h_o_told, .ref h_o_shift, .int o_firstX, .int o_firstY, .int o_secondX, .int o_secondY, .ref h_o_rootOf, .ref h_o_becomes, .ref h_o_comes, .ref h_o_next, .int o_x])), (h_o_all, .inl (ca 0, 350, .inl o_all_r))] := hD
  refine lv_iconst (v := 2) hx hb dX8_isFirstMirror_4 (by decide) ?_
  refine lv_idiv hx hb dX8_isFirstMirror_5 (by decide) ?_
  refine lv_istore_n (lv' := [(1, .int (q1 / (2 : Int32))), (0, .ref h_o)]) hx hb dX8_isFirstMirror_6 rfl hl (by decide) rfl (fun ls hl => ?_)
  exact h1 (J_7  1000 (q1 / (2 : Int32)) _ hf hG _ _ (hP.sub [2, 3, 0, 1] rfl) (hD.sub [2, 3, 0, 1] rfl rfl) hS _ (lv_sub hl [1, 0] rfl))
theorem dX8_isShortTurned_0 : decode cX8_isShortTurned 0 = .ok (.aload_n 0, 1) := by decide +kernel
theorem dX8_isShortTurned_1 : decode cX8_isShortTurned 1 = .ok (.invokevirtual 62, 3) := by decide +kernel
theorem dX8_isShortTurned_4 : decode cX8_isShortTurned 4 = .ok (.iconst 2, 1) := by decide +kernel
theorem dX8_isShortTurned_5 : decode cX8_isShortTurned 5 = .ok (.idiv, 1) := by decide +kernel
theorem dX8_isShortTurned_6 : decode cX8_isShortTurned 6 = .ok (.istore_n 1, 1) := by decide +kernel
theorem dX8_isShortTurned_7 : decode cX8_isShortTurned 7 = .ok (.iload_n 1, 1) := by decide +kernel
theorem dX8_isShortTurned_8 : decode cX8_isShortTurned 8 = .ok (.aload_n 0, 1) := by decide +kernel
theorem dX8_isShortTurned_9 : decode cX8_isShortTurned 9 = .ok (.invokevirtual 62, 3) := by decide +kernel
theorem dX8_isShortTurned_12 : decode cX8_isShortTurned 12 = .ok (.if_icmp .ge 103, 3) := by decide +kernel
theorem dX8_isShortTurned_15 : decode cX8_isShortTurned 15 = .ok (.bipush (-10), 2) := by decide +kernel
theorem dX8_isShortTurned_17 : decode cX8_isShortTurned 17 = .ok (.istore_n 2, 1) := by decide +kernel
theorem dX8_isShortTurned_18 : decode cX8_isShortTurned 18 = .ok (.iload_n 2, 1) := by decide +kernel
theorem dX8_isShortTurned_19 : decode cX8_isShortTurned 19 = .ok (.bipush 10, 2) := by decide +kernel
theorem dX8_isShortTurned_21 : decode cX8_isShortTurned 21 = .ok (.if_icmp .gt 88, 3) := by decide +kernel
theorem dX8_isShortTurned_24 : decode cX8_isShortTurned 24 = .ok (.aload_n 0, 1) := by decide +kernel
theorem dX8_isShortTurned_25 : decode cX8_isShortTurned 25 = .ok (.iload_n 1, 1) := by decide +kernel
theorem dX8_isShortTurned_26 : decode cX8_isShortTurned 26 = .ok (.invokevirtual 180, 3) := by decide +kernel
theorem dX8_isShortTurned_29 : decode cX8_isShortTurned 29 = .ok (.ifCond .eq 80, 3) := by decide +kernel
theorem dX8_isShortTurned_32 : decode cX8_isShortTurned 32 = .ok (.bipush (-10), 2) := by decide +kernel
theorem dX8_isShortTurned_34 : decode cX8_isShortTurned 34 = .ok (.istore_n 3, 1) := by decide +kernel
theorem dX8_isShortTurned_35 : decode cX8_isShortTurned 35 = .ok (.iload_n 3, 1) := by decide +kernel
theorem dX8_isShortTurned_36 : decode cX8_isShortTurned 36 = .ok (.bipush 10, 2) := by decide +kernel
theorem dX8_isShortTurned_38 : decode cX8_isShortTurned 38 = .ok (.if_icmp .gt 65, 3) := by decide +kernel
theorem dX8_isShortTurned_41 : decode cX8_isShortTurned 41 = .ok (.aload_n 0, 1) := by decide +kernel
theorem dX8_isShortTurned_42 : decode cX8_isShortTurned 42 = .ok (.iload_n 2, 1) := by decide +kernel
theorem dX8_isShortTurned_43 : decode cX8_isShortTurned 43 = .ok (.iload_n 3, 1) := by decide +kernel
theorem dX8_isShortTurned_44 : decode cX8_isShortTurned 44 = .ok (.invokevirtual 137, 3) := by decide +kernel
theorem dX8_isShortTurned_47 : decode cX8_isShortTurned 47 = .ok (.ifCond .eq 50, 3) := by decide +kernel
theorem dX8_isShortTurned_50 : decode cX8_isShortTurned 50 = .ok (.aload_n 0, 1) := by decide +kernel
theorem dX8_isShortTurned_51 : decode cX8_isShortTurned 51 = .ok (.iload_n 2, 1) := by decide +kernel
theorem dX8_isShortTurned_52 : decode cX8_isShortTurned 52 = .ok (.iload_n 3, 1) := by decide +kernel
theorem dX8_isShortTurned_53 : decode cX8_isShortTurned 53 = .ok (.invokevirtual 148, 3) := by decide +kernel
theorem dX8_isShortTurned_56 : decode cX8_isShortTurned 56 = .ok (.aload_n 0, 1) := by decide +kernel
theorem dX8_isShortTurned_57 : decode cX8_isShortTurned 57 = .ok (.aload_n 0, 1) := by decide +kernel
theorem dX8_isShortTurned_58 : decode cX8_isShortTurned 58 = .ok (.getfield 151, 3) := by decide +kernel
theorem dX8_isShortTurned_61 : decode cX8_isShortTurned 61 = .ok (.aload_n 0, 1) := by decide +kernel
theorem dX8_isShortTurned_62 : decode cX8_isShortTurned 62 = .ok (.getfield 154, 3) := by decide +kernel
theorem dX8_isShortTurned_65 : decode cX8_isShortTurned 65 = .ok (.invokevirtual 148, 3) := by decide +kernel
theorem dX8_isShortTurned_68 : decode cX8_isShortTurned 68 = .ok (.if_icmp .ne 29, 3) := by decide +kernel
theorem dX8_isShortTurned_71 : decode cX8_isShortTurned 71 = .ok (.aload_n 0, 1) := by decide +kernel
theorem dX8_isShortTurned_72 : decode cX8_isShortTurned 72 = .ok (.iload_n 1, 1) := by decide +kernel
theorem dX8_isShortTurned_73 : decode cX8_isShortTurned 73 = .ok (.iload_n 2, 1) := by decide +kernel
theorem dX8_isShortTurned_74 : decode cX8_isShortTurned 74 = .ok (.iload_n 3, 1) := by decide +kernel
theorem dX8_isShortTurned_75 : decode cX8_isShortTurned 75 = .ok (.invokevirtual 130, 3) := by decide +kernel
theorem dX8_isShortTurned_78 : decode cX8_isShortTurned 78 = .ok (.iload_n 2, 1) := by decide +kernel
theorem dX8_isShortTurned_79 : decode cX8_isShortTurned 79 = .ok (.ineg, 1) := by decide +kernel
theorem dX8_isShortTurned_80 : decode cX8_isShortTurned 80 = .ok (.if_icmp .ne 17, 3) := by decide +kernel
theorem dX8_isShortTurned_83 : decode cX8_isShortTurned 83 = .ok (.aload_n 0, 1) := by decide +kernel
theorem dX8_isShortTurned_84 : decode cX8_isShortTurned 84 = .ok (.iload_n 1, 1) := by decide +kernel
theorem dX8_isShortTurned_85 : decode cX8_isShortTurned 85 = .ok (.iload_n 2, 1) := by decide +kernel
theorem dX8_isShortTurned_86 : decode cX8_isShortTurned 86 = .ok (.iload_n 3, 1) := by decide +kernel
theorem dX8_isShortTurned_87 : decode cX8_isShortTurned 87 = .ok (.invokevirtual 134, 3) := by decide +kernel
theorem dX8_isShortTurned_90 : decode cX8_isShortTurned 90 = .ok (.iload_n 3, 1) := by decide +kernel
theorem dX8_isShortTurned_91 : decode cX8_isShortTurned 91 = .ok (.ineg, 1) := by decide +kernel
theorem dX8_isShortTurned_92 : decode cX8_isShortTurned 92 = .ok (.if_icmp .ne 5, 3) := by decide +kernel
theorem dX8_isShortTurned_95 : decode cX8_isShortTurned 95 = .ok (.iconst 1, 1) := by decide +kernel
theorem dX8_isShortTurned_96 : decode cX8_isShortTurned 96 = .ok (.ireturn, 1) := by decide +kernel
theorem dX8_isShortTurned_97 : decode cX8_isShortTurned 97 = .ok (.iinc 3 1, 3) := by decide +kernel
theorem dX8_isShortTurned_100 : decode cX8_isShortTurned 100 = .ok (.goto (-65), 3) := by decide +kernel
theorem dX8_isShortTurned_103 : decode cX8_isShortTurned 103 = .ok (.iinc 2 1, 3) := by decide +kernel
theorem dX8_isShortTurned_106 : decode cX8_isShortTurned 106 = .ok (.goto (-88), 3) := by decide +kernel
theorem dX8_isShortTurned_109 : decode cX8_isShortTurned 109 = .ok (.iinc 1 1, 3) := by decide +kernel
theorem dX8_isShortTurned_112 : decode cX8_isShortTurned 112 = .ok (.goto (-105), 3) := by decide +kernel
theorem dX8_isShortTurned_115 : decode cX8_isShortTurned 115 = .ok (.iconst 0, 1) := by decide +kernel
theorem dX8_isShortTurned_116 : decode cX8_isShortTurned 116 = .ok (.ireturn, 1) := by decide +kernel
def fX8_isShortTurned_109 (v1 : Int32) : Option ((Int32) ⊕ (Int32)) :=
  some (.inl (v1 + 1))
def fX8_isShortTurned_103 (v2 : Int32) : Option ((Int32) ⊕ ((Int32) ⊕ (Int32))) :=
  some (.inl (v2 + 1))
def fX8_isShortTurned_97 (v3 : Int32) : Option ((Int32) ⊕ ((Int32) ⊕ ((Int32) ⊕ (Int32)))) :=
  some (.inl (v3 + 1))
def fX8_isShortTurned_35_b (o_firstX : Int32) (o_firstY : Int32) (o_all_r : Nat → Int32) (o_shift_r : Nat → Int32) (o_plans_r : Nat → Int32) (v1 : Int32) (v2 : Int32) (v3 : Int32) : Option ((Int32) ⊕ ((Int32) ⊕ ((Int32) ⊕ (Int32)))) :=
  if (10 : Int32) < v3 then Option.bind (fX8_isShortTurned_103 v2) fun z => some (.inr z) else Option.bind (fX8_isStep o_all_r o_shift_r v2 v3) fun q44 => if q44 = 0 then fX8_isShortTurned_97 v3 else Option.bind (fX8_longOf o_all_r v2 v3) fun q53 => Option.bind (fX8_longOf o_all_r o_firstX o_firstY) fun q65 => if q53 = q65 then Option.bind (fX8_turnX o_all_r o_plans_r v1 v2 v3) fun q75 => if q75 = (-v2) then Option.bind (fX8_turnY o_all_r o_plans_r v1 v2 v3) fun q87 => if q87 = (-v3) then some (.inr (.inr (.inr (1 : Int32)))) else fX8_isShortTurned_97 v3 else fX8_isShortTurned_97 v3 else fX8_isShortTurned_97 v3
def fX8_isShortTurned_35 (o_firstX : Int32) (o_firstY : Int32) (o_all_r : Nat → Int32) (o_shift_r : Nat → Int32) (o_plans_r : Nat → Int32) (v1 : Int32) (v2 : Int32) (v3 : Int32) : Option ((Int32) ⊕ ((Int32) ⊕ (Int32))) := ds_it (fun s => fX8_isShortTurned_35_b o_firstX o_firstY o_all_r o_shift_r o_plans_r v1 v2 s) 1000 v3
def fX8_isShortTurned_18_b (o_firstX : Int32) (o_firstY : Int32) (o_all_r : Nat → Int32) (o_shift_r : Nat → Int32) (o_plans_r : Nat → Int32) (v1 : Int32) (v2 : Int32) : Option ((Int32) ⊕ ((Int32) ⊕ (Int32))) :=
  if (10 : Int32) < v2 then Option.bind (fX8_isShortTurned_109 v1) fun z => some (.inr z) else Option.bind (fX8_isFlipThere o_all_r o_shift_r v1) fun q26 => if q26 = 0 then Option.bind (fX8_isShortTurned_109 v1) fun z => some (.inr z) else fX8_isShortTurned_35 o_firstX o_firstY o_all_r o_shift_r o_plans_r v1 v2 (-10 : Int32)
def fX8_isShortTurned_18 (o_firstX : Int32) (o_firstY : Int32) (o_all_r : Nat → Int32) (o_shift_r : Nat → Int32) (o_plans_r : Nat → Int32) (v1 : Int32) (v2 : Int32) : Option ((Int32) ⊕ (Int32)) := ds_it (fun s => fX8_isShortTurned_18_b o_firstX o_firstY o_all_r o_shift_r o_plans_r v1 s) 1000 v2
def fX8_isShortTurned_7_b (o_firstX : Int32) (o_firstY : Int32) (o_all_r : Nat → Int32) (o_shift_r : Nat → Int32) (o_plans_r : Nat → Int32) (v1 : Int32) : Option ((Int32) ⊕ (Int32)) :=
  Option.bind (fX8_turnings o_all_r) fun q9 => if q9 ≤ v1 then some (.inr (0 : Int32)) else fX8_isShortTurned_18 o_firstX o_firstY o_all_r o_shift_r o_plans_r v1 (-10 : Int32)
def fX8_isShortTurned_7 (o_firstX : Int32) (o_firstY : Int32) (o_all_r : Nat → Int32) (o_shift_r : Nat → Int32) (o_plans_r : Nat → Int32) (v1 : Int32) : Option (Int32) := ds_it (fun s => fX8_isShortTurned_7_b o_firstX o_firstY o_all_r o_shift_r o_plans_r s) 1000 v1
def fX8_isShortTurned (o_firstX : Int32) (o_firstY : Int32) (o_all_r : Nat → Int32) (o_shift_r : Nat → Int32) (o_plans_r : Nat → Int32) : Option (Int32) :=
  Option.bind (fX8_turnings o_all_r) fun q1 => fX8_isShortTurned_7 o_firstX o_firstY o_all_r o_shift_r o_plans_r (q1 / (2 : Int32))
set_option maxHeartbeats 4000000 in
set_option maxRecDepth 100000 in
theorem c_X8_isShortTurned (l : Launch) (dC : Nat → ClassId) (dI : Nat → Nat → Nat) (ca : Nat → ClassId) (sa : Nat → Nat) (h_o : Nat) (h_o_plans : Nat) (h_o_makers : Nat) (h_o_halves : Nat) (h_o_all : Nat) (h_o_text : Nat) (h_o_saved : Nat) (h_o_undone : Nat) (h_o_told : Nat) (h_o_shift : Nat) (h_o_rootOf : Nat) (h_o_becomes : Nat) (h_o_comes : Nat) (h_o_next : Nat) (sz : Nat) (o_raised : Int32) (o_undos : Int32) (o_reached : Int32) (o_length : Int32) (o_begin : Int32) (o_letters : Int32) (o_sort : Int32) (o_word : Int64) (o_wrongAt : Int32) (o_badAt : Int32) (o_bad : Int32) (o_firstX : Int32) (o_firstY : Int32) (o_secondX : Int32) (o_secondY : Int32) (o_x : Int32) (o_all_r : Nat → Int32) (o_shift_r : Nat → Int32) (o_plans_r : Nat → Int32) (res : Int32) (hf : fX8_isShortTurned o_firstX o_firstY o_all_r o_shift_r o_plans_r = some res) : Met l yX8_isShortTurned (Cond.code yX8_isShortTurned cX8_isShortTurned 4 (some .boolean) :: ds_gw) { frames := 3, cells := 0, slots := 0, locals := 66 } (va_Pc [.ref h_o] (ds_Pre dC dI ca sa [(h_o, .inr (7, [.ref h_o_plans, .ref h_o_makers, .ref h_o_halves, .int o_raised, .ref h_o_all, .ref h_o_text, .ref h_o_saved, .ref h_o_undone, .int o_undos, .int o_reached, .int o_length, .int o_begin, .int o_letters, .int o_sort, .long o_word, .int o_wrongAt, .int o_badAt, .int o_bad, .ref h_o_told, .ref h_o_shift, .int o_firstX, .int o_firstY, .int o_secondX, .int o_secondY, .ref h_o_rootOf, .ref h_o_becomes, .ref h_o_comes, .ref h_o_next, .int o_x])), (h_o_all, .inl (ca 0, 350, .inl o_all_r)), (h_o_shift, .inl (ca 3, 768, .inl o_shift_r)), (h_o_plans, .inl (ca 0, 80, .inl o_plans_r))] sz)) (va_Qi (fun r (_ : Unit) => r = res) (ds_B dC dI (va_A [(h_o, .inr (7, [.ref h_o_plans, .ref h_o_makers, .ref h_o_halves, .int o_raised, .ref h_o_all, .ref h_o_text, .ref h_o_saved, .ref h_o_undone, .int o_undos, .int o_reached, .int o_length, .int o_begin, .int o_letters, .int o_sort, .long o_word, .int o_wrongAt, .int o_badAt, .int o_bad, .ref h_o_told, .ref h_o_shift, .int o_firstX, .int o_firstY, .int o_secondX, .int o_secondY, .ref h_o_rootOf, .ref h_o_becomes, .ref h_o_comes, .ref h_o_next, .int o_x])), (h_o_all, .inl (ca 0, 350, .inl o_all_r)), (h_o_shift, .inl (ca 3, 768, .inl o_shift_r)), (h_o_plans, .inl (ca 0, 80, .inl o_plans_r))] sz) [(h_o, .inr (7, [.ref h_o_plans, .ref h_o_makers, .ref h_o_halves, .int o_raised, .ref h_o_all, .ref h_o_text, .ref h_o_saved, .ref h_o_undone, .int o_undos, .int o_reached, .int o_length, .int o_begin, .int o_letters, .int o_sort, .long o_word, .int o_wrongAt, .int o_badAt, .int o_bad, .ref h_o_told, .ref h_o_shift, .int o_firstX, .int o_firstY, .int o_secondX, .int o_secondY, .ref h_o_rootOf, .ref h_o_becomes, .ref h_o_comes, .ref h_o_next, .int o_x])), (h_o_all, .inl (ca 0, 350, .inl o_all_r)), (h_o_shift, .inl (ca 3, 768, .inl o_shift_r)), (h_o_plans, .inl (ca 0, 80, .inl o_plans_r))]) (va_A [(h_o, .inr (7, [.ref h_o_plans, .ref h_o_makers, .ref h_o_halves, .int o_raised, .ref h_o_all, .ref h_o_text, .ref h_o_saved, .ref h_o_undone, .int o_undos, .int o_reached, .int o_length, .int o_begin, .int o_letters, .int o_sort, .long o_word, .int o_wrongAt, .int o_badAt, .int o_bad, .ref h_o_told, .ref h_o_shift, .int o_firstX, .int o_firstY, .int o_secondX, .int o_secondY, .ref h_o_rootOf, .ref h_o_becomes, .ref h_o_comes, .ref h_o_next, .int o_x])), (h_o_all, .inl (ca 0, 350, .inl o_all_r)), (h_o_shift, .inl (ca 3, 768, .inl o_shift_r)), (h_o_plans, .inl (ca 0, 80, .inl o_plans_r))] sz)) 0 0 (va_A [(h_o, .inr (7, [.ref h_o_plans, .ref h_o_makers, .ref h_o_halves, .int o_raised, .ref h_o_all, .ref h_o_text, .ref h_o_saved, .ref h_o_undone, .int o_undos, .int o_reached, .int o_length, .int o_begin, .int o_letters, .int o_sort, .long o_word, .int o_wrongAt, .int o_badAt, .int o_bad, .ref h_o_told, .ref h_o_shift, .int o_firstX, .int o_firstY, .int o_secondX, .int o_secondY, .ref h_o_rootOf, .ref h_o_becomes, .ref h_o_comes, .ref h_o_next, .int o_x])), (h_o_all, .inl (ca 0, 350, .inl o_all_r)), (h_o_shift, .inl (ca 3, 768, .inl o_shift_r)), (h_o_plans, .inl (ca 0, 80, .inl o_plans_r))] sz) := by
  refine Met.ofW (cc := cX8_isShortTurned) (maxL := 4) (ret := (some .boolean)) (by decide) rfl ?_
  intro p e s m args below meth c s₁ B hml hv
  obtain ⟨rfl, hsz, hP, hK, hD0, hE⟩ := hv
  have hx := B.exec
  have hb := B.bytes
  have hr := B.returns
  have hts := atoms_spec (ws := Cond.code yX8_isShortTurned cX8_isShortTurned 4 (some .boolean) :: ds_gw) B.pre
  have hg : ∀ {w : Cond}, w ∈ ds_gw → w.before _ s = true := fun h => hts _ (List.mem_cons_of_mem _ h)
  have hown : s.vm.findClass RX8 = some m.cls := findClass_of_methodNamed B.named
  have hlocks := B.notSynchronized
  subst hsz
  have hD := hD0.self (sz := s.heap.size)
  generalize hAe : va_A [(h_o, .inr (7, [.ref h_o_plans, .ref h_o_makers, .ref h_o_halves, .int o_raised, .ref h_o_all, .ref h_o_text, .ref h_o_saved, .ref h_o_undone, .int o_undos, .int o_reached, .int o_length, .int o_begin, .int o_letters, .int o_sort, .long o_word, .int o_wrongAt, .int o_badAt, .int o_bad, .ref h_o_told, .ref h_o_shift, .int o_firstX, .int o_firstY, .int o_secondX, .int o_secondY, .ref h_o_rootOf, .ref h_o_becomes, .ref h_o_comes, .ref h_o_next, .int o_x])), (h_o_all, .inl (ca 0, 350, .inl o_all_r)), (h_o_shift, .inl (ca 3, 768, .inl o_shift_r)), (h_o_plans, .inl (ca 0, 80, .inl o_plans_r))] s.heap.size = A at hD hE ⊢
  have hA : ∀ q : Nat, s.heap.size ≤ q → A q := fun q h => by rw [← hAe]; exact Or.inr h
  have hS : va_S A s.heap s.heap [] := va_S.rf
  have hl := lv_entry ([.ref h_o]) (n := 4) (Nat.le_of_ble_eq_true rfl)
  rw [lg_entry_eq]
  generalize (lg_sl ([.ref h_o]) ++ List.replicate (4 - (lg_sl ([.ref h_o])).length) Slot.unset).toArray = ls at hl ⊢
  have hl : lv_has ls 4 [(0, .ref h_o)] := hl
  obtain ⟨G0, eG0⟩ : ∃ G : Int32 → Prop, G = (fun r => r = res) := ⟨_, rfl⟩
  obtain ⟨rr, hrr⟩ : ∃ z, z = res := ⟨_, rfl⟩
  rw [← hrr] at hf
  have hG : G0 rr := by subst eG0; exact hrr
  refine ds_cap (fun WW h1 h2 => ?_)
  have J_7 : ∀ (n : Nat) (v1 : Int32) (rr : Int32) (hf : ds_it (fun s => fX8_isShortTurned_7_b o_firstX o_firstY o_all_r o_shift_r o_plans_r s) n v1 = some rr) (hG : G0 rr) (H : Heap) (locs : List Loc) (hP : va_P (dC, dI) vwCl [(h_o, .inr (7, [.ref h_o_plans, .ref h_o_makers, .ref h_o_halves, .int o_raised, .ref h_o_all, .ref h_o_text, .ref h_o_saved, .ref h_o_undone, .int o_undos, .int o_reached, .int o_length, .int o_begin, .int o_letters, .int o_sort, .long o_word, .int o_wrongAt, .int o_badAt, .int o_bad, .ref h_o_told, .ref h_o_shift, .int o_firstX, .int o_firstY, .int o_secondX, .int o_secondY, .ref h_o_rootOf, .ref h_o_becomes, .ref h_o_comes, .ref h_o_next, .int o_x])), (h_o_all, .inl (ca 0, 350, .inl o_all_r)), (h_o_shift, .inl (ca 3, 768, .inl o_shift_r)), (h_o_plans, .inl (ca 0, 80, .inl o_plans_r))] H) (hD : va_D A [(h_o, .inr (7, [.ref h_o_plans, .ref h_o_makers, .ref h_o_halves, .int o_raised, .ref h_o_all, .ref h_o_text, .ref h_o_saved, .ref h_o_undone, .int o_undos, .int o_reached, .int o_length, .int o_begin, .int o_letters, .int o_sort, .long o_word, .int o_wrongAt, .int o_badAt, .int o_bad, .ref h_o_told, .ref h_o_shift, .int o_firstX, .int o_firstY, .int o_secondX, .int o_secondY, .ref h_o_rootOf, .ref h_o_becomes, .ref h_o_comes, .ref h_o_next, .int o_x])), (h_o_all, .inl (ca 0, 350, .inl o_all_r)), (h_o_shift, .inl (ca 3, 768, .inl o_shift_r)), (h_o_plans, .inl (ca 0, 80, .inl o_plans_r))]) (hS : va_S A s.heap H locs) (ls : Array Slot) (hl : lv_has ls 4 [(0, .ref h_o), (1, .int v1)]), WW H locs (F0 m 7 ls []) := by
    intro  n
    induction n with
    | zero => intro v1 rr hf; exact (ds_it_zero hf).elim
    | succ n ih7 =>
      intro v1 rr hf hG H locs hP hD hS ls hl
      refine h2 ?_
      obtain ⟨rr, hf, hG⟩ := ds_it_succ hf hG
      replace hf : fX8_isShortTurned_7_b o_firstX o_firstY o_all_r o_shift_r o_plans_r v1 = some rr := hf
      obtain ⟨G1, eG1⟩ : ∃ G : ((Int32) ⊕ (Int32)) → Prop, G = ds_G (fun s' => ∃ r', ds_it (fun s => fX8_isShortTurned_7_b o_firstX o_firstY o_all_r o_shift_r o_plans_r s) n s' = some r' ∧ G0 r') G0 := ⟨_, rfl⟩
      rw [← eG1] at hG
      have J_109 : ∀ (v1 : Int32) (rr : (Int32) ⊕ (Int32)) (hf : fX8_isShortTurned_109 v1 = some rr) (hG : G1 rr) (H : Heap) (locs : List Loc) (hP : va_P (dC, dI) vwCl [(h_o, .inr (7, [.ref h_o_plans, .ref h_o_makers, .ref h_o_halves, .int o_raised, .ref h_o_all, .ref h_o_text, .ref h_o_saved, .ref h_o_undone, .int o_undos, .int o_reached, .int o_length, .int o_begin, .int o_letters, .int o_sort, .long o_word, .int o_wrongAt, .int o_badAt, .int o_bad, .ref h_o_told, .ref h_o_shift, .int o_firstX, .int o_firstY, .int o_secondX, .int o_secondY, .ref h_o_rootOf, .ref h_o_becomes, .ref h_o_comes, .ref h_o_next, .int o_x])), (h_o_all, .inl (ca 0, 350, .inl o_all_r)), (h_o_shift, .inl (ca 3, 768, .inl o_shift_r)), (h_o_plans, .inl (ca 0, 80, .inl o_plans_r))] H) (hD : va_D A [(h_o, .inr (7, [.ref h_o_plans, .ref h_o_makers, .ref h_o_halves, .int o_raised, .ref h_o_all, .ref h_o_text, .ref h_o_saved, .ref h_o_undone, .int o_undos, .int o_reached, .int o_length, .int o_begin, .int o_letters, .int o_sort, .long o_word, .int o_wrongAt, .int o_badAt, .int o_bad, .ref h_o_told, .ref h_o_shift, .int o_firstX, .int o_firstY, .int o_secondX, .int o_secondY, .ref h_o_rootOf, .ref h_o_becomes, .ref h_o_comes, .ref h_o_next, .int o_x])), (h_o_all, .inl (ca 0, 350, .inl o_all_r)), (h_o_shift, .inl (ca 3, 768, .inl o_shift_r)), (h_o_plans, .inl (ca 0, 80, .inl o_plans_r))]) (hS : va_S A s.heap H locs) (ls : Array Slot) (hl : lv_has ls 4 [(0, .ref h_o), (1, .int v1)]), WW H locs (F0 m 109 ls []) := by
        intro v1 rr hf hG H locs hP hD hS ls hl
        refine h2 ?_
        unfold fX8_isShortTurned_109 at hf
        refine lv_iinc (v := (v1 + 1)) (lv' := [(1, .int (v1 + 1)), (0, .ref h_o)]) hx hb dX8_isShortTurned_109 hl (k := 1) rfl rfl (by decide) rfl (fun ls hl => ?_)
        refine lv_goto (tgt := 7) hx hb dX8_isShortTurned_112 (by decide) ?_
        have hf := Option.some.inj hf
        subst hf
        rw [eG1] at hG
        obtain ⟨rr, hf, hG⟩ := hG
        exact h1 (ih7 (v1 + 1) rr hf hG _ _ hP hD hS _ (lv_sub hl [1, 0] rfl))
      have J_18 : ∀ (v1 : Int32) (n : Nat) (v2 : Int32) (rr : (Int32) ⊕ (Int32)) (hf : ds_it (fun s => fX8_isShortTurned_18_b o_firstX o_firstY o_all_r o_shift_r o_plans_r v1 s) n v2 = some rr) (hG : G1 rr) (H : Heap) (locs : List Loc) (hP : va_P (dC, dI) vwCl [(h_o, .inr (7, [.ref h_o_plans, .ref h_o_makers, .ref h_o_halves, .int o_raised, .ref h_o_all, .ref h_o_text, .ref h_o_saved, .ref h_o_undone, .int o_undos, .int o_reached, .int o_length, .int o_begin, .int o_letters, .int o_sort, .long o_word, .int o_wrongAt, .int o_badAt, .int o_bad, .ref h_o_told, .ref h_o_shift, .int o_firstX, .int o_firstY, .int o_secondX, .int o_secondY, .ref h_o_rootOf, .ref h_o_becomes, .ref h_o_comes, .ref h_o_next, .int o_x])), (h_o_all, .inl (ca 0, 350, .inl o_all_r)), (h_o_shift, .inl (ca 3, 768, .inl o_shift_r)), (h_o_plans, .inl (ca 0, 80, .inl o_plans_r))] H) (hD : va_D A [(h_o, .inr (7, [.ref h_o_plans, .ref h_o_makers, .ref h_o_halves, .int o_raised, .ref h_o_all, .ref h_o_text, .ref h_o_saved, .ref h_o_undone, .int o_undos, .int o_reached, .int o_length, .int o_begin, .int o_letters, .int o_sort, .long o_word, .int o_wrongAt, .int o_badAt, .int o_bad, .ref h_o_told, .ref h_o_shift, .int o_firstX, .int o_firstY, .int o_secondX, .int o_secondY, .ref h_o_rootOf, .ref h_o_becomes, .ref h_o_comes, .ref h_o_next, .int o_x])), (h_o_all, .inl (ca 0, 350, .inl o_all_r)), (h_o_shift, .inl (ca 3, 768, .inl o_shift_r)), (h_o_plans, .inl (ca 0, 80, .inl o_plans_r))]) (hS : va_S A s.heap H locs) (ls : Array Slot) (hl : lv_has ls 4 [(0, .ref h_o), (1, .int v1), (2, .int v2)]), WW H locs (F0 m 18 ls []) := by
        intro v1 n
        induction n with
        | zero => intro v2 rr hf; exact (ds_it_zero hf).elim
        | succ n ih18 =>
          intro v2 rr hf hG H locs hP hD hS ls hl
          refine h2 ?_
          obtain ⟨rr, hf, hG⟩ := ds_it_succ hf hG
          replace hf : fX8_isShortTurned_18_b o_firstX o_firstY o_all_r o_shift_r o_plans_r v1 v2 = some rr := hf
          obtain ⟨G2, eG2⟩ : ∃ G : ((Int32) ⊕ ((Int32) ⊕ (Int32))) → Prop, G = ds_G (fun s' => ∃ r', ds_it (fun s => fX8_isShortTurned_18_b o_firstX o_firstY o_all_r o_shift_r o_plans_r v1 s) n s' = some r' ∧ G1 r') G1 := ⟨_, rfl⟩
          rw [← eG2] at hG
          have J_103 : ∀ (v2 : Int32) (rr : (Int32) ⊕ ((Int32) ⊕ (Int32))) (hf : fX8_isShortTurned_103 v2 = some rr) (hG : G2 rr) (H : Heap) (locs : List Loc) (hP : va_P (dC, dI) vwCl [(h_o, .inr (7, [.ref h_o_plans, .ref h_o_makers, .ref h_o_halves, .int o_raised, .ref h_o_all, .ref h_o_text, .ref h_o_saved, .ref h_o_undone, .int o_undos, .int o_reached, .int o_length, .int o_begin, .int o_letters, .int o_sort, .long o_word, .int o_wrongAt, .int o_badAt, .int o_bad, .ref h_o_told, .ref h_o_shift, .int o_firstX, .int o_firstY, .int o_secondX, .int o_secondY, .ref h_o_rootOf, .ref h_o_becomes, .ref h_o_comes, .ref h_o_next, .int o_x])), (h_o_all, .inl (ca 0, 350, .inl o_all_r)), (h_o_shift, .inl (ca 3, 768, .inl o_shift_r)), (h_o_plans, .inl (ca 0, 80, .inl o_plans_r))] H) (hD : va_D A [(h_o, .inr (7, [.ref h_o_plans, .ref h_o_makers, .ref h_o_halves, .int o_raised, .ref h_o_all, .ref h_o_text, .ref h_o_saved, .ref h_o_undone, .int o_undos, .int o_reached, .int o_length, .int o_begin, .int o_letters, .int o_sort, .long o_word, .int o_wrongAt, .int o_badAt, .int o_bad, .ref h_o_told, .ref h_o_shift, .int o_firstX, .int o_firstY, .int o_secondX, .int o_secondY, .ref h_o_rootOf, .ref h_o_becomes, .ref h_o_comes, .ref h_o_next, .int o_x])), (h_o_all, .inl (ca 0, 350, .inl o_all_r)), (h_o_shift, .inl (ca 3, 768, .inl o_shift_r)), (h_o_plans, .inl (ca 0, 80, .inl o_plans_r))]) (hS : va_S A s.heap H locs) (ls : Array Slot) (hl : lv_has ls 4 [(0, .ref h_o), (1, .int v1), (2, .int v2)]), WW H locs (F0 m 103 ls []) := by
            intro v2 rr hf hG H locs hP hD hS ls hl
            refine h2 ?_
            unfold fX8_isShortTurned_103 at hf
            refine lv_iinc (v := (v2 + 1)) (lv' := [(2, .int (v2 + 1)), (0, .ref h_o), (1, .int v1)]) hx hb dX8_isShortTurned_103 hl (k := 2) rfl rfl (by decide) rfl (fun ls hl => ?_)
            refine lv_goto (tgt := 18) hx hb dX8_isShortTurned_106 (by decide) ?_
            have hf := Option.some.inj hf
            subst hf
            rw [eG2] at hG
            obtain ⟨rr, hf, hG⟩ := hG
            exact h1 (ih18 (v2 + 1) rr hf hG _ _ hP hD hS _ (lv_sub hl [1, 2, 0] rfl))
          have J_35 : ∀ (v2 : Int32) (n : Nat) (v3 : Int32) (rr : (Int32) ⊕ ((Int32) ⊕ (Int32))) (hf : ds_it (fun s => fX8_isShortTurned_35_b o_firstX o_firstY o_all_r o_shift_r o_plans_r v1 v2 s) n v3 = some rr) (hG : G2 rr) (H : Heap) (locs : List Loc) (hP : va_P (dC, dI) vwCl [(h_o, .inr (7, [.ref h_o_plans, .ref h_o_makers, .ref h_o_halves, .int o_raised, .ref h_o_all, .ref h_o_text, .ref h_o_saved, .ref h_o_undone, .int o_undos, .int o_reached, .int o_length, .int o_begin, .int o_letters, .int o_sort, .long o_word, .int o_wrongAt, .int o_badAt, .int o_bad, .ref h_o_told, .ref h_o_shift, .int o_firstX, .int o_firstY, .int o_secondX, .int o_secondY, .ref h_o_rootOf, .ref h_o_becomes, .ref h_o_comes, .ref h_o_next, .int o_x])), (h_o_all, .inl (ca 0, 350, .inl o_all_r)), (h_o_shift, .inl (ca 3, 768, .inl o_shift_r)), (h_o_plans, .inl (ca 0, 80, .inl o_plans_r))] H) (hD : va_D A [(h_o, .inr (7, [.ref h_o_plans, .ref h_o_makers, .ref h_o_halves, .int o_raised, .ref h_o_all, .ref h_o_text, .ref h_o_saved, .ref h_o_undone, .int o_undos, .int o_reached, .int o_length, .int o_begin, .int o_letters, .int o_sort, .long o_word, .int o_wrongAt, .int o_badAt, .int o_bad, .ref h_o_told, .ref h_o_shift, .int o_firstX, .int o_firstY, .int o_secondX, .int o_secondY, .ref h_o_rootOf, .ref h_o_becomes, .ref h_o_comes, .ref h_o_next, .int o_x])), (h_o_all, .inl (ca 0, 350, .inl o_all_r)), (h_o_shift, .inl (ca 3, 768, .inl o_shift_r)), (h_o_plans, .inl (ca 0, 80, .inl o_plans_r))]) (hS : va_S A s.heap H locs) (ls : Array Slot) (hl : lv_has ls 4 [(0, .ref h_o), (1, .int v1), (2, .int v2), (3, .int v3)]), WW H locs (F0 m 35 ls []) := by
            intro v2 n
            induction n with
            | zero => intro v3 rr hf; exact (ds_it_zero hf).elim
            | succ n ih35 =>
              intro v3 rr hf hG H locs hP hD hS ls hl
              refine h2 ?_
              obtain ⟨rr, hf, hG⟩ := ds_it_succ hf hG
              replace hf : fX8_isShortTurned_35_b o_firstX o_firstY o_all_r o_shift_r o_plans_r v1 v2 v3 = some rr := hf
              obtain ⟨G3, eG3⟩ : ∃ G : ((Int32) ⊕ ((Int32) ⊕ ((Int32) ⊕ (Int32)))) → Prop, G = ds_G (fun s' => ∃ r', ds_it (fun s => fX8_isShortTurned_35_b o_firstX o_firstY o_all_r o_shift_r o_plans_r v1 v2 s) n s' = some r' ∧ G2 r') G2 := ⟨_, rfl⟩
              rw [← eG3] at hG
              have J_97 : ∀ (v3 : Int32) (rr : (Int32) ⊕ ((Int32) ⊕ ((Int32) ⊕ (Int32)))) (hf : fX8_isShortTurned_97 v3 = some rr) (hG : G3 rr) (H : Heap) (locs : List Loc) (hP : va_P (dC, dI) vwCl [(h_o, .inr (7, [.ref h_o_plans, .ref h_o_makers, .ref h_o_halves, .int o_raised, .ref h_o_all, .ref h_o_text, .ref h_o_saved, .ref h_o_undone, .int o_undos, .int o_reached, .int o_length, .int o_begin, .int o_letters, .int o_sort, .long o_word, .int o_wrongAt, .int o_badAt, .int o_bad, .ref h_o_told, .ref h_o_shift, .int o_firstX, .int o_firstY, .int o_secondX, .int o_secondY, .ref h_o_rootOf, .ref h_o_becomes, .ref h_o_comes, .ref h_o_next, .int o_x])), (h_o_all, .inl (ca 0, 350, .inl o_all_r)), (h_o_shift, .inl (ca 3, 768, .inl o_shift_r)), (h_o_plans, .inl (ca 0, 80, .inl o_plans_r))] H) (hD : va_D A [(h_o, .inr (7, [.ref h_o_plans, .ref h_o_makers, .ref h_o_halves, .int o_raised, .ref h_o_all, .ref h_o_text, .ref h_o_saved, .ref h_o_undone, .int o_undos, .int o_reached, .int o_length, .int o_begin, .int o_letters, .int o_sort, .long o_word, .int o_wrongAt, .int o_badAt, .int o_bad, .ref h_o_told, .ref h_o_shift, .int o_firstX, .int o_firstY, .int o_secondX, .int o_secondY, .ref h_o_rootOf, .ref h_o_becomes, .ref h_o_comes, .ref h_o_next, .int o_x])), (h_o_all, .inl (ca 0, 350, .inl o_all_r)), (h_o_shift, .inl (ca 3, 768, .inl o_shift_r)), (h_o_plans, .inl (ca 0, 80, .inl o_plans_r))]) (hS : va_S A s.heap H locs) (ls : Array Slot) (hl : lv_has ls 4 [(0, .ref h_o), (1, .int v1), (2, .int v2), (3, .int v3)]), WW H locs (F0 m 97 ls []) := by
                intro v3 rr hf hG H locs hP hD hS ls hl
                refine h2 ?_
                unfold fX8_isShortTurned_97 at hf
                refine lv_iinc (v := (v3 + 1)) (lv' := [(3, .int (v3 + 1)), (0, .ref h_o), (1, .int v1), (2, .int v2)]) hx hb dX8_isShortTurned_97 hl (k := 3) rfl rfl (by decide) rfl (fun ls hl => ?_)
                refine lv_goto (tgt := 35) hx hb dX8_isShortTurned_100 (by decide) ?_
                have hf := Option.some.inj hf
                subst hf
                rw [eG3] at hG
                obtain ⟨rr, hf, hG⟩ := hG
                exact h1 (ih35 (v3 + 1) rr hf hG _ _ hP hD hS _ (lv_sub hl [1, 2, 3, 0] rfl))
              unfold fX8_isShortTurned_35_b at hf
              refine lv_iload_n hx hb dX8_isShortTurned_35 rfl (lv_at hl 3 rfl) ?_
              refine lv_bipush (v := 10) hx hb dX8_isShortTurned_36 (by decide) ?_
              refine lv_icmp_gt (tgt := 103) hx hb dX8_isShortTurned_38 (by decide) (fun c_38 => ?_) (fun c_38 => ?_)
              · replace hf := ds_t c_38 hf
                obtain ⟨rr, hr_0, hf⟩ := ds_ob hf
                have hf := Option.some.inj hf
                subst hf
                rw [eG3] at hG
                replace hG : G2 rr := hG
                have hf := hr_0
                exact h1 (J_103 v2 _ hf hG _ _ hP hD hS _ (lv_sub hl [0, 1, 2] rfl))
              · replace hf := ds_f c_38 hf
                refine lv_aload_n hx hb dX8_isShortTurned_41 rfl (lv_at hl 0 rfl) ?_
                refine lv_iload_n hx hb dX8_isShortTurned_42 rfl (lv_at hl 2 rfl) ?_
                refine lv_iload_n hx hb dX8_isShortTurned_43 rfl (lv_at hl 3 rfl) ?_
                obtain ⟨q44, hq44, hf⟩ := ds_ob hf
                refine ds_calli (wr := [(h_o_plans, .inl (ca 0, 80, .inl o_plans_r))]) (va_runV (As := [.int v2, .int v3]) (rest := []) ⟨hx, hb, hml, hown, hts⟩ (c_X8_isStep l dC dI ca sa h_o h_o_plans h_o_makers h_o_halves h_o_all h_o_text h_o_saved h_o_undone h_o_told h_o_shift h_o_rootOf h_o_becomes h_o_comes h_o_next H.size o_raised o_undos o_reached o_length o_begin o_letters o_sort o_word o_wrongAt o_badAt o_bad o_firstX o_firstY o_secondX o_secondY o_x o_all_r o_shift_r v2 v3 q44 hq44) (cwV 2 hts (ds_gV kw_663 kw_664 kw_665 kw_597 kw_666) rfl rfl rfl (by decide +kernel) ⟨Nat.le_of_ble_eq_true rfl, Nat.le_of_ble_eq_true rfl⟩) ⟨ds_blind, va_recv hK hP (ci := 7) (q0 := 0) rfl rfl, ds_at hP hD hK hE hS hA [0, 1, 2] rfl rfl _⟩ rfl rfl hl.1 rfl (lv_room (Nat.le_of_ble_eq_true rfl)) dX8_isShortTurned_44 ⟨Nat.zero_le _, Nat.zero_le _⟩) hP hD hS hA [0, 1, 2] [3] rfl rfl rfl (by decide) (fun H locs hP hD hS => ?_)
                have hP : va_P (dC, dI) vwCl [(h_o_plans, .inl (ca 0, 80, .inl o_plans_r)), (h_o, .inr (7, [.ref h_o_plans, .ref h_o_makers, .ref h_o_halves, .int o_raised, .ref h_o_all, .ref h_o_text, .ref h_o_saved, .ref h_o_undone, .int o_undos, .int o_reached, .int o_length, .int o_begin, .int o_letters, .int o_sort, .long o_word, .int o_wrongAt, .int o_badAt, .int o_bad, .ref h_o_told, .ref h_o_shift, .int o_firstX, .int o_firstY, .int o_secondX, .int o_secondY, .ref h_o_rootOf, .ref h_o_becomes, .ref h_o_comes, .ref h_o_next, .int o_x])), (h_o_all, .inl (ca 0, 350, .inl o_all_r)), (h_o_shift, .inl (ca 3, 768, .inl o_shift_r))] H := hP
                have hD : va_D A [(h_o_plans, .inl (ca 0, 80, .inl o_plans_r)), (h_o, .inr (7, [.ref h_o_plans, .ref h_o_makers, .ref h_o_halves, .int o_raised, .ref h_o_all, .ref h_o_text, .ref h_o_saved, .ref h_o_undone, .int o_undos, .int o_reached, .int o_length, .int o_begin, .int o_letters, .int o_sort, .long o_word, .int o_wrongAt, .int o_badAt, .int o_bad, .ref h_o_told, .ref h_o_shift, .int o_firstX, .int o_firstY, .int o_secondX, .int o_secondY, .ref h_o_rootOf, .ref h_o_becomes, .ref h_o_comes, .ref h_o_next, .int o_x])), (h_o_all, .inl (ca 0, 350, .inl o_all_r)), (h_o_shift, .inl (ca 3, 768, .inl o_shift_r))] := hD
                refine lv_if_eq (tgt := 97) hx hb dX8_isShortTurned_47 (by decide) (fun c_47 => ?_) (fun c_47 => ?_)
                · replace hf := ds_t c_47 hf
                  exact h1 (J_97 v3 _ hf hG _ _ (hP.sub [1, 2, 3, 0] rfl) (hD.sub [1, 2, 3, 0] rfl rfl) hS _ (lv_sub hl [0, 1, 2, 3] rfl))
                · replace hf := ds_f c_47 hf
                  refine lv_aload_n hx hb dX8_isShortTurned_50 rfl (lv_at hl 0 rfl) ?_
                  refine lv_iload_n hx hb dX8_isShortTurned_51 rfl (lv_at hl 2 rfl) ?_
                  refine lv_iload_n hx hb dX8_isShortTurned_52 rfl (lv_at hl 3 rfl) ?_
                  obtain ⟨q53, hq53, hf⟩ := ds_ob hf
                  refine ds_calli (wr := [(h_o_plans, .inl (ca 0, 80, .inl o_plans_r)), (h_o_shift, .inl (ca 3, 768, .inl o_shift_r))]) (va_runV (As := [.int v2, .int v3]) (rest := []) ⟨hx, hb, hml, hown, hts⟩ (c_X8_longOf l dC dI ca sa h_o h_o_plans h_o_makers h_o_halves h_o_all h_o_text h_o_saved h_o_undone h_o_told h_o_shift h_o_rootOf h_o_becomes h_o_comes h_o_next H.size o_raised o_undos o_reached o_length o_begin o_letters o_sort o_word o_wrongAt o_badAt o_bad o_firstX o_firstY o_secondX o_secondY o_x o_all_r v2 v3 q53 hq53) (cwV 2 hts (ds_gV kw_675 kw_676 kw_677 kw_597 kw_678) rfl rfl rfl (by decide +kernel) ⟨Nat.le_of_ble_eq_true rfl, Nat.le_of_ble_eq_true rfl⟩) ⟨ds_blind, va_recv hK hP (ci := 7) (q0 := 1) rfl rfl, ds_at hP hD hK hE hS hA [1, 2] rfl rfl _⟩ rfl rfl hl.1 rfl (lv_room (Nat.le_of_ble_eq_true rfl)) dX8_isShortTurned_53 ⟨Nat.zero_le _, Nat.zero_le _⟩) hP hD hS hA [1, 2] [0, 3] rfl rfl rfl (by decide) (fun H locs hP hD hS => ?_)
                  have hP : va_P (dC, dI) vwCl [(h_o_plans, .inl (ca 0, 80, .inl o_plans_r)), (h_o_shift, .inl (ca 3, 768, .inl o_shift_r)), (h_o, .inr (7, [.ref h_o_plans, .ref h_o_makers, .ref h_o_halves, .int o_raised, .ref h_o_all, .ref h_o_text, .ref h_o_saved, .ref h_o_undone, .int o_undos, .int o_reached, .int o_length, .int o_begin, .int o_letters, .int o_sort, .long o_word, .int o_wrongAt, .int o_badAt, .int o_bad, .ref h_o_told, .ref h_o_shift, .int o_firstX, .int o_firstY, .int o_secondX, .int o_secondY, .ref h_o_rootOf, .ref h_o_becomes, .ref h_o_comes, .ref h_o_next, .int o_x])), (h_o_all, .inl (ca 0, 350, .inl o_all_r))] H := hP
                  have hD : va_D A [(h_o_plans, .inl (ca 0, 80, .inl o_plans_r)), (h_o_shift, .inl (ca 3, 768, .inl o_shift_r)), (h_o, .inr (7, [.ref h_o_plans, .ref h_o_makers, .ref h_o_halves, .int o_raised, .ref h_o_all, .ref h_o_text, .ref h_o_saved, .ref h_o_undone, .int o_undos, .int o_reached, .int o_length, .int o_begin, .int o_letters, .int o_sort, .long o_word, .int o_wrongAt, .int o_badAt, .int o_bad, .ref h_o_told, .ref h_o_shift, .int o_firstX, .int o_firstY, .int o_secondX, .int o_secondY, .ref h_o_rootOf, .ref h_o_becomes, .ref h_o_comes, .ref h_o_next, .int o_x])), (h_o_all, .inl (ca 0, 350, .inl o_all_r))] := hD
                  refine lv_aload_n hx hb dX8_isShortTurned_56 rfl (lv_at hl 0 rfl) ?_
                  refine lv_aload_n hx hb dX8_isShortTurned_57 rfl (lv_at hl 0 rfl) ?_
                  refine va_get (D := (dC, dI)) (ci := 7) (v := .int o_firstX) (C := RX8) (T := TX8) (N := 29) hx hb hts (fun w h => List.mem_cons_of_mem _ (kc_X8 w h)) hown hK hP 2 rfl rfl 20 (by decide) (hg kw_686) (fun _ h9 => h9) rfl dX8_isShortTurned_58 ?_
                  refine lv_aload_n hx hb dX8_isShortTurned_61 rfl (lv_at hl 0 rfl) ?_
                  refine va_get (D := (dC, dI)) (ci := 7) (v := .int o_firstY) (C := RX8) (T := TX8) (N := 29) hx hb hts (fun w h => List.mem_cons_of_mem _ (kc_X8 w h)) hown hK hP 2 rfl rfl 21 (by decide) (hg kw_685) (fun _ h9 => h9) rfl dX8_isShortTurned_62 ?_
                  obtain ⟨q65, hq65, hf⟩ := ds_ob hf
                  refine ds_calli (wr := [(h_o_plans, .inl (ca 0, 80, .inl o_plans_r)), (h_o_shift, .inl (ca 3, 768, .inl o_shift_r))]) (va_runV (As := [.int o_firstX, .int o_firstY]) (rest := [.int q53]) ⟨hx, hb, hml, hown, hts⟩ (c_X8_longOf l dC dI ca sa h_o h_o_plans h_o_makers h_o_halves h_o_all h_o_text h_o_saved h_o_undone h_o_told h_o_shift h_o_rootOf h_o_becomes h_o_comes h_o_next H.size o_raised o_undos o_reached o_length o_begin o_letters o_sort o_word o_wrongAt o_badAt o_bad o_firstX o_firstY o_secondX o_secondY o_x o_all_r o_firstX o_firstY q65 hq65) (cwV 2 hts (ds_gV kw_675 kw_676 kw_677 kw_597 kw_678) rfl rfl rfl (by decide +kernel) ⟨Nat.le_of_ble_eq_true rfl, Nat.le_of_ble_eq_true rfl⟩) ⟨ds_blind, va_recv hK hP (ci := 7) (q0 := 2) rfl rfl, ds_at hP hD hK hE hS hA [2, 3] rfl rfl _⟩ rfl rfl hl.1 rfl (lv_room (Nat.le_of_ble_eq_true rfl)) dX8_isShortTurned_65 ⟨Nat.zero_le _, Nat.zero_le _⟩) hP hD hS hA [2, 3] [0, 1] rfl rfl rfl (by decide) (fun H locs hP hD hS => ?_)
                  have hP : va_P (dC, dI) vwCl [(h_o_plans, .inl (ca 0, 80, .inl o_plans_r)), (h_o_shift, .inl (ca 3, 768, .inl o_shift_r)), (h_o, .inr (7, [.ref h_o_plans, .ref h_o_makers, .ref h_o_halves, .int o_raised, .ref h_o_all, .ref h_o_text, .ref h_o_saved, .ref h_o_undone, .int o_undos, .int o_reached, .int o_length, .int o_begin, .int o_letters, .int o_sort, .long o_word, .int o_wrongAt, .int o_badAt, .int o_bad, .ref h_o_told, .ref h_o_shift, .int o_firstX, .int o_firstY, .int o_secondX, .int o_secondY, .ref h_o_rootOf, .ref h_o_becomes, .ref h_o_comes, .ref h_o_next, .int o_x])), (h_o_all, .inl (ca 0, 350, .inl o_all_r))] H := hP
                  have hD : va_D A [(h_o_plans, .inl (ca 0, 80, .inl o_plans_r)), (h_o_shift, .inl (ca 3, 768, .inl o_shift_r)), (h_o, .inr (7, [.ref h_o_plans, .ref h_o_makers, .ref h_o_halves, .int o_raised, .ref h_o_all, .ref h_o_text, .ref h_o_saved, .ref h_o_undone, .int o_undos, .int o_reached, .int o_length, .int o_begin, .int o_letters, .int o_sort, .long o_word, .int o_wrongAt, .int o_badAt, .int o_bad, .ref h_o_told, .ref h_o_shift, .int o_firstX, .int o_firstY, .int o_secondX, .int o_secondY, .ref h_o_rootOf, .ref h_o_becomes, .ref h_o_comes, .ref h_o_next, .int o_x])), (h_o_all, .inl (ca 0, 350, .inl o_all_r))] := hD
                  refine lv_icmp_ne (tgt := 97) hx hb dX8_isShortTurned_68 (by decide) (fun c_68 => ?_) (fun c_68 => ?_)
                  · replace hf := ds_f c_68 hf
                    exact h1 (J_97 v3 _ hf hG _ _ (hP.sub [2, 3, 1, 0] rfl) (hD.sub [2, 3, 1, 0] rfl rfl) hS _ (lv_sub hl [0, 1, 2, 3] rfl))
                  · replace hf := ds_t c_68 hf
                    refine lv_aload_n hx hb dX8_isShortTurned_71 rfl (lv_at hl 0 rfl) ?_
                    refine lv_iload_n hx hb dX8_isShortTurned_72 rfl (lv_at hl 1 rfl) ?_
                    refine lv_iload_n hx hb dX8_isShortTurned_73 rfl (lv_at hl 2 rfl) ?_
                    refine lv_iload_n hx hb dX8_isShortTurned_74 rfl (lv_at hl 3 rfl) ?_
                    obtain ⟨q75, hq75, hf⟩ := ds_ob hf
                    refine ds_calli (wr := [(h_o_shift, .inl (ca 3, 768, .inl o_shift_r))]) (va_runV (As := [.int v1, .int v2, .int v3]) (rest := []) ⟨hx, hb, hml, hown, hts⟩ (c_X8_turnX l dC dI ca sa h_o h_o_plans h_o_makers h_o_halves h_o_all h_o_text h_o_saved h_o_undone h_o_told h_o_shift h_o_rootOf h_o_becomes h_o_comes h_o_next H.size o_raised o_undos o_reached o_length o_begin o_letters o_sort o_word o_wrongAt o_badAt o_bad o_firstX o_firstY o_secondX o_secondY o_x o_all_r o_plans_r v1 v2 v3 q75 hq75) (cwV 3 hts (ds_gV kw_655 kw_656 kw_657 kw_597 kw_658) rfl rfl rfl (by decide +kernel) ⟨Nat.le_of_ble_eq_true rfl, Nat.le_of_ble_eq_true rfl⟩) ⟨ds_blind, va_recv hK hP (ci := 7) (q0 := 2) rfl rfl, ds_at hP hD hK hE hS hA [2, 3, 0] rfl rfl _⟩ rfl rfl hl.1 rfl (lv_room (Nat.le_of_ble_eq_true rfl)) dX8_isShortTurned_75 ⟨Nat.zero_le _, Nat.zero_le _⟩) hP hD hS hA [2, 3, 0] [1] rfl rfl rfl (by decide) (fun H locs hP hD hS => ?_)
                    have hP : va_P (dC, dI) vwCl [(h_o_shift, .inl (ca 3, 768, .inl o_shift_r)), (h_o, .inr (7, [.ref h_o_plans, .ref h_o_makers, .ref h_o_halves, .int o_raised, .ref h_o_all, .ref h_o_text, .ref h_o_saved, .ref h_o_undone, .int o_undos, .int o_reached, .int o_length, .int o_begin, .int o_letters, .int o_sort, .long o_word, .int o_wrongAt, .int o_badAt, .int o_bad, .ref h_o_told, .ref h_o_shift, .int o_firstX, .int o_firstY, .int o_secondX, .int o_secondY, .ref h_o_rootOf, .ref h_o_becomes, .ref h_o_comes, .ref h_o_next, .int o_x])), (h_o_all, .inl (ca 0, 350, .inl o_all_r)), (h_o_plans, .inl (ca 0, 80, .inl o_plans_r))] H := hP
                    have hD : va_D A [(h_o_shift, .inl (ca 3, 768, .inl o_shift_r)), (h_o, .inr (7, [.ref h_o_plans, .ref h_o_makers, .ref h_o_halves, .int o_raised, .ref h_o_all, .ref h_o_text, .ref h_o_saved, .ref h_o_undone, .int o_undos, .int o_reached, .int o_length, .int o_begin, .int o_letters, .int o_sort, .long o_word, .int o_wrongAt, .int o_badAt, .int o_bad, .ref h_o_told, .ref h_o_shift, .int o_firstX, .int o_firstY, .int o_secondX, .int o_secondY, .ref h_o_rootOf, .ref h_o_becomes, .ref h_o_comes, .ref h_o_next, .int o_x])), (h_o_all, .inl (ca 0, 350, .inl o_all_r)), (h_o_plans, .inl (ca 0, 80, .inl o_plans_r))] := hD
                    refine lv_iload_n hx hb dX8_isShortTurned_78 rfl (lv_at hl 2 rfl) ?_
                    refine lv_ineg hx hb dX8_isShortTurned_79 ?_
                    refine lv_icmp_ne (tgt := 97) hx hb dX8_isShortTurned_80 (by decide) (fun c_80 => ?_) (fun c_80 => ?_)
                    · replace hf := ds_f c_80 hf
                      exact h1 (J_97 v3 _ hf hG _ _ (hP.sub [1, 2, 0, 3] rfl) (hD.sub [1, 2, 0, 3] rfl rfl) hS _ (lv_sub hl [0, 1, 2, 3] rfl))
                    · replace hf := ds_t c_80 hf
                      refine lv_aload_n hx hb dX8_isShortTurned_83 rfl (lv_at hl 0 rfl) ?_
                      refine lv_iload_n hx hb dX8_isShortTurned_84 rfl (lv_at hl 1 rfl) ?_
                      refine lv_iload_n hx hb dX8_isShortTurned_85 rfl (lv_at hl 2 rfl) ?_
                      refine lv_iload_n hx hb dX8_isShortTurned_86 rfl (lv_at hl 3 rfl) ?_
                      obtain ⟨q87, hq87, hf⟩ := ds_ob hf
                      refine ds_calli (wr := [(h_o_shift, .inl (ca 3, 768, .inl o_shift_r))]) (va_runV (As := [.int v1, .int v2, .int v3]) (rest := []) ⟨hx, hb, hml, hown, hts⟩ (c_X8_turnY l dC dI ca sa h_o h_o_plans h_o_makers h_o_halves h_o_all h_o_text h_o_saved h_o_undone h_o_told h_o_shift h_o_rootOf h_o_becomes h_o_comes h_o_next H.size o_raised o_undos o_reached o_length o_begin o_letters o_sort o_word o_wrongAt o_badAt o_bad o_firstX o_firstY o_secondX o_secondY o_x o_all_r o_plans_r v1 v2 v3 q87 hq87) (cwV 3 hts (ds_gV kw_659 kw_660 kw_661 kw_597 kw_662) rfl rfl rfl (by decide +kernel) ⟨Nat.le_of_ble_eq_true rfl, Nat.le_of_ble_eq_true rfl⟩) ⟨ds_blind, va_recv hK hP (ci := 7) (q0 := 1) rfl rfl, ds_at hP hD hK hE hS hA [1, 2, 3] rfl rfl _⟩ rfl rfl hl.1 rfl (lv_room (Nat.le_of_ble_eq_true rfl)) dX8_isShortTurned_87 ⟨Nat.zero_le _, Nat.zero_le _⟩) hP hD hS hA [1, 2, 3] [0] rfl rfl rfl (by decide) (fun H locs hP hD hS => ?_)
                      have hP : va_P (dC, dI) vwCl [(h_o_shift, .inl (ca 3, 768, .inl o_shift_r)), (h_o, .inr (7, [.ref h_o_plans, .ref h_o_makers, .ref h_o_halves, .int o_raised, .ref h_o_all, .ref h_o_text, .ref h_o_saved, .ref h_o_undone, .int o_undos, .int o_reached, .int o_length, .int o_begin, .int o_letters, .int o_sort, .long o_word, .int o_wrongAt, .int o_badAt, .int o_bad, .ref h_o_told, .ref h_o_shift, .int o_firstX, .int o_firstY, .int o_secondX, .int o_secondY, .ref h_o_rootOf, .ref h_o_becomes, .ref h_o_comes, .ref h_o_next, .int o_x])), (h_o_all, .inl (ca 0, 350, .inl o_all_r)), (h_o_plans, .inl (ca 0, 80, .inl o_plans_r))] H := hP
                      have hD : va_D A [(h_o_shift, .inl (ca 3, 768, .inl o_shift_r)), (h_o, .inr (7, [.ref h_o_plans, .ref h_o_makers, .ref h_o_halves, .int o_raised, .ref h_o_all, .ref h_o_text, .ref h_o_saved, .ref h_o_undone, .int o_undos, .int o_reached, .int o_length, .int o_begin, .int o_letters, .int o_sort, .long o_word, .int o_wrongAt, .int o_badAt, .int o_bad, .ref h_o_told, .ref h_o_shift, .int o_firstX, .int o_firstY, .int o_secondX, .int o_secondY, .ref h_o_rootOf, .ref h_o_becomes, .ref h_o_comes, .ref h_o_next, .int o_x])), (h_o_all, .inl (ca 0, 350, .inl o_all_r)), (h_o_plans, .inl (ca 0, 80, .inl o_plans_r))] := hD
                      refine lv_iload_n hx hb dX8_isShortTurned_90 rfl (lv_at hl 3 rfl) ?_
                      refine lv_ineg hx hb dX8_isShortTurned_91 ?_
                      refine lv_icmp_ne (tgt := 97) hx hb dX8_isShortTurned_92 (by decide) (fun c_92 => ?_) (fun c_92 => ?_)
                      · replace hf := ds_f c_92 hf
                        exact h1 (J_97 v3 _ hf hG _ _ (hP.sub [1, 2, 0, 3] rfl) (hD.sub [1, 2, 0, 3] rfl rfl) hS _ (lv_sub hl [0, 1, 2, 3] rfl))
                      · replace hf := ds_t c_92 hf
                        refine lv_iconst (v := 1) hx hb dX8_isShortTurned_95 (by decide) ?_
                        have hf := Option.some.inj hf
                        subst hf
                        rw [eG3] at hG
                        replace hG : G2 _ := hG
                        rw [eG2] at hG
                        replace hG : G1 _ := hG
                        rw [eG1] at hG
                        replace hG : G0 _ := hG
                        rw [eG0] at hG
                        have hG : _ = res := hG
                        subst hG
                        exact W.zret (v := (1 : Int32)) (ty := .boolean) hx hb hr rfl (fun t ht hW => ⟨⟨(1 : Int32), (), rfl, rfl, by rw [ht]; exact (hP.sub [1, 2, 0, 3] rfl), (hD.sub [1, 2, 0, 3] rfl rfl)⟩, hS.F ht⟩) hS.2.2 dX8_isShortTurned_96
          unfold fX8_isShortTurned_18_b at hf
          refine lv_iload_n hx hb dX8_isShortTurned_18 rfl (lv_at hl 2 rfl) ?_
          refine lv_bipush (v := 10) hx hb dX8_isShortTurned_19 (by decide) ?_
          refine lv_icmp_gt (tgt := 109) hx hb dX8_isShortTurned_21 (by decide) (fun c_21 => ?_) (fun c_21 => ?_)
          · replace hf := ds_t c_21 hf
            obtain ⟨rr, hr_0, hf⟩ := ds_ob hf
            have hf := Option.some.inj hf
            subst hf
            rw [eG2] at hG
            replace hG : G1 rr := hG
            have hf := hr_0
            exact h1 (J_109 v1 _ hf hG _ _ hP hD hS _ (lv_sub hl [0, 1] rfl))
          · replace hf := ds_f c_21 hf
            refine lv_aload_n hx hb dX8_isShortTurned_24 rfl (lv_at hl 0 rfl) ?_
            refine lv_iload_n hx hb dX8_isShortTurned_25 rfl (lv_at hl 1 rfl) ?_
            obtain ⟨q26, hq26, hf⟩ := ds_ob hf
            refine ds_calli (wr := [(h_o_plans, .inl (ca 0, 80, .inl o_plans_r))]) (va_runV (As := [.int v1]) (rest := []) ⟨hx, hb, hml, hown, hts⟩ (c_X8_isFlipThere l dC dI ca sa h_o h_o_plans h_o_makers h_o_halves h_o_all h_o_text h_o_saved h_o_undone h_o_told h_o_shift h_o_rootOf h_o_becomes h_o_comes h_o_next H.size o_raised o_undos o_reached o_length o_begin o_letters o_sort o_word o_wrongAt o_badAt o_bad o_firstX o_firstY o_secondX o_secondY o_x o_all_r o_shift_r v1 q26 hq26) (cwV 1 hts (ds_gV kw_703 kw_704 kw_705 kw_597 kw_706) rfl rfl rfl (by decide +kernel) ⟨Nat.le_of_ble_eq_true rfl, Nat.le_of_ble_eq_true rfl⟩) ⟨ds_blind, va_recv hK hP (ci := 7) (q0 := 0) rfl rfl, ds_at hP hD hK hE hS hA [0, 1, 2] rfl rfl _⟩ rfl rfl hl.1 rfl (lv_room (Nat.le_of_ble_eq_true rfl)) dX8_isShortTurned_26 ⟨Nat.zero_le _, Nat.zero_le _⟩) hP hD hS hA [0, 1, 2] [3] rfl rfl rfl (by decide) (fun H locs hP hD hS => ?_)
            have hP : va_P (dC, dI) vwCl [(h_o_plans, .inl (ca 0, 80, .inl o_plans_r)), (h_o, .inr (7, [.ref h_o_plans, .ref h_o_makers, .ref h_o_halves, .int o_raised, .ref h_o_all, .ref h_o_text, .ref h_o_saved, .ref h_o_undone, .int o_undos, .int o_reached, .int o_length, .int o_begin, .int o_letters, .int o_sort, .long o_word, .int o_wrongAt, .int o_badAt, .int o_bad, .ref h_o_told, .ref h_o_shift, .int o_firstX, .int o_firstY, .int o_secondX, .int o_secondY, .ref h_o_rootOf, .ref h_o_becomes, .ref h_o_comes, .ref h_o_next, .int o_x])), (h_o_all, .inl (ca 0, 350, .inl o_all_r)), (h_o_shift, .inl (ca 3, 768, .inl o_shift_r))] H := hP
            have hD : va_D A [(h_o_plans, .inl (ca 0, 80, .inl o_plans_r)), (h_o, .inr (7, [.ref h_o_plans, .ref h_o_makers, .ref h_o_halves, .int o_raised, .ref h_o_all, .ref h_o_text, .ref h_o_saved, .ref h_o_undone, .int o_undos, .int o_reached, .int o_length, .int o_begin, .int o_letters, .int o_sort, .long o_word, .int o_wrongAt, .int o_badAt, .int o_bad, .ref h_o_told, .ref h_o_shift, .int o_firstX, .int o_firstY, .int o_secondX, .int o_secondY, .ref h_o_rootOf, .ref h_o_becomes, .ref h_o_comes, .ref h_o_next, .int o_x])), (h_o_all, .inl (ca 0, 350, .inl o_all_r)), (h_o_shift, .inl (ca 3, 768, .inl o_shift_r))] := hD
            refine lv_if_eq (tgt := 109) hx hb dX8_isShortTurned_29 (by decide) (fun c_29 => ?_) (fun c_29 => ?_)
            · replace hf := ds_t c_29 hf
              obtain ⟨rr, hr_0, hf⟩ := ds_ob hf
              have hf := Option.some.inj hf
              subst hf
              rw [eG2] at hG
              replace hG : G1 rr := hG
              have hf := hr_0
              exact h1 (J_109 v1 _ hf hG _ _ (hP.sub [1, 2, 3, 0] rfl) (hD.sub [1, 2, 3, 0] rfl rfl) hS _ (lv_sub hl [0, 1] rfl))
            · replace hf := ds_f c_29 hf
              refine lv_bipush (v := -10) hx hb dX8_isShortTurned_32 (by decide) ?_
              refine lv_istore_n (lv' := [(3, .int (-10 : Int32)), (0, .ref h_o), (1, .int v1), (2, .int v2)]) hx hb dX8_isShortTurned_34 rfl hl (by decide) rfl (fun ls hl => ?_)
              exact h1 (J_35 v2 1000 (-10 : Int32) _ hf hG _ _ (hP.sub [1, 2, 3, 0] rfl) (hD.sub [1, 2, 3, 0] rfl rfl) hS _ (lv_sub hl [1, 2, 3, 0] rfl))
      unfold fX8_isShortTurned_7_b at hf
      refine lv_iload_n hx hb dX8_isShortTurned_7 rfl (lv_at hl 1 rfl) ?_
      refine lv_aload_n hx hb dX8_isShortTurned_8 rfl (lv_at hl 0 rfl) ?_
      obtain ⟨q9, hq9, hf⟩ := ds_ob hf
      refine ds_calli (wr := [(h_o_shift, .inl (ca 3, 768, .inl o_shift_r)), (h_o_plans, .inl (ca 0, 80, .inl o_plans_r))]) (va_runV (As := []) (rest := [.int v1]) ⟨hx, hb, hml, hown, hts⟩ (c_X8_turnings l dC dI ca sa h_o h_o_plans h_o_makers h_o_halves h_o_all h_o_text h_o_saved h_o_undone h_o_told h_o_shift h_o_rootOf h_o_becomes h_o_comes h_o_next H.size o_raised o_undos o_reached o_length o_begin o_letters o_sort o_word o_wrongAt o_badAt o_bad o_firstX o_firstY o_secondX o_secondY o_x o_all_r  q9 hq9) (cwV 0 hts (ds_gV kw_604 kw_605 kw_606 kw_597 kw_607) rfl rfl rfl (by decide +kernel) ⟨Nat.le_of_ble_eq_true rfl, Nat.le_of_ble_eq_true rfl⟩) ⟨ds_blind, va_recv hK hP (ci := 7) (q0 := 0) rfl rfl, ds_at hP hD hK hE hS hA [0, 1] rfl rfl _⟩ rfl rfl hl.1 rfl (lv_room (Nat.le_of_ble_eq_true rfl)) dX8_isShortTurned_9 ⟨Nat.zero_le _, Nat.zero_le _⟩) hP hD hS hA [0, 1] [2, 3] rfl rfl rfl (by decide) (fun H locs hP hD hS => ?_)
      have hP : va_P (dC, dI) vwCl [(h_o_shift, .inl (ca 3, 768, .inl o_shift_r)), (h_o_plans, .inl (ca 0, 80, .inl o_plans_r)), (h_o, .inr (7, [.ref h_o_plans, .ref h_o_makers, .ref h_o_halves, .int o_raised, .ref h_o_all, .ref h_o_text, .ref h_o_saved, .ref h_o_undone, .int o_undos, .int o_reached, .int o_length, .int o_begin, .int o_letters, .int o_sort, .long o_word, .int o_wrongAt, .int o_badAt, .int o_bad, .ref h_o_told, .ref h_o_shift, .int o_firstX, .int o_firstY, .int o_secondX, .int o_secondY, .ref h_o_rootOf, .ref h_o_becomes, .ref h_o_comes, .ref h_o_next, .int o_x])), (h_o_all, .inl (ca 0, 350, .inl o_all_r))] H := hP
      have hD : va_D A [(h_o_shift, .inl (ca 3, 768, .inl o_shift_r)), (h_o_plans, .inl (ca 0, 80, .inl o_plans_r)), (h_o, .inr (7, [.ref h_o_plans, .ref h_o_makers, .ref h_o_halves, .int o_raised, .ref h_o_all, .ref h_o_text, .ref h_o_saved, .ref h_o_undone, .int o_undos, .int o_reached, .int o_length, .int o_begin, .int o_letters, .int o_sort, .long o_word, .int o_wrongAt, .int o_badAt, .int o_bad, .ref h_o_told, .ref h_o_shift, .int o_firstX, .int o_firstY, .int o_secondX, .int o_secondY, .ref h_o_rootOf, .ref h_o_becomes, .ref h_o_comes, .ref h_o_next, .int o_x])), (h_o_all, .inl (ca 0, 350, .inl o_all_r))] := hD
      refine lv_icmp_ge (tgt := 115) hx hb dX8_isShortTurned_12 (by decide) (fun c_12 => ?_) (fun c_12 => ?_)
      · replace hf := ds_t c_12 hf
        refine lv_iconst (v := 0) hx hb dX8_isShortTurned_115 (by decide) ?_
        have hf := Option.some.inj hf
        subst hf
        rw [eG1] at hG
        replace hG : G0 _ := hG
        rw [eG0] at hG
        have hG : _ = res := hG
        subst hG
        exact W.zret (v := (0 : Int32)) (ty := .boolean) hx hb hr rfl (fun t ht hW => ⟨⟨(0 : Int32), (), rfl, rfl, by rw [ht]; exact (hP.sub [2, 3, 0, 1] rfl), (hD.sub [2, 3, 0, 1] rfl rfl)⟩, hS.F ht⟩) hS.2.2 dX8_isShortTurned_116
      · replace hf := ds_f c_12 hf
        refine lv_bipush (v := -10) hx hb dX8_isShortTurned_15 (by decide) ?_
        refine lv_istore_n (lv' := [(2, .int (-10 : Int32)), (0, .ref h_o), (1, .int v1)]) hx hb dX8_isShortTurned_17 rfl hl (by decide) rfl (fun ls hl => ?_)
        exact h1 (J_18 v1 1000 (-10 : Int32) _ hf hG _ _ (hP.sub [2, 3, 0, 1] rfl) (hD.sub [2, 3, 0, 1] rfl rfl) hS _ (lv_sub hl [1, 2, 0] rfl))
  unfold fX8_isShortTurned at hf
  refine lv_aload_n hx hb dX8_isShortTurned_0 rfl (lv_at hl 0 rfl) ?_
  obtain ⟨q1, hq1, hf⟩ := ds_ob hf
  refine ds_calli (wr := [(h_o_shift, .inl (ca 3, 768, .inl o_shift_r)), (h_o_plans, .inl (ca 0, 80, .inl o_plans_r))]) (va_runV (As := []) (rest := []) ⟨hx, hb, hml, hown, hts⟩ (c_X8_turnings l dC dI ca sa h_o h_o_plans h_o_makers h_o_halves h_o_all h_o_text h_o_saved h_o_undone h_o_told h_o_shift h_o_rootOf h_o_becomes h_o_comes h_o_next s.heap.size o_raised o_undos o_reached o_length o_begin o_letters o_sort o_word o_wrongAt o_badAt o_bad o_firstX o_firstY o_secondX o_secondY o_x o_all_r  q1 hq1) (cwV 0 hts (ds_gV kw_604 kw_605 kw_606 kw_597 kw_607) rfl rfl rfl (by decide +kernel) ⟨Nat.le_of_ble_eq_true rfl, Nat.le_of_ble_eq_true rfl⟩) ⟨ds_blind, va_recv hK hP (ci := 7) (q0 := 0) rfl rfl, ds_at hP hD hK hE hS hA [0, 1] rfl rfl _⟩ rfl rfl hl.1 rfl (lv_room (Nat.le_of_ble_eq_true rfl)) dX8_isShortTurned_1 ⟨Nat.zero_le _, Nat.zero_le _⟩) hP hD hS hA [0, 1] [2, 3] rfl rfl rfl (by decide) (fun H locs hP hD hS => ?_)
  have hP : va_P (dC, dI) vwCl [(h_o_shift, .inl (ca 3, 768, .inl o_shift_r)), (h_o_plans, .inl (ca 0, 80, .inl o_plans_r)), (h_o, .inr (7, [.ref h_o_plans, .ref h_o_makers, .ref h_o_halves, .int o_raised, .ref h_o_all, .ref h_o_text, .ref h_o_saved, .ref h_o_undone, .int o_undos, .int o_reached, .int o_length, .int o_begin, .int o_letters, .int o_sort, .long o_word, .int o_wrongAt, .int o_badAt, .int o_bad, .ref h_o_told, .ref h_o_shift, .int o_firstX, .int o_firstY, .int o_secondX, .int o_secondY, .ref h_o_rootOf, .ref h_o_becomes, .ref h_o_comes, .ref h_o_next, .int o_x])), (h_o_all, .inl (ca 0, 350, .inl o_all_r))] H := hP
  have hD : va_D A [(h_o_shift, .inl (ca 3, 768, .inl o_shift_r)), (h_o_plans, .inl (ca 0, 80, .inl o_plans_r)), (h_o, .inr (7, [.ref h_o_plans, .ref h_o_makers, .ref h_o_halves, .int o_raised, .ref h_o_all, .ref h_o_text, .ref h_o_saved, .ref h_o_undone, .int o_undos, .int o_reached, .int o_length, .int o_begin, .int o_letters, .int o_sort, .long o_word, .int o_wrongAt, .int o_badAt, .int o_bad, .ref h_o_told, .ref h_o_shift, .int o_firstX, .int o_firstY, .int o_secondX, .int o_secondY, .ref h_o_rootOf, .ref h_o_becomes, .ref h_o_comes, .ref h_o_next, .int o_x])), (h_o_all, .inl (ca 0, 350, .inl o_all_r))] := hD
  refine lv_iconst (v := 2) hx hb dX8_isShortTurned_4 (by decide) ?_
  refine lv_idiv hx hb dX8_isShortTurned_5 (by decide) ?_
  refine lv_istore_n (lv' := [(1, .int (q1 / (2 : Int32))), (0, .ref h_o)]) hx hb dX8_isShortTurned_6 rfl hl (by decide) rfl (fun ls hl => ?_)
  exact h1 (J_7  1000 (q1 / (2 : Int32)) _ hf hG _ _ (hP.sub [2, 3, 0, 1] rfl) (hD.sub [2, 3, 0, 1] rfl rfl) hS _ (lv_sub hl [1, 0] rfl))
theorem dX8_cls_0 : decode cX8_cls 0 = .ok (.aload_n 0, 1) := by decide +kernel
theorem dX8_cls_1 : decode cX8_cls 1 = .ok (.invokevirtual 192, 3) := by decide +kernel
theorem dX8_cls_4 : decode cX8_cls 4 = .ok (.aload_n 0, 1) := by decide +kernel
theorem dX8_cls_5 : decode cX8_cls 5 = .ok (.invokevirtual 195, 3) := by decide +kernel
theorem dX8_cls_8 : decode cX8_cls 8 = .ok (.istore_n 1, 1) := by decide +kernel
theorem dX8_cls_9 : decode cX8_cls 9 = .ok (.aload_n 0, 1) := by decide +kernel
theorem dX8_cls_10 : decode cX8_cls 10 = .ok (.iconst 0, 1) := by decide +kernel
theorem dX8_cls_11 : decode cX8_cls 11 = .ok (.invokevirtual 198, 3) := by decide +kernel
theorem dX8_cls_14 : decode cX8_cls 14 = .ok (.istore_n 2, 1) := by decide +kernel
theorem dX8_cls_15 : decode cX8_cls 15 = .ok (.aload_n 0, 1) := by decide +kernel
theorem dX8_cls_16 : decode cX8_cls 16 = .ok (.iconst 1, 1) := by decide +kernel
theorem dX8_cls_17 : decode cX8_cls 17 = .ok (.invokevirtual 198, 3) := by decide +kernel
theorem dX8_cls_20 : decode cX8_cls 20 = .ok (.istore_n 3, 1) := by decide +kernel
theorem dX8_cls_21 : decode cX8_cls 21 = .ok (.aload_n 0, 1) := by decide +kernel
theorem dX8_cls_22 : decode cX8_cls 22 = .ok (.iconst 3, 1) := by decide +kernel
theorem dX8_cls_23 : decode cX8_cls 23 = .ok (.invokevirtual 198, 3) := by decide +kernel
theorem dX8_cls_26 : decode cX8_cls 26 = .ok (.istore 4, 2) := by decide +kernel
theorem dX8_cls_28 : decode cX8_cls 28 = .ok (.iload_n 1, 1) := by decide +kernel
theorem dX8_cls_29 : decode cX8_cls 29 = .ok (.tableswitch 129 1 4 #[31, 58, 81, 105], 31) := by decide +kernel
theorem dX8_cls_60 : decode cX8_cls 60 = .ok (.iload_n 2, 1) := by decide +kernel
theorem dX8_cls_61 : decode cX8_cls 61 = .ok (.ifCond .ne 7, 3) := by decide +kernel
theorem dX8_cls_64 : decode cX8_cls 64 = .ok (.iconst 0, 1) := by decide +kernel
theorem dX8_cls_65 : decode cX8_cls 65 = .ok (.goto 21, 3) := by decide +kernel
theorem dX8_cls_68 : decode cX8_cls 68 = .ok (.iload 4, 2) := by decide +kernel
theorem dX8_cls_70 : decode cX8_cls 70 = .ok (.ifCond .le 7, 3) := by decide +kernel
theorem dX8_cls_73 : decode cX8_cls 73 = .ok (.iconst 4, 1) := by decide +kernel
theorem dX8_cls_74 : decode cX8_cls 74 = .ok (.goto 12, 3) := by decide +kernel
theorem dX8_cls_77 : decode cX8_cls 77 = .ok (.iload_n 3, 1) := by decide +kernel
theorem dX8_cls_78 : decode cX8_cls 78 = .ok (.ifCond .le 7, 3) := by decide +kernel
theorem dX8_cls_81 : decode cX8_cls 81 = .ok (.iconst 2, 1) := by decide +kernel
theorem dX8_cls_82 : decode cX8_cls 82 = .ok (.goto 4, 3) := by decide +kernel
theorem dX8_cls_85 : decode cX8_cls 85 = .ok (.iconst 3, 1) := by decide +kernel
theorem dX8_cls_86 : decode cX8_cls 86 = .ok (.ireturn, 1) := by decide +kernel
theorem dX8_cls_87 : decode cX8_cls 87 = .ok (.iload_n 2, 1) := by decide +kernel
theorem dX8_cls_88 : decode cX8_cls 88 = .ok (.ifCond .ne 7, 3) := by decide +kernel
theorem dX8_cls_91 : decode cX8_cls 91 = .ok (.iconst 1, 1) := by decide +kernel
theorem dX8_cls_92 : decode cX8_cls 92 = .ok (.goto 17, 3) := by decide +kernel
theorem dX8_cls_95 : decode cX8_cls 95 = .ok (.iload 4, 2) := by decide +kernel
theorem dX8_cls_97 : decode cX8_cls 97 = .ok (.ifCond .le 8, 3) := by decide +kernel
theorem dX8_cls_100 : decode cX8_cls 100 = .ok (.bipush 8, 2) := by decide +kernel
theorem dX8_cls_102 : decode cX8_cls 102 = .ok (.goto 7, 3) := by decide +kernel
theorem dX8_cls_105 : decode cX8_cls 105 = .ok (.bipush 7, 2) := by decide +kernel
theorem dX8_cls_107 : decode cX8_cls 107 = .ok (.iload_n 3, 1) := by decide +kernel
theorem dX8_cls_108 : decode cX8_cls 108 = .ok (.isub, 1) := by decide +kernel
theorem dX8_cls_109 : decode cX8_cls 109 = .ok (.ireturn, 1) := by decide +kernel
theorem dX8_cls_110 : decode cX8_cls 110 = .ok (.iload_n 2, 1) := by decide +kernel
theorem dX8_cls_111 : decode cX8_cls 111 = .ok (.ifCond .ne 8, 3) := by decide +kernel
theorem dX8_cls_114 : decode cX8_cls 114 = .ok (.bipush 12, 2) := by decide +kernel
theorem dX8_cls_116 : decode cX8_cls 116 = .ok (.goto 17, 3) := by decide +kernel
theorem dX8_cls_119 : decode cX8_cls 119 = .ok (.aload_n 0, 1) := by decide +kernel
theorem dX8_cls_120 : decode cX8_cls 120 = .ok (.invokevirtual 201, 3) := by decide +kernel
theorem dX8_cls_123 : decode cX8_cls 123 = .ok (.ifCond .eq 8, 3) := by decide +kernel
theorem dX8_cls_126 : decode cX8_cls 126 = .ok (.bipush 13, 2) := by decide +kernel
theorem dX8_cls_128 : decode cX8_cls 128 = .ok (.goto 5, 3) := by decide +kernel
theorem dX8_cls_131 : decode cX8_cls 131 = .ok (.bipush 14, 2) := by decide +kernel
theorem dX8_cls_133 : decode cX8_cls 133 = .ok (.ireturn, 1) := by decide +kernel
theorem dX8_cls_134 : decode cX8_cls 134 = .ok (.iload_n 2, 1) := by decide +kernel
theorem dX8_cls_135 : decode cX8_cls 135 = .ok (.ifCond .ne 8, 3) := by decide +kernel
theorem dX8_cls_138 : decode cX8_cls 138 = .ok (.bipush 9, 2) := by decide +kernel
theorem dX8_cls_140 : decode cX8_cls 140 = .ok (.goto 17, 3) := by decide +kernel
theorem dX8_cls_143 : decode cX8_cls 143 = .ok (.aload_n 0, 1) := by decide +kernel
theorem dX8_cls_144 : decode cX8_cls 144 = .ok (.invokevirtual 204, 3) := by decide +kernel
theorem dX8_cls_147 : decode cX8_cls 147 = .ok (.ifCond .eq 8, 3) := by decide +kernel
theorem dX8_cls_150 : decode cX8_cls 150 = .ok (.bipush 10, 2) := by decide +kernel
theorem dX8_cls_152 : decode cX8_cls 152 = .ok (.goto 5, 3) := by decide +kernel
theorem dX8_cls_155 : decode cX8_cls 155 = .ok (.bipush 11, 2) := by decide +kernel
theorem dX8_cls_157 : decode cX8_cls 157 = .ok (.ireturn, 1) := by decide +kernel
theorem dX8_cls_158 : decode cX8_cls 158 = .ok (.iload_n 2, 1) := by decide +kernel
theorem dX8_cls_159 : decode cX8_cls 159 = .ok (.ifCond .ne 8, 3) := by decide +kernel
theorem dX8_cls_162 : decode cX8_cls 162 = .ok (.bipush 15, 2) := by decide +kernel
theorem dX8_cls_164 : decode cX8_cls 164 = .ok (.goto 5, 3) := by decide +kernel
theorem dX8_cls_167 : decode cX8_cls 167 = .ok (.bipush 16, 2) := by decide +kernel
theorem dX8_cls_169 : decode cX8_cls 169 = .ok (.ireturn, 1) := by decide +kernel
def fX8_cls (o_all_r : Nat → Int32) (o_shift_r : Nat → Int32) (o_plans_r : Nat → Int32) : Option (Int32 × Int32 × Int32 × Int32 × Int32) :=
  Option.bind (fX8_laysSteps o_all_r o_shift_r) fun q1 => Option.bind (fX8_order o_all_r o_shift_r) fun q5 => Option.bind (fX8_flips o_all_r o_shift_r o_plans_r (0 : Int32)) fun q11 => Option.bind (fX8_flips o_all_r o_shift_r o_plans_r (1 : Int32)) fun q17 => Option.bind (fX8_flips o_all_r o_shift_r o_plans_r (3 : Int32)) fun q23 => if q5 = 1 then if q11 = 0 then some ((0 : Int32), q1.1, q1.2.1, q1.2.2.1, q1.2.2.2) else if q23 ≤ 0 then if q17 ≤ 0 then some ((3 : Int32), q1.1, q1.2.1, q1.2.2.1, q1.2.2.2) else some ((2 : Int32), q1.1, q1.2.1, q1.2.2.1, q1.2.2.2) else some ((4 : Int32), q1.1, q1.2.1, q1.2.2.1, q1.2.2.2) else if q5 = 2 then if q11 = 0 then some ((1 : Int32), q1.1, q1.2.1, q1.2.2.1, q1.2.2.2) else if q23 ≤ 0 then some (((7 : Int32) - q17), q1.1, q1.2.1, q1.2.2.1, q1.2.2.2) else some ((8 : Int32), q1.1, q1.2.1, q1.2.2.1, q1.2.2.2) else if q5 = 3 then if q11 = 0 then some ((12 : Int32), q1.1, q1.2.1, q1.2.2.1, q1.2.2.2) else Option.bind (fX8_isShortTurned q1.1 q1.2.1 o_all_r o_shift_r o_plans_r) fun q120 => if q120 = 0 then some ((14 : Int32), q1.1, q1.2.1, q1.2.2.1, q1.2.2.2) else some ((13 : Int32), q1.1, q1.2.1, q1.2.2.1, q1.2.2.2) else if q5 = 4 then if q11 = 0 then some ((9 : Int32), q1.1, q1.2.1, q1.2.2.1, q1.2.2.2) else Option.bind (fX8_isFirstMirror q1.1 q1.2.1 o_all_r o_shift_r o_plans_r) fun q144 => if q144 = 0 then some ((11 : Int32), q1.1, q1.2.1, q1.2.2.1, q1.2.2.2) else some ((10 : Int32), q1.1, q1.2.1, q1.2.2.1, q1.2.2.2) else if q11 = 0 then some ((15 : Int32), q1.1, q1.2.1, q1.2.2.1, q1.2.2.2) else some ((16 : Int32), q1.1, q1.2.1, q1.2.2.1, q1.2.2.2)
set_option maxHeartbeats 4000000 in
set_option maxRecDepth 100000 in
theorem c_X8_cls (l : Launch) (dC : Nat → ClassId) (dI : Nat → Nat → Nat) (ca : Nat → ClassId) (sa : Nat → Nat) (h_o : Nat) (h_o_plans : Nat) (h_o_makers : Nat) (h_o_halves : Nat) (h_o_all : Nat) (h_o_text : Nat) (h_o_saved : Nat) (h_o_undone : Nat) (h_o_told : Nat) (h_o_shift : Nat) (h_o_rootOf : Nat) (h_o_becomes : Nat) (h_o_comes : Nat) (h_o_next : Nat) (sz : Nat) (o_raised : Int32) (o_undos : Int32) (o_reached : Int32) (o_length : Int32) (o_begin : Int32) (o_letters : Int32) (o_sort : Int32) (o_word : Int64) (o_wrongAt : Int32) (o_badAt : Int32) (o_bad : Int32) (o_firstX : Int32) (o_firstY : Int32) (o_secondX : Int32) (o_secondY : Int32) (o_x : Int32) (o_all_r : Nat → Int32) (o_shift_r : Nat → Int32) (o_plans_r : Nat → Int32) (res : Int32 × Int32 × Int32 × Int32 × Int32) (hf : fX8_cls o_all_r o_shift_r o_plans_r = some res) : Met l yX8_cls (Cond.code yX8_cls cX8_cls 5 (some .int) :: ds_gw) { frames := 6, cells := 0, slots := 0, locals := 138 } (va_Pc [.ref h_o] (ds_Pre dC dI ca sa [(h_o, .inr (7, [.ref h_o_plans, .ref h_o_makers, .ref h_o_halves, .int o_raised, .ref h_o_all, .ref h_o_text, .ref h_o_saved, .ref h_o_undone, .int o_undos, .int o_reached, .int o_length, .int o_begin, .int o_letters, .int o_sort, .long o_word, .int o_wrongAt, .int o_badAt, .int o_bad, .ref h_o_told, .ref h_o_shift, .int o_firstX, .int o_firstY, .int o_secondX, .int o_secondY, .ref h_o_rootOf, .ref h_o_becomes, .ref h_o_comes, .ref h_o_next, .int o_x])), (h_o_all, .inl (ca 0, 350, .inl o_all_r)), (h_o_shift, .inl (ca 3, 768, .inl o_shift_r)), (h_o_plans, .inl (ca 0, 80, .inl o_plans_r))] sz)) (va_Qi (fun r (_ : Unit) => r = res.1) (ds_B dC dI (va_A [(h_o, .inr (7, [.ref h_o_plans, .ref h_o_makers, .ref h_o_halves, .int o_raised, .ref h_o_all, .ref h_o_text, .ref h_o_saved, .ref h_o_undone, .int o_undos, .int o_reached, .int o_length, .int o_begin, .int o_letters, .int o_sort, .long o_word, .int o_wrongAt, .int o_badAt, .int o_bad, .ref h_o_told, .ref h_o_shift, .int o_firstX, .int o_firstY, .int o_secondX, .int o_secondY, .ref h_o_rootOf, .ref h_o_becomes, .ref h_o_comes, .ref h_o_next, .int o_x])), (h_o_all, .inl (ca 0, 350, .inl o_all_r)), (h_o_shift, .inl (ca 3, 768, .inl o_shift_r)), (h_o_plans, .inl (ca 0, 80, .inl o_plans_r))] sz) [(h_o, .inr (7, [.ref h_o_plans, .ref h_o_makers, .ref h_o_halves, .int o_raised, .ref h_o_all, .ref h_o_text, .ref h_o_saved, .ref h_o_undone, .int o_undos, .int o_reached, .int o_length, .int o_begin, .int o_letters, .int o_sort, .long o_word, .int o_wrongAt, .int o_badAt, .int o_bad, .ref h_o_told, .ref h_o_shift, .int res.2.1, .int res.2.2.1, .int res.2.2.2.1, .int res.2.2.2.2, .ref h_o_rootOf, .ref h_o_becomes, .ref h_o_comes, .ref h_o_next, .int o_x])), (h_o_all, .inl (ca 0, 350, .inl o_all_r)), (h_o_shift, .inl (ca 3, 768, .inl o_shift_r)), (h_o_plans, .inl (ca 0, 80, .inl o_plans_r))]) (va_A [(h_o, .inr (7, [.ref h_o_plans, .ref h_o_makers, .ref h_o_halves, .int o_raised, .ref h_o_all, .ref h_o_text, .ref h_o_saved, .ref h_o_undone, .int o_undos, .int o_reached, .int o_length, .int o_begin, .int o_letters, .int o_sort, .long o_word, .int o_wrongAt, .int o_badAt, .int o_bad, .ref h_o_told, .ref h_o_shift, .int o_firstX, .int o_firstY, .int o_secondX, .int o_secondY, .ref h_o_rootOf, .ref h_o_becomes, .ref h_o_comes, .ref h_o_next, .int o_x])), (h_o_all, .inl (ca 0, 350, .inl o_all_r)), (h_o_shift, .inl (ca 3, 768, .inl o_shift_r)), (h_o_plans, .inl (ca 0, 80, .inl o_plans_r))] sz)) 0 0 (va_A [(h_o, .inr (7, [.ref h_o_plans, .ref h_o_makers, .ref h_o_halves, .int o_raised, .ref h_o_all, .ref h_o_text, .ref h_o_saved, .ref h_o_undone, .int o_undos, .int o_reached, .int o_length, .int o_begin, .int o_letters, .int o_sort, .long o_word, .int o_wrongAt, .int o_badAt, .int o_bad, .ref h_o_told, .ref h_o_shift, .int o_firstX, .int o_firstY, .int o_secondX, .int o_secondY, .ref h_o_rootOf, .ref h_o_becomes, .ref h_o_comes, .ref h_o_next, .int o_x])), (h_o_all, .inl (ca 0, 350, .inl o_all_r)), (h_o_shift, .inl (ca 3, 768, .inl o_shift_r)), (h_o_plans, .inl (ca 0, 80, .inl o_plans_r))] sz) := by
  refine Met.ofW (cc := cX8_cls) (maxL := 5) (ret := (some .int)) (by decide) rfl ?_
  intro p e s m args below meth c s₁ B hml hv
  obtain ⟨rfl, hsz, hP, hK, hD0, hE⟩ := hv
  have hx := B.exec
  have hb := B.bytes
  have hr := B.returns
  have hts := atoms_spec (ws := Cond.code yX8_cls cX8_cls 5 (some .int) :: ds_gw) B.pre
  have hg : ∀ {w : Cond}, w ∈ ds_gw → w.before _ s = true := fun h => hts _ (List.mem_cons_of_mem _ h)
  have hown : s.vm.findClass RX8 = some m.cls := findClass_of_methodNamed B.named
  have hlocks := B.notSynchronized
  subst hsz
  have hD := hD0.self (sz := s.heap.size)
  generalize hAe : va_A [(h_o, .inr (7, [.ref h_o_plans, .ref h_o_makers, .ref h_o_halves, .int o_raised, .ref h_o_all, .ref h_o_text, .ref h_o_saved, .ref h_o_undone, .int o_undos, .int o_reached, .int o_length, .int o_begin, .int o_letters, .int o_sort, .long o_word, .int o_wrongAt, .int o_badAt, .int o_bad, .ref h_o_told, .ref h_o_shift, .int o_firstX, .int o_firstY, .int o_secondX, .int o_secondY, .ref h_o_rootOf, .ref h_o_becomes, .ref h_o_comes, .ref h_o_next, .int o_x])), (h_o_all, .inl (ca 0, 350, .inl o_all_r)), (h_o_shift, .inl (ca 3, 768, .inl o_shift_r)), (h_o_plans, .inl (ca 0, 80, .inl o_plans_r))] s.heap.size = A at hD hE ⊢
  have hA : ∀ q : Nat, s.heap.size ≤ q → A q := fun q h => by rw [← hAe]; exact Or.inr h
  have hS : va_S A s.heap s.heap [] := va_S.rf
  have hl := lv_entry ([.ref h_o]) (n := 5) (Nat.le_of_ble_eq_true rfl)
  rw [lg_entry_eq]
  generalize (lg_sl ([.ref h_o]) ++ List.replicate (5 - (lg_sl ([.ref h_o])).length) Slot.unset).toArray = ls at hl ⊢
  have hl : lv_has ls 5 [(0, .ref h_o)] := hl
  obtain ⟨G0, eG0⟩ : ∃ G : (Int32 × Int32 × Int32 × Int32 × Int32) → Prop, G = (fun r => r = res) := ⟨_, rfl⟩
  obtain ⟨rr, hrr⟩ : ∃ z, z = res := ⟨_, rfl⟩
  rw [← hrr] at hf
  have hG : G0 rr := by subst eG0; exact hrr
  unfold fX8_cls at hf
  refine lv_aload_n hx hb dX8_cls_0 rfl (lv_at hl 0 rfl) ?_
  obtain ⟨q1, hq1, hf⟩ := ds_ob hf
  refine ds_callv (wr := [(h_o_plans, .inl (ca 0, 80, .inl o_plans_r))]) (va_runV (As := []) (rest := []) ⟨hx, hb, hml, hown, hts⟩ (c_X8_laysSteps l dC dI ca sa h_o h_o_plans h_o_makers h_o_halves h_o_all h_o_text h_o_saved h_o_undone h_o_told h_o_shift h_o_rootOf h_o_becomes h_o_comes h_o_next s.heap.size o_raised o_undos o_reached o_length o_begin o_letters o_sort o_word o_wrongAt o_badAt o_bad o_firstX o_firstY o_secondX o_secondY o_x o_all_r o_shift_r  q1 hq1) (cwV 0 hts (ds_gV kw_719 kw_720 kw_721 kw_597 kw_722) rfl rfl rfl (by decide +kernel) ⟨Nat.le_of_ble_eq_true rfl, Nat.le_of_ble_eq_true rfl⟩) ⟨ds_blind, va_recv hK hP (ci := 7) (q0 := 0) rfl rfl, ds_at hP hD hK hE hS hA [0, 1, 2] rfl rfl _⟩ rfl rfl hl.1 rfl (lv_room (Nat.le_of_ble_eq_true rfl)) dX8_cls_1 ⟨Nat.zero_le _, Nat.zero_le _⟩) hP hD hS hA [0, 1, 2] [3] rfl rfl rfl (by decide) (fun H locs hP hD hS => ?_)
  have hP : va_P (dC, dI) vwCl [(h_o_plans, .inl (ca 0, 80, .inl o_plans_r)), (h_o, .inr (7, [.ref h_o_plans, .ref h_o_makers, .ref h_o_halves, .int o_raised, .ref h_o_all, .ref h_o_text, .ref h_o_saved, .ref h_o_undone, .int o_undos, .int o_reached, .int o_length, .int o_begin, .int o_letters, .int o_sort, .long o_word, .int o_wrongAt, .int o_badAt, .int o_bad, .ref h_o_told, .ref h_o_shift, .int q1.1, .int q1.2.1, .int q1.2.2.1, .int q1.2.2.2, .ref h_o_rootOf, .ref h_o_becomes, .ref h_o_comes, .ref h_o_next, .int o_x])), (h_o_all, .inl (ca 0, 350, .inl o_all_r)), (h_o_shift, .inl (ca 3, 768, .inl o_shift_r))] H := hP
  have hD : va_D A [(h_o_plans, .inl (ca 0, 80, .inl o_plans_r)), (h_o, .inr (7, [.ref h_o_plans, .ref h_o_makers, .ref h_o_halves, .int o_raised, .ref h_o_all, .ref h_o_text, .ref h_o_saved, .ref h_o_undone, .int o_undos, .int o_reached, .int o_length, .int o_begin, .int o_letters, .int o_sort, .long o_word, .int o_wrongAt, .int o_badAt, .int o_bad, .ref h_o_told, .ref h_o_shift, .int q1.1, .int q1.2.1, .int q1.2.2.1, .int q1.2.2.2, .ref h_o_rootOf, .ref h_o_becomes, .ref h_o_comes, .ref h_o_next, .int o_x])), (h_o_all, .inl (ca 0, 350, .inl o_all_r)), (h_o_shift, .inl (ca 3, 768, .inl o_shift_r))] := hD
  refine lv_aload_n hx hb dX8_cls_4 rfl (lv_at hl 0 rfl) ?_
  obtain ⟨q5, hq5, hf⟩ := ds_ob hf
  refine ds_calli (wr := [(h_o_plans, .inl (ca 0, 80, .inl o_plans_r))]) (va_runV (As := []) (rest := []) ⟨hx, hb, hml, hown, hts⟩ (c_X8_order l dC dI ca sa h_o h_o_plans h_o_makers h_o_halves h_o_all h_o_text h_o_saved h_o_undone h_o_told h_o_shift h_o_rootOf h_o_becomes h_o_comes h_o_next H.size o_raised o_undos o_reached o_length o_begin o_letters o_sort o_word o_wrongAt o_badAt o_bad q1.1 q1.2.1 q1.2.2.1 q1.2.2.2 o_x o_all_r o_shift_r  q5 hq5) (cwV 0 hts (ds_gV kw_723 kw_724 kw_725 kw_597 kw_726) rfl rfl rfl (by decide +kernel) ⟨Nat.le_of_ble_eq_true rfl, Nat.le_of_ble_eq_true rfl⟩) ⟨ds_blind, va_recv hK hP (ci := 7) (q0 := 1) rfl rfl, ds_at hP hD hK hE hS hA [1, 2, 3] rfl rfl _⟩ rfl rfl hl.1 rfl (lv_room (Nat.le_of_ble_eq_true rfl)) dX8_cls_5 ⟨Nat.zero_le _, Nat.zero_le _⟩) hP hD hS hA [1, 2, 3] [0] rfl rfl rfl (by decide) (fun H locs hP hD hS => ?_)
  have hP : va_P (dC, dI) vwCl [(h_o_plans, .inl (ca 0, 80, .inl o_plans_r)), (h_o, .inr (7, [.ref h_o_plans, .ref h_o_makers, .ref h_o_halves, .int o_raised, .ref h_o_all, .ref h_o_text, .ref h_o_saved, .ref h_o_undone, .int o_undos, .int o_reached, .int o_length, .int o_begin, .int o_letters, .int o_sort, .long o_word, .int o_wrongAt, .int o_badAt, .int o_bad, .ref h_o_told, .ref h_o_shift, .int q1.1, .int q1.2.1, .int q1.2.2.1, .int q1.2.2.2, .ref h_o_rootOf, .ref h_o_becomes, .ref h_o_comes, .ref h_o_next, .int o_x])), (h_o_all, .inl (ca 0, 350, .inl o_all_r)), (h_o_shift, .inl (ca 3, 768, .inl o_shift_r))] H := hP
  have hD : va_D A [(h_o_plans, .inl (ca 0, 80, .inl o_plans_r)), (h_o, .inr (7, [.ref h_o_plans, .ref h_o_makers, .ref h_o_halves, .int o_raised, .ref h_o_all, .ref h_o_text, .ref h_o_saved, .ref h_o_undone, .int o_undos, .int o_reached, .int o_length, .int o_begin, .int o_letters, .int o_sort, .long o_word, .int o_wrongAt, .int o_badAt, .int o_bad, .ref h_o_told, .ref h_o_shift, .int q1.1, .int q1.2.1, .int q1.2.2.1, .int q1.2.2.2, .ref h_o_rootOf, .ref h_o_becomes, .ref h_o_comes, .ref h_o_next, .int o_x])), (h_o_all, .inl (ca 0, 350, .inl o_all_r)), (h_o_shift, .inl (ca 3, 768, .inl o_shift_r))] := hD
  refine lv_istore_n (lv' := [(1, .int q5), (0, .ref h_o)]) hx hb dX8_cls_8 rfl hl (by decide) rfl (fun ls hl => ?_)
  refine lv_aload_n hx hb dX8_cls_9 rfl (lv_at hl 1 rfl) ?_
  refine lv_iconst (v := 0) hx hb dX8_cls_10 (by decide) ?_
  obtain ⟨q11, hq11, hf⟩ := ds_ob hf
  refine ds_calli (wr := []) (va_runV (As := [.int (0 : Int32)]) (rest := []) ⟨hx, hb, hml, hown, hts⟩ (c_X8_flips l dC dI ca sa h_o h_o_plans h_o_makers h_o_halves h_o_all h_o_text h_o_saved h_o_undone h_o_told h_o_shift h_o_rootOf h_o_becomes h_o_comes h_o_next H.size o_raised o_undos o_reached o_length o_begin o_letters o_sort o_word o_wrongAt o_badAt o_bad q1.1 q1.2.1 q1.2.2.1 q1.2.2.2 o_x o_all_r o_shift_r o_plans_r (0 : Int32) q11 hq11) (cwV 1 hts (ds_gV kw_727 kw_728 kw_729 kw_597 kw_730) rfl rfl rfl (by decide +kernel) ⟨Nat.le_of_ble_eq_true rfl, Nat.le_of_ble_eq_true rfl⟩) ⟨ds_blind, va_recv hK hP (ci := 7) (q0 := 1) rfl rfl, ds_at hP hD hK hE hS hA [1, 2, 3, 0] rfl rfl _⟩ rfl rfl hl.1 rfl (lv_room (Nat.le_of_ble_eq_true rfl)) dX8_cls_11 ⟨Nat.zero_le _, Nat.zero_le _⟩) hP hD hS hA [1, 2, 3, 0] [] rfl rfl rfl (by decide) (fun H locs hP hD hS => ?_)
  have hP : va_P (dC, dI) vwCl [(h_o, .inr (7, [.ref h_o_plans, .ref h_o_makers, .ref h_o_halves, .int o_raised, .ref h_o_all, .ref h_o_text, .ref h_o_saved, .ref h_o_undone, .int o_undos, .int o_reached, .int o_length, .int o_begin, .int o_letters, .int o_sort, .long o_word, .int o_wrongAt, .int o_badAt, .int o_bad, .ref h_o_told, .ref h_o_shift, .int q1.1, .int q1.2.1, .int q1.2.2.1, .int q1.2.2.2, .ref h_o_rootOf, .ref h_o_becomes, .ref h_o_comes, .ref h_o_next, .int o_x])), (h_o_all, .inl (ca 0, 350, .inl o_all_r)), (h_o_shift, .inl (ca 3, 768, .inl o_shift_r)), (h_o_plans, .inl (ca 0, 80, .inl o_plans_r))] H := hP
  have hD : va_D A [(h_o, .inr (7, [.ref h_o_plans, .ref h_o_makers, .ref h_o_halves, .int o_raised, .ref h_o_all, .ref h_o_text, .ref h_o_saved, .ref h_o_undone, .int o_undos, .int o_reached, .int o_length, .int o_begin, .int o_letters, .int o_sort, .long o_word, .int o_wrongAt, .int o_badAt, .int o_bad, .ref h_o_told, .ref h_o_shift, .int q1.1, .int q1.2.1, .int q1.2.2.1, .int q1.2.2.2, .ref h_o_rootOf, .ref h_o_becomes, .ref h_o_comes, .ref h_o_next, .int o_x])), (h_o_all, .inl (ca 0, 350, .inl o_all_r)), (h_o_shift, .inl (ca 3, 768, .inl o_shift_r)), (h_o_plans, .inl (ca 0, 80, .inl o_plans_r))] := hD
  refine lv_istore_n (lv' := [(2, .int q11), (1, .int q5), (0, .ref h_o)]) hx hb dX8_cls_14 rfl hl (by decide) rfl (fun ls hl => ?_)
  refine lv_aload_n hx hb dX8_cls_15 rfl (lv_at hl 2 rfl) ?_
  refine lv_iconst (v := 1) hx hb dX8_cls_16 (by decide) ?_
  obtain ⟨q17, hq17, hf⟩ := ds_ob hf
  refine ds_calli (wr := []) (va_runV (As := [.int (1 : Int32)]) (rest := []) ⟨hx, hb, hml, hown, hts⟩ (c_X8_flips l dC dI ca sa h_o h_o_plans h_o_makers h_o_halves h_o_all h_o_text h_o_saved h_o_undone h_o_told h_o_shift h_o_rootOf h_o_becomes h_o_comes h_o_next H.size o_raised o_undos o_reached o_length o_begin o_letters o_sort o_word o_wrongAt o_badAt o_bad q1.1 q1.2.1 q1.2.2.1 q1.2.2.2 o_x o_all_r o_shift_r o_plans_r (1 : Int32) q17 hq17) (cwV 1 hts (ds_gV kw_727 kw_728 kw_729 kw_597 kw_730) rfl rfl rfl (by decide +kernel) ⟨Nat.le_of_ble_eq_true rfl, Nat.le_of_ble_eq_true rfl⟩) ⟨ds_blind, va_recv hK hP (ci := 7) (q0 := 0) rfl rfl, ds_at hP hD hK hE hS hA [0, 1, 2, 3] rfl rfl _⟩ rfl rfl hl.1 rfl (lv_room (Nat.le_of_ble_eq_true rfl)) dX8_cls_17 ⟨Nat.zero_le _, Nat.zero_le _⟩) hP hD hS hA [0, 1, 2, 3] [] rfl rfl rfl (by decide) (fun H locs hP hD hS => ?_)
  have hP : va_P (dC, dI) vwCl [(h_o, .inr (7, [.ref h_o_plans, .ref h_o_makers, .ref h_o_halves, .int o_raised, .ref h_o_all, .ref h_o_text, .ref h_o_saved, .ref h_o_undone, .int o_undos, .int o_reached, .int o_length, .int o_begin, .int o_letters, .int o_sort, .long o_word, .int o_wrongAt, .int o_badAt, .int o_bad, .ref h_o_told, .ref h_o_shift, .int q1.1, .int q1.2.1, .int q1.2.2.1, .int q1.2.2.2, .ref h_o_rootOf, .ref h_o_becomes, .ref h_o_comes, .ref h_o_next, .int o_x])), (h_o_all, .inl (ca 0, 350, .inl o_all_r)), (h_o_shift, .inl (ca 3, 768, .inl o_shift_r)), (h_o_plans, .inl (ca 0, 80, .inl o_plans_r))] H := hP
  have hD : va_D A [(h_o, .inr (7, [.ref h_o_plans, .ref h_o_makers, .ref h_o_halves, .int o_raised, .ref h_o_all, .ref h_o_text, .ref h_o_saved, .ref h_o_undone, .int o_undos, .int o_reached, .int o_length, .int o_begin, .int o_letters, .int o_sort, .long o_word, .int o_wrongAt, .int o_badAt, .int o_bad, .ref h_o_told, .ref h_o_shift, .int q1.1, .int q1.2.1, .int q1.2.2.1, .int q1.2.2.2, .ref h_o_rootOf, .ref h_o_becomes, .ref h_o_comes, .ref h_o_next, .int o_x])), (h_o_all, .inl (ca 0, 350, .inl o_all_r)), (h_o_shift, .inl (ca 3, 768, .inl o_shift_r)), (h_o_plans, .inl (ca 0, 80, .inl o_plans_r))] := hD
  refine lv_istore_n (lv' := [(3, .int q17), (2, .int q11), (1, .int q5), (0, .ref h_o)]) hx hb dX8_cls_20 rfl hl (by decide) rfl (fun ls hl => ?_)
  refine lv_aload_n hx hb dX8_cls_21 rfl (lv_at hl 3 rfl) ?_
  refine lv_iconst (v := 3) hx hb dX8_cls_22 (by decide) ?_
  obtain ⟨q23, hq23, hf⟩ := ds_ob hf
  refine ds_calli (wr := []) (va_runV (As := [.int (3 : Int32)]) (rest := []) ⟨hx, hb, hml, hown, hts⟩ (c_X8_flips l dC dI ca sa h_o h_o_plans h_o_makers h_o_halves h_o_all h_o_text h_o_saved h_o_undone h_o_told h_o_shift h_o_rootOf h_o_becomes h_o_comes h_o_next H.size o_raised o_undos o_reached o_length o_begin o_letters o_sort o_word o_wrongAt o_badAt o_bad q1.1 q1.2.1 q1.2.2.1 q1.2.2.2 o_x o_all_r o_shift_r o_plans_r (3 : Int32) q23 hq23) (cwV 1 hts (ds_gV kw_727 kw_728 kw_729 kw_597 kw_730) rfl rfl rfl (by decide +kernel) ⟨Nat.le_of_ble_eq_true rfl, Nat.le_of_ble_eq_true rfl⟩) ⟨ds_blind, va_recv hK hP (ci := 7) (q0 := 0) rfl rfl, ds_at hP hD hK hE hS hA [0, 1, 2, 3] rfl rfl _⟩ rfl rfl hl.1 rfl (lv_room (Nat.le_of_ble_eq_true rfl)) dX8_cls_23 ⟨Nat.zero_le _, Nat.zero_le _⟩) hP hD hS hA [0, 1, 2, 3] [] rfl rfl rfl (by decide) (fun H locs hP hD hS => ?_)
  have hP : va_P (dC, dI) vwCl [(h_o, .inr (7, [.ref h_o_plans, .ref h_o_makers, .ref h_o_halves, .int o_raised, .ref h_o_all, .ref h_o_text, .ref h_o_saved, .ref h_o_undone, .int o_undos, .int o_reached, .int o_length, .int o_begin, .int o_letters, .int o_sort, .long o_word, .int o_wrongAt, .int o_badAt, .int o_bad, .ref h_o_told, .ref h_o_shift, .int q1.1, .int q1.2.1, .int q1.2.2.1, .int q1.2.2.2, .ref h_o_rootOf, .ref h_o_becomes, .ref h_o_comes, .ref h_o_next, .int o_x])), (h_o_all, .inl (ca 0, 350, .inl o_all_r)), (h_o_shift, .inl (ca 3, 768, .inl o_shift_r)), (h_o_plans, .inl (ca 0, 80, .inl o_plans_r))] H := hP
  have hD : va_D A [(h_o, .inr (7, [.ref h_o_plans, .ref h_o_makers, .ref h_o_halves, .int o_raised, .ref h_o_all, .ref h_o_text, .ref h_o_saved, .ref h_o_undone, .int o_undos, .int o_reached, .int o_length, .int o_begin, .int o_letters, .int o_sort, .long o_word, .int o_wrongAt, .int o_badAt, .int o_bad, .ref h_o_told, .ref h_o_shift, .int q1.1, .int q1.2.1, .int q1.2.2.1, .int q1.2.2.2, .ref h_o_rootOf, .ref h_o_becomes, .ref h_o_comes, .ref h_o_next, .int o_x])), (h_o_all, .inl (ca 0, 350, .inl o_all_r)), (h_o_shift, .inl (ca 3, 768, .inl o_shift_r)), (h_o_plans, .inl (ca 0, 80, .inl o_plans_r))] := hD
  refine lv_istore (lv' := [(4, .int q23), (3, .int q17), (2, .int q11), (1, .int q5), (0, .ref h_o)]) hx hb dX8_cls_26 hl (by decide) rfl (fun ls hl => ?_)
  refine lv_iload_n hx hb dX8_cls_28 rfl (lv_at hl 3 rfl) ?_
  by_cases c_29_1 : q5 = 1
  · replace hf := ds_t c_29_1 hf
    refine lv_tableIn (off := 31) (tgt := 60) hx hb dX8_cls_29 (by rw [c_29_1]; decide) (by rw [c_29_1]; decide) (by rw [c_29_1]; decide) (by decide) ?_
    refine lv_iload_n hx hb dX8_cls_60 rfl (lv_at hl 2 rfl) ?_
    refine lv_if_ne (tgt := 68) hx hb dX8_cls_61 (by decide) (fun c_61 => ?_) (fun c_61 => ?_)
    · replace hf := ds_f c_61 hf
      refine lv_iload hx hb dX8_cls_68 (lv_at hl 0 rfl) ?_
      refine lv_if_le (tgt := 77) hx hb dX8_cls_70 (by decide) (fun c_70 => ?_) (fun c_70 => ?_)
      · replace hf := ds_t c_70 hf
        refine lv_iload_n hx hb dX8_cls_77 rfl (lv_at hl 1 rfl) ?_
        refine lv_if_le (tgt := 85) hx hb dX8_cls_78 (by decide) (fun c_78 => ?_) (fun c_78 => ?_)
        · replace hf := ds_t c_78 hf
          refine lv_iconst (v := 3) hx hb dX8_cls_85 (by decide) ?_
          have hf := Option.some.inj hf
          subst hf
          rw [eG0] at hG
          have hG : _ = res := hG
          subst hG
          exact W.iret (v := (3 : Int32)) hx hb hr (fun t ht hW => ⟨⟨(3 : Int32), (), rfl, rfl, by rw [ht]; exact hP, hD⟩, hS.F ht⟩) hS.2.2 dX8_cls_86
        · replace hf := ds_f c_78 hf
          refine lv_iconst (v := 2) hx hb dX8_cls_81 (by decide) ?_
          refine lv_goto (tgt := 86) hx hb dX8_cls_82 (by decide) ?_
          have hf := Option.some.inj hf
          subst hf
          rw [eG0] at hG
          have hG : _ = res := hG
          subst hG
          exact W.iret (v := (2 : Int32)) hx hb hr (fun t ht hW => ⟨⟨(2 : Int32), (), rfl, rfl, by rw [ht]; exact hP, hD⟩, hS.F ht⟩) hS.2.2 dX8_cls_86
      · replace hf := ds_f c_70 hf
        refine lv_iconst (v := 4) hx hb dX8_cls_73 (by decide) ?_
        refine lv_goto (tgt := 86) hx hb dX8_cls_74 (by decide) ?_
        have hf := Option.some.inj hf
        subst hf
        rw [eG0] at hG
        have hG : _ = res := hG
        subst hG
        exact W.iret (v := (4 : Int32)) hx hb hr (fun t ht hW => ⟨⟨(4 : Int32), (), rfl, rfl, by rw [ht]; exact hP, hD⟩, hS.F ht⟩) hS.2.2 dX8_cls_86
    · replace hf := ds_t c_61 hf
      refine lv_iconst (v := 0) hx hb dX8_cls_64 (by decide) ?_
      refine lv_goto (tgt := 86) hx hb dX8_cls_65 (by decide) ?_
      have hf := Option.some.inj hf
      subst hf
      rw [eG0] at hG
      have hG : _ = res := hG
      subst hG
      exact W.iret (v := (0 : Int32)) hx hb hr (fun t ht hW => ⟨⟨(0 : Int32), (), rfl, rfl, by rw [ht]; exact hP, hD⟩, hS.F ht⟩) hS.2.2 dX8_cls_86
  replace hf := ds_f c_29_1 hf
  by_cases c_29_2 : q5 = 2
  · replace hf := ds_t c_29_2 hf
    refine lv_tableIn (off := 58) (tgt := 87) hx hb dX8_cls_29 (by rw [c_29_2]; decide) (by rw [c_29_2]; decide) (by rw [c_29_2]; decide) (by decide) ?_
    refine lv_iload_n hx hb dX8_cls_87 rfl (lv_at hl 2 rfl) ?_
    refine lv_if_ne (tgt := 95) hx hb dX8_cls_88 (by decide) (fun c_88 => ?_) (fun c_88 => ?_)
    · replace hf := ds_f c_88 hf
      refine lv_iload hx hb dX8_cls_95 (lv_at hl 0 rfl) ?_
      refine lv_if_le (tgt := 105) hx hb dX8_cls_97 (by decide) (fun c_97 => ?_) (fun c_97 => ?_)
      · replace hf := ds_t c_97 hf
        refine lv_bipush (v := 7) hx hb dX8_cls_105 (by decide) ?_
        refine lv_iload_n hx hb dX8_cls_107 rfl (lv_at hl 1 rfl) ?_
        refine lv_isub hx hb dX8_cls_108 ?_
        have hf := Option.some.inj hf
        subst hf
        rw [eG0] at hG
        have hG : _ = res := hG
        subst hG
        exact W.iret (v := ((7 : Int32) - q17)) hx hb hr (fun t ht hW => ⟨⟨((7 : Int32) - q17), (), rfl, rfl, by rw [ht]; exact hP, hD⟩, hS.F ht⟩) hS.2.2 dX8_cls_109
      · replace hf := ds_f c_97 hf
        refine lv_bipush (v := 8) hx hb dX8_cls_100 (by decide) ?_
        refine lv_goto (tgt := 109) hx hb dX8_cls_102 (by decide) ?_
        have hf := Option.some.inj hf
        subst hf
        rw [eG0] at hG
        have hG : _ = res := hG
        subst hG
        exact W.iret (v := (8 : Int32)) hx hb hr (fun t ht hW => ⟨⟨(8 : Int32), (), rfl, rfl, by rw [ht]; exact hP, hD⟩, hS.F ht⟩) hS.2.2 dX8_cls_109
    · replace hf := ds_t c_88 hf
      refine lv_iconst (v := 1) hx hb dX8_cls_91 (by decide) ?_
      refine lv_goto (tgt := 109) hx hb dX8_cls_92 (by decide) ?_
      have hf := Option.some.inj hf
      subst hf
      rw [eG0] at hG
      have hG : _ = res := hG
      subst hG
      exact W.iret (v := (1 : Int32)) hx hb hr (fun t ht hW => ⟨⟨(1 : Int32), (), rfl, rfl, by rw [ht]; exact hP, hD⟩, hS.F ht⟩) hS.2.2 dX8_cls_109
  replace hf := ds_f c_29_2 hf
  by_cases c_29_3 : q5 = 3
  · replace hf := ds_t c_29_3 hf
    refine lv_tableIn (off := 81) (tgt := 110) hx hb dX8_cls_29 (by rw [c_29_3]; decide) (by rw [c_29_3]; decide) (by rw [c_29_3]; decide) (by decide) ?_
    refine lv_iload_n hx hb dX8_cls_110 rfl (lv_at hl 2 rfl) ?_
    refine lv_if_ne (tgt := 119) hx hb dX8_cls_111 (by decide) (fun c_111 => ?_) (fun c_111 => ?_)
    · replace hf := ds_f c_111 hf
      refine lv_aload_n hx hb dX8_cls_119 rfl (lv_at hl 4 rfl) ?_
      obtain ⟨q120, hq120, hf⟩ := ds_ob hf
      refine ds_calli (wr := []) (va_runV (As := []) (rest := []) ⟨hx, hb, hml, hown, hts⟩ (c_X8_isShortTurned l dC dI ca sa h_o h_o_plans h_o_makers h_o_halves h_o_all h_o_text h_o_saved h_o_undone h_o_told h_o_shift h_o_rootOf h_o_becomes h_o_comes h_o_next H.size o_raised o_undos o_reached o_length o_begin o_letters o_sort o_word o_wrongAt o_badAt o_bad q1.1 q1.2.1 q1.2.2.1 q1.2.2.2 o_x o_all_r o_shift_r o_plans_r  q120 hq120) (cwV 0 hts (ds_gV kw_731 kw_732 kw_733 kw_597 kw_734) rfl rfl rfl (by decide +kernel) ⟨Nat.le_of_ble_eq_true rfl, Nat.le_of_ble_eq_true rfl⟩) ⟨ds_blind, va_recv hK hP (ci := 7) (q0 := 0) rfl rfl, ds_at hP hD hK hE hS hA [0, 1, 2, 3] rfl rfl _⟩ rfl rfl hl.1 rfl (lv_room (Nat.le_of_ble_eq_true rfl)) dX8_cls_120 ⟨Nat.zero_le _, Nat.zero_le _⟩) hP hD hS hA [0, 1, 2, 3] [] rfl rfl rfl (by decide) (fun H locs hP hD hS => ?_)
      have hP : va_P (dC, dI) vwCl [(h_o, .inr (7, [.ref h_o_plans, .ref h_o_makers, .ref h_o_halves, .int o_raised, .ref h_o_all, .ref h_o_text, .ref h_o_saved, .ref h_o_undone, .int o_undos, .int o_reached, .int o_length, .int o_begin, .int o_letters, .int o_sort, .long o_word, .int o_wrongAt, .int o_badAt, .int o_bad, .ref h_o_told, .ref h_o_shift, .int q1.1, .int q1.2.1, .int q1.2.2.1, .int q1.2.2.2, .ref h_o_rootOf, .ref h_o_becomes, .ref h_o_comes, .ref h_o_next, .int o_x])), (h_o_all, .inl (ca 0, 350, .inl o_all_r)), (h_o_shift, .inl (ca 3, 768, .inl o_shift_r)), (h_o_plans, .inl (ca 0, 80, .inl o_plans_r))] H := hP
      have hD : va_D A [(h_o, .inr (7, [.ref h_o_plans, .ref h_o_makers, .ref h_o_halves, .int o_raised, .ref h_o_all, .ref h_o_text, .ref h_o_saved, .ref h_o_undone, .int o_undos, .int o_reached, .int o_length, .int o_begin, .int o_letters, .int o_sort, .long o_word, .int o_wrongAt, .int o_badAt, .int o_bad, .ref h_o_told, .ref h_o_shift, .int q1.1, .int q1.2.1, .int q1.2.2.1, .int q1.2.2.2, .ref h_o_rootOf, .ref h_o_becomes, .ref h_o_comes, .ref h_o_next, .int o_x])), (h_o_all, .inl (ca 0, 350, .inl o_all_r)), (h_o_shift, .inl (ca 3, 768, .inl o_shift_r)), (h_o_plans, .inl (ca 0, 80, .inl o_plans_r))] := hD
      refine lv_if_eq (tgt := 131) hx hb dX8_cls_123 (by decide) (fun c_123 => ?_) (fun c_123 => ?_)
      · replace hf := ds_t c_123 hf
        refine lv_bipush (v := 14) hx hb dX8_cls_131 (by decide) ?_
        have hf := Option.some.inj hf
        subst hf
        rw [eG0] at hG
        have hG : _ = res := hG
        subst hG
        exact W.iret (v := (14 : Int32)) hx hb hr (fun t ht hW => ⟨⟨(14 : Int32), (), rfl, rfl, by rw [ht]; exact hP, hD⟩, hS.F ht⟩) hS.2.2 dX8_cls_133
      · replace hf := ds_f c_123 hf
        refine lv_bipush (v := 13) hx hb dX8_cls_126 (by decide) ?_
        refine lv_goto (tgt := 133) hx hb dX8_cls_128 (by decide) ?_
        have hf := Option.some.inj hf
        subst hf
        rw [eG0] at hG
        have hG : _ = res := hG
        subst hG
        exact W.iret (v := (13 : Int32)) hx hb hr (fun t ht hW => ⟨⟨(13 : Int32), (), rfl, rfl, by rw [ht]; exact hP, hD⟩, hS.F ht⟩) hS.2.2 dX8_cls_133
    · replace hf := ds_t c_111 hf
      refine lv_bipush (v := 12) hx hb dX8_cls_114 (by decide) ?_
      refine lv_goto (tgt := 133) hx hb dX8_cls_116 (by decide) ?_
      have hf := Option.some.inj hf
      subst hf
      rw [eG0] at hG
      have hG : _ = res := hG
      subst hG
      exact W.iret (v := (12 : Int32)) hx hb hr (fun t ht hW => ⟨⟨(12 : Int32), (), rfl, rfl, by rw [ht]; exact hP, hD⟩, hS.F ht⟩) hS.2.2 dX8_cls_133
  replace hf := ds_f c_29_3 hf
  by_cases c_29_4 : q5 = 4
  · replace hf := ds_t c_29_4 hf
    refine lv_tableIn (off := 105) (tgt := 134) hx hb dX8_cls_29 (by rw [c_29_4]; decide) (by rw [c_29_4]; decide) (by rw [c_29_4]; decide) (by decide) ?_
    refine lv_iload_n hx hb dX8_cls_134 rfl (lv_at hl 2 rfl) ?_
    refine lv_if_ne (tgt := 143) hx hb dX8_cls_135 (by decide) (fun c_135 => ?_) (fun c_135 => ?_)
    · replace hf := ds_f c_135 hf
      refine lv_aload_n hx hb dX8_cls_143 rfl (lv_at hl 4 rfl) ?_
      obtain ⟨q144, hq144, hf⟩ := ds_ob hf
      refine ds_calli (wr := []) (va_runV (As := []) (rest := []) ⟨hx, hb, hml, hown, hts⟩ (c_X8_isFirstMirror l dC dI ca sa h_o h_o_plans h_o_makers h_o_halves h_o_all h_o_text h_o_saved h_o_undone h_o_told h_o_shift h_o_rootOf h_o_becomes h_o_comes h_o_next H.size o_raised o_undos o_reached o_length o_begin o_letters o_sort o_word o_wrongAt o_badAt o_bad q1.1 q1.2.1 q1.2.2.1 q1.2.2.2 o_x o_all_r o_shift_r o_plans_r  q144 hq144) (cwV 0 hts (ds_gV kw_735 kw_736 kw_737 kw_597 kw_738) rfl rfl rfl (by decide +kernel) ⟨Nat.le_of_ble_eq_true rfl, Nat.le_of_ble_eq_true rfl⟩) ⟨ds_blind, va_recv hK hP (ci := 7) (q0 := 0) rfl rfl, ds_at hP hD hK hE hS hA [0, 1, 2, 3] rfl rfl _⟩ rfl rfl hl.1 rfl (lv_room (Nat.le_of_ble_eq_true rfl)) dX8_cls_144 ⟨Nat.zero_le _, Nat.zero_le _⟩) hP hD hS hA [0, 1, 2, 3] [] rfl rfl rfl (by decide) (fun H locs hP hD hS => ?_)
      have hP : va_P (dC, dI) vwCl [(h_o, .inr (7, [.ref h_o_plans, .ref h_o_makers, .ref h_o_halves, .int o_raised, .ref h_o_all, .ref h_o_text, .ref h_o_saved, .ref h_o_undone, .int o_undos, .int o_reached, .int o_length, .int o_begin, .int o_letters, .int o_sort, .long o_word, .int o_wrongAt, .int o_badAt, .int o_bad, .ref h_o_told, .ref h_o_shift, .int q1.1, .int q1.2.1, .int q1.2.2.1, .int q1.2.2.2, .ref h_o_rootOf, .ref h_o_becomes, .ref h_o_comes, .ref h_o_next, .int o_x])), (h_o_all, .inl (ca 0, 350, .inl o_all_r)), (h_o_shift, .inl (ca 3, 768, .inl o_shift_r)), (h_o_plans, .inl (ca 0, 80, .inl o_plans_r))] H := hP
      have hD : va_D A [(h_o, .inr (7, [.ref h_o_plans, .ref h_o_makers, .ref h_o_halves, .int o_raised, .ref h_o_all, .ref h_o_text, .ref h_o_saved, .ref h_o_undone, .int o_undos, .int o_reached, .int o_length, .int o_begin, .int o_letters, .int o_sort, .long o_word, .int o_wrongAt, .int o_badAt, .int o_bad, .ref h_o_told, .ref h_o_shift, .int q1.1, .int q1.2.1, .int q1.2.2.1, .int q1.2.2.2, .ref h_o_rootOf, .ref h_o_becomes, .ref h_o_comes, .ref h_o_next, .int o_x])), (h_o_all, .inl (ca 0, 350, .inl o_all_r)), (h_o_shift, .inl (ca 3, 768, .inl o_shift_r)), (h_o_plans, .inl (ca 0, 80, .inl o_plans_r))] := hD
      refine lv_if_eq (tgt := 155) hx hb dX8_cls_147 (by decide) (fun c_147 => ?_) (fun c_147 => ?_)
      · replace hf := ds_t c_147 hf
        refine lv_bipush (v := 11) hx hb dX8_cls_155 (by decide) ?_
        have hf := Option.some.inj hf
        subst hf
        rw [eG0] at hG
        have hG : _ = res := hG
        subst hG
        exact W.iret (v := (11 : Int32)) hx hb hr (fun t ht hW => ⟨⟨(11 : Int32), (), rfl, rfl, by rw [ht]; exact hP, hD⟩, hS.F ht⟩) hS.2.2 dX8_cls_157
      · replace hf := ds_f c_147 hf
        refine lv_bipush (v := 10) hx hb dX8_cls_150 (by decide) ?_
        refine lv_goto (tgt := 157) hx hb dX8_cls_152 (by decide) ?_
        have hf := Option.some.inj hf
        subst hf
        rw [eG0] at hG
        have hG : _ = res := hG
        subst hG
        exact W.iret (v := (10 : Int32)) hx hb hr (fun t ht hW => ⟨⟨(10 : Int32), (), rfl, rfl, by rw [ht]; exact hP, hD⟩, hS.F ht⟩) hS.2.2 dX8_cls_157
    · replace hf := ds_t c_135 hf
      refine lv_bipush (v := 9) hx hb dX8_cls_138 (by decide) ?_
      refine lv_goto (tgt := 157) hx hb dX8_cls_140 (by decide) ?_
      have hf := Option.some.inj hf
      subst hf
      rw [eG0] at hG
      have hG : _ = res := hG
      subst hG
      exact W.iret (v := (9 : Int32)) hx hb hr (fun t ht hW => ⟨⟨(9 : Int32), (), rfl, rfl, by rw [ht]; exact hP, hD⟩, hS.F ht⟩) hS.2.2 dX8_cls_157
  replace hf := ds_f c_29_4 hf
  have n_29_1 := ds_toInt_ne c_29_1
  have n_29_2 := ds_toInt_ne c_29_2
  have n_29_3 := ds_toInt_ne c_29_3
  have n_29_4 := ds_toInt_ne c_29_4
  refine lv_tableOut (tgt := 158) hx hb dX8_cls_29 (by rw [show (1 : Int32).toInt = 1 by decide] at n_29_1; rw [show (2 : Int32).toInt = 2 by decide] at n_29_2; rw [show (3 : Int32).toInt = 3 by decide] at n_29_3; rw [show (4 : Int32).toInt = 4 by decide] at n_29_4; omega) (by decide) ?_
  refine lv_iload_n hx hb dX8_cls_158 rfl (lv_at hl 2 rfl) ?_
  refine lv_if_ne (tgt := 167) hx hb dX8_cls_159 (by decide) (fun c_159 => ?_) (fun c_159 => ?_)
  · replace hf := ds_f c_159 hf
    refine lv_bipush (v := 16) hx hb dX8_cls_167 (by decide) ?_
    have hf := Option.some.inj hf
    subst hf
    rw [eG0] at hG
    have hG : _ = res := hG
    subst hG
    exact W.iret (v := (16 : Int32)) hx hb hr (fun t ht hW => ⟨⟨(16 : Int32), (), rfl, rfl, by rw [ht]; exact hP, hD⟩, hS.F ht⟩) hS.2.2 dX8_cls_169
  · replace hf := ds_t c_159 hf
    refine lv_bipush (v := 15) hx hb dX8_cls_162 (by decide) ?_
    refine lv_goto (tgt := 169) hx hb dX8_cls_164 (by decide) ?_
    have hf := Option.some.inj hf
    subst hf
    rw [eG0] at hG
    have hG : _ = res := hG
    subst hG
    exact W.iret (v := (15 : Int32)) hx hb hr (fun t ht hW => ⟨⟨(15 : Int32), (), rfl, rfl, by rw [ht]; exact hP, hD⟩, hS.F ht⟩) hS.2.2 dX8_cls_169
theorem dX8_root_0 : decode cX8_root 0 = .ok (.iload_n 1, 1) := by decide +kernel
theorem dX8_root_1 : decode cX8_root 1 = .ok (.istore_n 2, 1) := by decide +kernel
theorem dX8_root_2 : decode cX8_root 2 = .ok (.aload_n 0, 1) := by decide +kernel
theorem dX8_root_3 : decode cX8_root 3 = .ok (.getfield 39, 3) := by decide +kernel
theorem dX8_root_6 : decode cX8_root 6 = .ok (.iload_n 2, 1) := by decide +kernel
theorem dX8_root_7 : decode cX8_root 7 = .ok (.iaload, 1) := by decide +kernel
theorem dX8_root_8 : decode cX8_root 8 = .ok (.iload_n 2, 1) := by decide +kernel
theorem dX8_root_9 : decode cX8_root 9 = .ok (.if_icmp .eq 13, 3) := by decide +kernel
theorem dX8_root_12 : decode cX8_root 12 = .ok (.aload_n 0, 1) := by decide +kernel
theorem dX8_root_13 : decode cX8_root 13 = .ok (.getfield 39, 3) := by decide +kernel
theorem dX8_root_16 : decode cX8_root 16 = .ok (.iload_n 2, 1) := by decide +kernel
theorem dX8_root_17 : decode cX8_root 17 = .ok (.iaload, 1) := by decide +kernel
theorem dX8_root_18 : decode cX8_root 18 = .ok (.istore_n 2, 1) := by decide +kernel
theorem dX8_root_19 : decode cX8_root 19 = .ok (.goto (-17), 3) := by decide +kernel
theorem dX8_root_22 : decode cX8_root 22 = .ok (.iload_n 2, 1) := by decide +kernel
theorem dX8_root_23 : decode cX8_root 23 = .ok (.ireturn, 1) := by decide +kernel
def fX8_root_2_b (o_rootOf_r : Nat → Int32) (v2 : Int32) : Option ((Int32) ⊕ (Int32)) :=
  if ds_in v2 64 = true then if (o_rootOf_r v2.toNatClampNeg) = v2 then some (.inr v2) else if ds_in v2 64 = true then some (.inl (o_rootOf_r v2.toNatClampNeg)) else none else none
def fX8_root_2 (o_rootOf_r : Nat → Int32) (v2 : Int32) : Option (Int32) := ds_it (fun s => fX8_root_2_b o_rootOf_r s) 1000 v2
def fX8_root (o_rootOf_r : Nat → Int32) (p1 : Int32) : Option (Int32) :=
  fX8_root_2 o_rootOf_r p1
set_option maxHeartbeats 4000000 in
set_option maxRecDepth 100000 in
theorem c_X8_root (l : Launch) (dC : Nat → ClassId) (dI : Nat → Nat → Nat) (ca : Nat → ClassId) (sa : Nat → Nat) (h_o : Nat) (h_o_plans : Nat) (h_o_makers : Nat) (h_o_halves : Nat) (h_o_all : Nat) (h_o_text : Nat) (h_o_saved : Nat) (h_o_undone : Nat) (h_o_told : Nat) (h_o_shift : Nat) (h_o_rootOf : Nat) (h_o_becomes : Nat) (h_o_comes : Nat) (h_o_next : Nat) (sz : Nat) (o_raised : Int32) (o_undos : Int32) (o_reached : Int32) (o_length : Int32) (o_begin : Int32) (o_letters : Int32) (o_sort : Int32) (o_word : Int64) (o_wrongAt : Int32) (o_badAt : Int32) (o_bad : Int32) (o_firstX : Int32) (o_firstY : Int32) (o_secondX : Int32) (o_secondY : Int32) (o_x : Int32) (o_rootOf_r : Nat → Int32) (p1 : Int32) (res : Int32) (hf : fX8_root o_rootOf_r p1 = some res) : Met l yX8_root (Cond.code yX8_root cX8_root 3 (some .int) :: ds_gw) { frames := 0, cells := 0, slots := 0, locals := 0 } (va_Pc [.ref h_o, .int p1] (ds_Pre dC dI ca sa [(h_o, .inr (7, [.ref h_o_plans, .ref h_o_makers, .ref h_o_halves, .int o_raised, .ref h_o_all, .ref h_o_text, .ref h_o_saved, .ref h_o_undone, .int o_undos, .int o_reached, .int o_length, .int o_begin, .int o_letters, .int o_sort, .long o_word, .int o_wrongAt, .int o_badAt, .int o_bad, .ref h_o_told, .ref h_o_shift, .int o_firstX, .int o_firstY, .int o_secondX, .int o_secondY, .ref h_o_rootOf, .ref h_o_becomes, .ref h_o_comes, .ref h_o_next, .int o_x])), (h_o_rootOf, .inl (ca 0, 64, .inl o_rootOf_r))] sz)) (va_Qi (fun r (_ : Unit) => r = res) (ds_B dC dI (va_A [(h_o, .inr (7, [.ref h_o_plans, .ref h_o_makers, .ref h_o_halves, .int o_raised, .ref h_o_all, .ref h_o_text, .ref h_o_saved, .ref h_o_undone, .int o_undos, .int o_reached, .int o_length, .int o_begin, .int o_letters, .int o_sort, .long o_word, .int o_wrongAt, .int o_badAt, .int o_bad, .ref h_o_told, .ref h_o_shift, .int o_firstX, .int o_firstY, .int o_secondX, .int o_secondY, .ref h_o_rootOf, .ref h_o_becomes, .ref h_o_comes, .ref h_o_next, .int o_x])), (h_o_rootOf, .inl (ca 0, 64, .inl o_rootOf_r))] sz) [(h_o, .inr (7, [.ref h_o_plans, .ref h_o_makers, .ref h_o_halves, .int o_raised, .ref h_o_all, .ref h_o_text, .ref h_o_saved, .ref h_o_undone, .int o_undos, .int o_reached, .int o_length, .int o_begin, .int o_letters, .int o_sort, .long o_word, .int o_wrongAt, .int o_badAt, .int o_bad, .ref h_o_told, .ref h_o_shift, .int o_firstX, .int o_firstY, .int o_secondX, .int o_secondY, .ref h_o_rootOf, .ref h_o_becomes, .ref h_o_comes, .ref h_o_next, .int o_x])), (h_o_rootOf, .inl (ca 0, 64, .inl o_rootOf_r))]) (va_A [(h_o, .inr (7, [.ref h_o_plans, .ref h_o_makers, .ref h_o_halves, .int o_raised, .ref h_o_all, .ref h_o_text, .ref h_o_saved, .ref h_o_undone, .int o_undos, .int o_reached, .int o_length, .int o_begin, .int o_letters, .int o_sort, .long o_word, .int o_wrongAt, .int o_badAt, .int o_bad, .ref h_o_told, .ref h_o_shift, .int o_firstX, .int o_firstY, .int o_secondX, .int o_secondY, .ref h_o_rootOf, .ref h_o_becomes, .ref h_o_comes, .ref h_o_next, .int o_x])), (h_o_rootOf, .inl (ca 0, 64, .inl o_rootOf_r))] sz)) 0 0 (va_A [(h_o, .inr (7, [.ref h_o_plans, .ref h_o_makers, .ref h_o_halves, .int o_raised, .ref h_o_all, .ref h_o_text, .ref h_o_saved, .ref h_o_undone, .int o_undos, .int o_reached, .int o_length, .int o_begin, .int o_letters, .int o_sort, .long o_word, .int o_wrongAt, .int o_badAt, .int o_bad, .ref h_o_told, .ref h_o_shift, .int o_firstX, .int o_firstY, .int o_secondX, .int o_secondY, .ref h_o_rootOf, .ref h_o_becomes, .ref h_o_comes, .ref h_o_next, .int o_x])), (h_o_rootOf, .inl (ca 0, 64, .inl o_rootOf_r))] sz) := by
  refine Met.ofW (cc := cX8_root) (maxL := 3) (ret := (some .int)) (by decide) rfl ?_
  intro p e s m args below meth c s₁ B hml hv
  obtain ⟨rfl, hsz, hP, hK, hD0, hE⟩ := hv
  have hx := B.exec
  have hb := B.bytes
  have hr := B.returns
  have hts := atoms_spec (ws := Cond.code yX8_root cX8_root 3 (some .int) :: ds_gw) B.pre
  have hg : ∀ {w : Cond}, w ∈ ds_gw → w.before _ s = true := fun h => hts _ (List.mem_cons_of_mem _ h)
  have hown : s.vm.findClass RX8 = some m.cls := findClass_of_methodNamed B.named
  have hlocks := B.notSynchronized
  subst hsz
  have hD := hD0.self (sz := s.heap.size)
  generalize hAe : va_A [(h_o, .inr (7, [.ref h_o_plans, .ref h_o_makers, .ref h_o_halves, .int o_raised, .ref h_o_all, .ref h_o_text, .ref h_o_saved, .ref h_o_undone, .int o_undos, .int o_reached, .int o_length, .int o_begin, .int o_letters, .int o_sort, .long o_word, .int o_wrongAt, .int o_badAt, .int o_bad, .ref h_o_told, .ref h_o_shift, .int o_firstX, .int o_firstY, .int o_secondX, .int o_secondY, .ref h_o_rootOf, .ref h_o_becomes, .ref h_o_comes, .ref h_o_next, .int o_x])), (h_o_rootOf, .inl (ca 0, 64, .inl o_rootOf_r))] s.heap.size = A at hD hE ⊢
  have hA : ∀ q : Nat, s.heap.size ≤ q → A q := fun q h => by rw [← hAe]; exact Or.inr h
  have hS : va_S A s.heap s.heap [] := va_S.rf
  have hl := lv_entry ([.ref h_o, .int p1]) (n := 3) (Nat.le_of_ble_eq_true rfl)
  rw [lg_entry_eq]
  generalize (lg_sl ([.ref h_o, .int p1]) ++ List.replicate (3 - (lg_sl ([.ref h_o, .int p1])).length) Slot.unset).toArray = ls at hl ⊢
  have hl : lv_has ls 3 [(0, .ref h_o), (1, .int p1)] := hl
  obtain ⟨G0, eG0⟩ : ∃ G : Int32 → Prop, G = (fun r => r = res) := ⟨_, rfl⟩
  obtain ⟨rr, hrr⟩ : ∃ z, z = res := ⟨_, rfl⟩
  rw [← hrr] at hf
  have hG : G0 rr := by subst eG0; exact hrr
  refine ds_cap (fun WW h1 h2 => ?_)
  have J_2 : ∀ (n : Nat) (v2 : Int32) (rr : Int32) (hf : ds_it (fun s => fX8_root_2_b o_rootOf_r s) n v2 = some rr) (hG : G0 rr) (H : Heap) (locs : List Loc) (hP : va_P (dC, dI) vwCl [(h_o, .inr (7, [.ref h_o_plans, .ref h_o_makers, .ref h_o_halves, .int o_raised, .ref h_o_all, .ref h_o_text, .ref h_o_saved, .ref h_o_undone, .int o_undos, .int o_reached, .int o_length, .int o_begin, .int o_letters, .int o_sort, .long o_word, .int o_wrongAt, .int o_badAt, .int o_bad, .ref h_o_told, .ref h_o_shift, .int o_firstX, .int o_firstY, .int o_secondX, .int o_secondY, .ref h_o_rootOf, .ref h_o_becomes, .ref h_o_comes, .ref h_o_next, .int o_x])), (h_o_rootOf, .inl (ca 0, 64, .inl o_rootOf_r))] H) (hD : va_D A [(h_o, .inr (7, [.ref h_o_plans, .ref h_o_makers, .ref h_o_halves, .int o_raised, .ref h_o_all, .ref h_o_text, .ref h_o_saved, .ref h_o_undone, .int o_undos, .int o_reached, .int o_length, .int o_begin, .int o_letters, .int o_sort, .long o_word, .int o_wrongAt, .int o_badAt, .int o_bad, .ref h_o_told, .ref h_o_shift, .int o_firstX, .int o_firstY, .int o_secondX, .int o_secondY, .ref h_o_rootOf, .ref h_o_becomes, .ref h_o_comes, .ref h_o_next, .int o_x])), (h_o_rootOf, .inl (ca 0, 64, .inl o_rootOf_r))]) (hS : va_S A s.heap H locs) (ls : Array Slot) (hl : lv_has ls 3 [(0, .ref h_o), (2, .int v2)]), WW H locs (F0 m 2 ls []) := by
    intro  n
    induction n with
    | zero => intro v2 rr hf; exact (ds_it_zero hf).elim
    | succ n ih2 =>
      intro v2 rr hf hG H locs hP hD hS ls hl
      refine h2 ?_
      obtain ⟨rr, hf, hG⟩ := ds_it_succ hf hG
      replace hf : fX8_root_2_b o_rootOf_r v2 = some rr := hf
      obtain ⟨G1, eG1⟩ : ∃ G : ((Int32) ⊕ (Int32)) → Prop, G = ds_G (fun s' => ∃ r', ds_it (fun s => fX8_root_2_b o_rootOf_r s) n s' = some r' ∧ G0 r') G0 := ⟨_, rfl⟩
      rw [← eG1] at hG
      unfold fX8_root_2_b at hf
      refine lv_aload_n hx hb dX8_root_2 rfl (lv_at hl 0 rfl) ?_
      refine va_get (D := (dC, dI)) (ci := 7) (v := .ref h_o_rootOf) (C := RX8) (T := TX8) (N := 29) hx hb hts (fun w h => List.mem_cons_of_mem _ (kc_X8 w h)) hown hK hP 0 rfl rfl 24 (by decide) (hg kw_739) (fun _ h9 => h9) rfl dX8_root_3 ?_
      refine lv_iload_n hx hb dX8_root_6 rfl (lv_at hl 1 rfl) ?_
      obtain ⟨i_7, hf⟩ := ds_ci hf
      refine va_iald hx hb hK hP 1 0 rfl rfl i_7 dX8_root_7 ?_
      refine lv_iload_n hx hb dX8_root_8 rfl (lv_at hl 1 rfl) ?_
      refine lv_icmp_eq (tgt := 22) hx hb dX8_root_9 (by decide) (fun c_9 => ?_) (fun c_9 => ?_)
      · replace hf := ds_t c_9 hf
        refine lv_iload_n hx hb dX8_root_22 rfl (lv_at hl 1 rfl) ?_
        have hf := Option.some.inj hf
        subst hf
        rw [eG1] at hG
        replace hG : G0 _ := hG
        rw [eG0] at hG
        have hG : _ = res := hG
        subst hG
        exact W.iret (v := v2) hx hb hr (fun t ht hW => ⟨⟨v2, (), rfl, rfl, by rw [ht]; exact hP, hD⟩, hS.F ht⟩) hS.2.2 dX8_root_23
      · replace hf := ds_f c_9 hf
        refine lv_aload_n hx hb dX8_root_12 rfl (lv_at hl 0 rfl) ?_
        refine va_get (D := (dC, dI)) (ci := 7) (v := .ref h_o_rootOf) (C := RX8) (T := TX8) (N := 29) hx hb hts (fun w h => List.mem_cons_of_mem _ (kc_X8 w h)) hown hK hP 0 rfl rfl 24 (by decide) (hg kw_739) (fun _ h9 => h9) rfl dX8_root_13 ?_
        refine lv_iload_n hx hb dX8_root_16 rfl (lv_at hl 1 rfl) ?_
        obtain ⟨i_17, hf⟩ := ds_ci hf
        refine va_iald hx hb hK hP 1 0 rfl rfl i_17 dX8_root_17 ?_
        refine lv_istore_n (lv' := [(2, .int (o_rootOf_r v2.toNatClampNeg)), (0, .ref h_o)]) hx hb dX8_root_18 rfl hl (by decide) rfl (fun ls hl => ?_)
        refine lv_goto (tgt := 2) hx hb dX8_root_19 (by decide) ?_
        have hf := Option.some.inj hf
        subst hf
        rw [eG1] at hG
        obtain ⟨rr, hf, hG⟩ := hG
        exact h1 (ih2 (o_rootOf_r v2.toNatClampNeg) rr hf hG _ _ hP hD hS _ (lv_sub hl [1, 0] rfl))
  unfold fX8_root at hf
  refine lv_iload_n hx hb dX8_root_0 rfl (lv_at hl 1 rfl) ?_
  refine lv_istore_n (lv' := [(2, .int p1), (0, .ref h_o), (1, .int p1)]) hx hb dX8_root_1 rfl hl (by decide) rfl (fun ls hl => ?_)
  exact h1 (J_2  1000 p1 _ hf hG _ _ hP hD hS _ (lv_sub hl [1, 0] rfl))
theorem dX8_joins_0 : decode cX8_joins 0 = .ok (.aload_n 0, 1) := by decide +kernel
theorem dX8_joins_1 : decode cX8_joins 1 = .ok (.iload_n 1, 1) := by decide +kernel
theorem dX8_joins_2 : decode cX8_joins 2 = .ok (.invokevirtual 207, 3) := by decide +kernel
theorem dX8_joins_5 : decode cX8_joins 5 = .ok (.istore_n 3, 1) := by decide +kernel
theorem dX8_joins_6 : decode cX8_joins 6 = .ok (.aload_n 0, 1) := by decide +kernel
theorem dX8_joins_7 : decode cX8_joins 7 = .ok (.iload_n 2, 1) := by decide +kernel
theorem dX8_joins_8 : decode cX8_joins 8 = .ok (.invokevirtual 207, 3) := by decide +kernel
theorem dX8_joins_11 : decode cX8_joins 11 = .ok (.istore 4, 2) := by decide +kernel
theorem dX8_joins_13 : decode cX8_joins 13 = .ok (.iload_n 3, 1) := by decide +kernel
theorem dX8_joins_14 : decode cX8_joins 14 = .ok (.iload 4, 2) := by decide +kernel
theorem dX8_joins_16 : decode cX8_joins 16 = .ok (.if_icmp .ge 14, 3) := by decide +kernel
theorem dX8_joins_19 : decode cX8_joins 19 = .ok (.aload_n 0, 1) := by decide +kernel
theorem dX8_joins_20 : decode cX8_joins 20 = .ok (.getfield 39, 3) := by decide +kernel
theorem dX8_joins_23 : decode cX8_joins 23 = .ok (.iload 4, 2) := by decide +kernel
theorem dX8_joins_25 : decode cX8_joins 25 = .ok (.iload_n 3, 1) := by decide +kernel
theorem dX8_joins_26 : decode cX8_joins 26 = .ok (.iastore, 1) := by decide +kernel
theorem dX8_joins_27 : decode cX8_joins 27 = .ok (.goto 11, 3) := by decide +kernel
theorem dX8_joins_30 : decode cX8_joins 30 = .ok (.aload_n 0, 1) := by decide +kernel
theorem dX8_joins_31 : decode cX8_joins 31 = .ok (.getfield 39, 3) := by decide +kernel
theorem dX8_joins_34 : decode cX8_joins 34 = .ok (.iload_n 3, 1) := by decide +kernel
theorem dX8_joins_35 : decode cX8_joins 35 = .ok (.iload 4, 2) := by decide +kernel
theorem dX8_joins_37 : decode cX8_joins 37 = .ok (.iastore, 1) := by decide +kernel
theorem dX8_joins_38 : decode cX8_joins 38 = .ok (.return_, 1) := by decide +kernel
def fX8_joins (o_rootOf_r : Nat → Int32) (p1 : Int32) (p2 : Int32) : Option ((Nat → Int32)) :=
  Option.bind (fX8_root o_rootOf_r p1) fun q2 => Option.bind (fX8_root o_rootOf_r p2) fun q8 => if q8 ≤ q2 then if ds_in q2 64 = true then some (upd o_rootOf_r q2.toNatClampNeg q8) else none else if ds_in q8 64 = true then some (upd o_rootOf_r q8.toNatClampNeg q2) else none
set_option maxHeartbeats 4000000 in
set_option maxRecDepth 100000 in
theorem c_X8_joins (l : Launch) (dC : Nat → ClassId) (dI : Nat → Nat → Nat) (ca : Nat → ClassId) (sa : Nat → Nat) (h_o : Nat) (h_o_plans : Nat) (h_o_makers : Nat) (h_o_halves : Nat) (h_o_all : Nat) (h_o_text : Nat) (h_o_saved : Nat) (h_o_undone : Nat) (h_o_told : Nat) (h_o_shift : Nat) (h_o_rootOf : Nat) (h_o_becomes : Nat) (h_o_comes : Nat) (h_o_next : Nat) (sz : Nat) (o_raised : Int32) (o_undos : Int32) (o_reached : Int32) (o_length : Int32) (o_begin : Int32) (o_letters : Int32) (o_sort : Int32) (o_word : Int64) (o_wrongAt : Int32) (o_badAt : Int32) (o_bad : Int32) (o_firstX : Int32) (o_firstY : Int32) (o_secondX : Int32) (o_secondY : Int32) (o_x : Int32) (o_rootOf_r : Nat → Int32) (p1 : Int32) (p2 : Int32) (res : (Nat → Int32)) (hf : fX8_joins o_rootOf_r p1 p2 = some res) : Met l yX8_joins (Cond.code yX8_joins cX8_joins 5 none :: ds_gw) { frames := 1, cells := 0, slots := 0, locals := 22 } (va_Pc [.ref h_o, .int p1, .int p2] (ds_Pre dC dI ca sa [(h_o, .inr (7, [.ref h_o_plans, .ref h_o_makers, .ref h_o_halves, .int o_raised, .ref h_o_all, .ref h_o_text, .ref h_o_saved, .ref h_o_undone, .int o_undos, .int o_reached, .int o_length, .int o_begin, .int o_letters, .int o_sort, .long o_word, .int o_wrongAt, .int o_badAt, .int o_bad, .ref h_o_told, .ref h_o_shift, .int o_firstX, .int o_firstY, .int o_secondX, .int o_secondY, .ref h_o_rootOf, .ref h_o_becomes, .ref h_o_comes, .ref h_o_next, .int o_x])), (h_o_rootOf, .inl (ca 0, 64, .inl o_rootOf_r))] sz)) (va_Qv (fun (_ : Unit) => True) (ds_B dC dI (va_A [(h_o, .inr (7, [.ref h_o_plans, .ref h_o_makers, .ref h_o_halves, .int o_raised, .ref h_o_all, .ref h_o_text, .ref h_o_saved, .ref h_o_undone, .int o_undos, .int o_reached, .int o_length, .int o_begin, .int o_letters, .int o_sort, .long o_word, .int o_wrongAt, .int o_badAt, .int o_bad, .ref h_o_told, .ref h_o_shift, .int o_firstX, .int o_firstY, .int o_secondX, .int o_secondY, .ref h_o_rootOf, .ref h_o_becomes, .ref h_o_comes, .ref h_o_next, .int o_x])), (h_o_rootOf, .inl (ca 0, 64, .inl o_rootOf_r))] sz) [(h_o, .inr (7, [.ref h_o_plans, .ref h_o_makers, .ref h_o_halves, .int o_raised, .ref h_o_all, .ref h_o_text, .ref h_o_saved, .ref h_o_undone, .int o_undos, .int o_reached, .int o_length, .int o_begin, .int o_letters, .int o_sort, .long o_word, .int o_wrongAt, .int o_badAt, .int o_bad, .ref h_o_told, .ref h_o_shift, .int o_firstX, .int o_firstY, .int o_secondX, .int o_secondY, .ref h_o_rootOf, .ref h_o_becomes, .ref h_o_comes, .ref h_o_next, .int o_x])), (h_o_rootOf, .inl (ca 0, 64, .inl res))]) (va_A [(h_o, .inr (7, [.ref h_o_plans, .ref h_o_makers, .ref h_o_halves, .int o_raised, .ref h_o_all, .ref h_o_text, .ref h_o_saved, .ref h_o_undone, .int o_undos, .int o_reached, .int o_length, .int o_begin, .int o_letters, .int o_sort, .long o_word, .int o_wrongAt, .int o_badAt, .int o_bad, .ref h_o_told, .ref h_o_shift, .int o_firstX, .int o_firstY, .int o_secondX, .int o_secondY, .ref h_o_rootOf, .ref h_o_becomes, .ref h_o_comes, .ref h_o_next, .int o_x])), (h_o_rootOf, .inl (ca 0, 64, .inl o_rootOf_r))] sz)) 0 0 (va_A [(h_o, .inr (7, [.ref h_o_plans, .ref h_o_makers, .ref h_o_halves, .int o_raised, .ref h_o_all, .ref h_o_text, .ref h_o_saved, .ref h_o_undone, .int o_undos, .int o_reached, .int o_length, .int o_begin, .int o_letters, .int o_sort, .long o_word, .int o_wrongAt, .int o_badAt, .int o_bad, .ref h_o_told, .ref h_o_shift, .int o_firstX, .int o_firstY, .int o_secondX, .int o_secondY, .ref h_o_rootOf, .ref h_o_becomes, .ref h_o_comes, .ref h_o_next, .int o_x])), (h_o_rootOf, .inl (ca 0, 64, .inl o_rootOf_r))] sz) := by
  refine Met.ofW (cc := cX8_joins) (maxL := 5) (ret := none) (by decide) rfl ?_
  intro p e s m args below meth c s₁ B hml hv
  obtain ⟨rfl, hsz, hP, hK, hD0, hE⟩ := hv
  have hx := B.exec
  have hb := B.bytes
  have hr := B.returns
  have hts := atoms_spec (ws := Cond.code yX8_joins cX8_joins 5 none :: ds_gw) B.pre
  have hg : ∀ {w : Cond}, w ∈ ds_gw → w.before _ s = true := fun h => hts _ (List.mem_cons_of_mem _ h)
  have hown : s.vm.findClass RX8 = some m.cls := findClass_of_methodNamed B.named
  have hlocks := B.notSynchronized
  subst hsz
  have hD := hD0.self (sz := s.heap.size)
  generalize hAe : va_A [(h_o, .inr (7, [.ref h_o_plans, .ref h_o_makers, .ref h_o_halves, .int o_raised, .ref h_o_all, .ref h_o_text, .ref h_o_saved, .ref h_o_undone, .int o_undos, .int o_reached, .int o_length, .int o_begin, .int o_letters, .int o_sort, .long o_word, .int o_wrongAt, .int o_badAt, .int o_bad, .ref h_o_told, .ref h_o_shift, .int o_firstX, .int o_firstY, .int o_secondX, .int o_secondY, .ref h_o_rootOf, .ref h_o_becomes, .ref h_o_comes, .ref h_o_next, .int o_x])), (h_o_rootOf, .inl (ca 0, 64, .inl o_rootOf_r))] s.heap.size = A at hD hE ⊢
  have hA : ∀ q : Nat, s.heap.size ≤ q → A q := fun q h => by rw [← hAe]; exact Or.inr h
  have hS : va_S A s.heap s.heap [] := va_S.rf
  have hl := lv_entry ([.ref h_o, .int p1, .int p2]) (n := 5) (Nat.le_of_ble_eq_true rfl)
  rw [lg_entry_eq]
  generalize (lg_sl ([.ref h_o, .int p1, .int p2]) ++ List.replicate (5 - (lg_sl ([.ref h_o, .int p1, .int p2])).length) Slot.unset).toArray = ls at hl ⊢
  have hl : lv_has ls 5 [(0, .ref h_o), (1, .int p1), (2, .int p2)] := hl
  obtain ⟨G0, eG0⟩ : ∃ G : ((Nat → Int32)) → Prop, G = (fun r => r = res) := ⟨_, rfl⟩
  obtain ⟨rr, hrr⟩ : ∃ z, z = res := ⟨_, rfl⟩
  rw [← hrr] at hf
  have hG : G0 rr := by subst eG0; exact hrr
  unfold fX8_joins at hf
  refine lv_aload_n hx hb dX8_joins_0 rfl (lv_at hl 0 rfl) ?_
  refine lv_iload_n hx hb dX8_joins_1 rfl (lv_at hl 1 rfl) ?_
  obtain ⟨q2, hq2, hf⟩ := ds_ob hf
  refine ds_calli (wr := []) (va_runV (As := [.int p1]) (rest := []) ⟨hx, hb, hml, hown, hts⟩ (c_X8_root l dC dI ca sa h_o h_o_plans h_o_makers h_o_halves h_o_all h_o_text h_o_saved h_o_undone h_o_told h_o_shift h_o_rootOf h_o_becomes h_o_comes h_o_next s.heap.size o_raised o_undos o_reached o_length o_begin o_letters o_sort o_word o_wrongAt o_badAt o_bad o_firstX o_firstY o_secondX o_secondY o_x o_rootOf_r p1 q2 hq2) (cwV 1 hts (ds_gV kw_740 kw_741 kw_742 kw_597 kw_743) rfl rfl rfl (by decide +kernel) ⟨Nat.le_of_ble_eq_true rfl, Nat.le_of_ble_eq_true rfl⟩) ⟨ds_blind, va_recv hK hP (ci := 7) (q0 := 0) rfl rfl, ds_at hP hD hK hE hS hA [0, 1] rfl rfl _⟩ rfl rfl hl.1 rfl (lv_room (Nat.le_of_ble_eq_true rfl)) dX8_joins_2 ⟨Nat.zero_le _, Nat.zero_le _⟩) hP hD hS hA [0, 1] [] rfl rfl rfl (by decide) (fun H locs hP hD hS => ?_)
  have hP : va_P (dC, dI) vwCl [(h_o, .inr (7, [.ref h_o_plans, .ref h_o_makers, .ref h_o_halves, .int o_raised, .ref h_o_all, .ref h_o_text, .ref h_o_saved, .ref h_o_undone, .int o_undos, .int o_reached, .int o_length, .int o_begin, .int o_letters, .int o_sort, .long o_word, .int o_wrongAt, .int o_badAt, .int o_bad, .ref h_o_told, .ref h_o_shift, .int o_firstX, .int o_firstY, .int o_secondX, .int o_secondY, .ref h_o_rootOf, .ref h_o_becomes, .ref h_o_comes, .ref h_o_next, .int o_x])), (h_o_rootOf, .inl (ca 0, 64, .inl o_rootOf_r))] H := hP
  have hD : va_D A [(h_o, .inr (7, [.ref h_o_plans, .ref h_o_makers, .ref h_o_halves, .int o_raised, .ref h_o_all, .ref h_o_text, .ref h_o_saved, .ref h_o_undone, .int o_undos, .int o_reached, .int o_length, .int o_begin, .int o_letters, .int o_sort, .long o_word, .int o_wrongAt, .int o_badAt, .int o_bad, .ref h_o_told, .ref h_o_shift, .int o_firstX, .int o_firstY, .int o_secondX, .int o_secondY, .ref h_o_rootOf, .ref h_o_becomes, .ref h_o_comes, .ref h_o_next, .int o_x])), (h_o_rootOf, .inl (ca 0, 64, .inl o_rootOf_r))] := hD
  refine lv_istore_n (lv' := [(3, .int q2), (0, .ref h_o), (1, .int p1), (2, .int p2)]) hx hb dX8_joins_5 rfl hl (by decide) rfl (fun ls hl => ?_)
  refine lv_aload_n hx hb dX8_joins_6 rfl (lv_at hl 1 rfl) ?_
  refine lv_iload_n hx hb dX8_joins_7 rfl (lv_at hl 3 rfl) ?_
  obtain ⟨q8, hq8, hf⟩ := ds_ob hf
  refine ds_calli (wr := []) (va_runV (As := [.int p2]) (rest := []) ⟨hx, hb, hml, hown, hts⟩ (c_X8_root l dC dI ca sa h_o h_o_plans h_o_makers h_o_halves h_o_all h_o_text h_o_saved h_o_undone h_o_told h_o_shift h_o_rootOf h_o_becomes h_o_comes h_o_next H.size o_raised o_undos o_reached o_length o_begin o_letters o_sort o_word o_wrongAt o_badAt o_bad o_firstX o_firstY o_secondX o_secondY o_x o_rootOf_r p2 q8 hq8) (cwV 1 hts (ds_gV kw_740 kw_741 kw_742 kw_597 kw_743) rfl rfl rfl (by decide +kernel) ⟨Nat.le_of_ble_eq_true rfl, Nat.le_of_ble_eq_true rfl⟩) ⟨ds_blind, va_recv hK hP (ci := 7) (q0 := 0) rfl rfl, ds_at hP hD hK hE hS hA [0, 1] rfl rfl _⟩ rfl rfl hl.1 rfl (lv_room (Nat.le_of_ble_eq_true rfl)) dX8_joins_8 ⟨Nat.zero_le _, Nat.zero_le _⟩) hP hD hS hA [0, 1] [] rfl rfl rfl (by decide) (fun H locs hP hD hS => ?_)
  have hP : va_P (dC, dI) vwCl [(h_o, .inr (7, [.ref h_o_plans, .ref h_o_makers, .ref h_o_halves, .int o_raised, .ref h_o_all, .ref h_o_text, .ref h_o_saved, .ref h_o_undone, .int o_undos, .int o_reached, .int o_length, .int o_begin, .int o_letters, .int o_sort, .long o_word, .int o_wrongAt, .int o_badAt, .int o_bad, .ref h_o_told, .ref h_o_shift, .int o_firstX, .int o_firstY, .int o_secondX, .int o_secondY, .ref h_o_rootOf, .ref h_o_becomes, .ref h_o_comes, .ref h_o_next, .int o_x])), (h_o_rootOf, .inl (ca 0, 64, .inl o_rootOf_r))] H := hP
  have hD : va_D A [(h_o, .inr (7, [.ref h_o_plans, .ref h_o_makers, .ref h_o_halves, .int o_raised, .ref h_o_all, .ref h_o_text, .ref h_o_saved, .ref h_o_undone, .int o_undos, .int o_reached, .int o_length, .int o_begin, .int o_letters, .int o_sort, .long o_word, .int o_wrongAt, .int o_badAt, .int o_bad, .ref h_o_told, .ref h_o_shift, .int o_firstX, .int o_firstY, .int o_secondX, .int o_secondY, .ref h_o_rootOf, .ref h_o_becomes, .ref h_o_comes, .ref h_o_next, .int o_x])), (h_o_rootOf, .inl (ca 0, 64, .inl o_rootOf_r))] := hD
  refine lv_istore (lv' := [(4, .int q8), (3, .int q2), (0, .ref h_o), (1, .int p1), (2, .int p2)]) hx hb dX8_joins_11 hl (by decide) rfl (fun ls hl => ?_)
  refine lv_iload_n hx hb dX8_joins_13 rfl (lv_at hl 1 rfl) ?_
  refine lv_iload hx hb dX8_joins_14 (lv_at hl 0 rfl) ?_
  refine lv_icmp_ge (tgt := 30) hx hb dX8_joins_16 (by decide) (fun c_16 => ?_) (fun c_16 => ?_)
  · replace hf := ds_t c_16 hf
    refine lv_aload_n hx hb dX8_joins_30 rfl (lv_at hl 2 rfl) ?_
    refine va_get (D := (dC, dI)) (ci := 7) (v := .ref h_o_rootOf) (C := RX8) (T := TX8) (N := 29) hx hb hts (fun w h => List.mem_cons_of_mem _ (kc_X8 w h)) hown hK hP 0 rfl rfl 24 (by decide) (hg kw_739) (fun _ h9 => h9) rfl dX8_joins_31 ?_
    refine lv_iload_n hx hb dX8_joins_34 rfl (lv_at hl 1 rfl) ?_
    refine lv_iload hx hb dX8_joins_35 (lv_at hl 0 rfl) ?_
    obtain ⟨i_37, hf⟩ := ds_ci hf
    refine va_iast hx hb hK hP hD hS 1 0 rfl rfl i_37 dX8_joins_37 (fun H locs hP hD hS => ?_)
    have hP : va_P (dC, dI) vwCl [(h_o, .inr (7, [.ref h_o_plans, .ref h_o_makers, .ref h_o_halves, .int o_raised, .ref h_o_all, .ref h_o_text, .ref h_o_saved, .ref h_o_undone, .int o_undos, .int o_reached, .int o_length, .int o_begin, .int o_letters, .int o_sort, .long o_word, .int o_wrongAt, .int o_badAt, .int o_bad, .ref h_o_told, .ref h_o_shift, .int o_firstX, .int o_firstY, .int o_secondX, .int o_secondY, .ref h_o_rootOf, .ref h_o_becomes, .ref h_o_comes, .ref h_o_next, .int o_x])), (h_o_rootOf, .inl (ca 0, 64, .inl (upd o_rootOf_r q2.toNatClampNeg q8)))] H := hP
    have hD : va_D A [(h_o, .inr (7, [.ref h_o_plans, .ref h_o_makers, .ref h_o_halves, .int o_raised, .ref h_o_all, .ref h_o_text, .ref h_o_saved, .ref h_o_undone, .int o_undos, .int o_reached, .int o_length, .int o_begin, .int o_letters, .int o_sort, .long o_word, .int o_wrongAt, .int o_badAt, .int o_bad, .ref h_o_told, .ref h_o_shift, .int o_firstX, .int o_firstY, .int o_secondX, .int o_secondY, .ref h_o_rootOf, .ref h_o_becomes, .ref h_o_comes, .ref h_o_next, .int o_x])), (h_o_rootOf, .inl (ca 0, 64, .inl (upd o_rootOf_r q2.toNatClampNeg q8)))] := hD
    have hf := Option.some.inj hf
    subst hf
    rw [eG0] at hG
    have hG : _ = res := hG
    subst hG
    exact W.vret hx hb hr (fun t ht hW => ⟨⟨(), rfl, trivial, by rw [ht]; exact hP, hD⟩, hS.F ht⟩) hS.2.2 dX8_joins_38
  · replace hf := ds_f c_16 hf
    refine lv_aload_n hx hb dX8_joins_19 rfl (lv_at hl 2 rfl) ?_
    refine va_get (D := (dC, dI)) (ci := 7) (v := .ref h_o_rootOf) (C := RX8) (T := TX8) (N := 29) hx hb hts (fun w h => List.mem_cons_of_mem _ (kc_X8 w h)) hown hK hP 0 rfl rfl 24 (by decide) (hg kw_739) (fun _ h9 => h9) rfl dX8_joins_20 ?_
    refine lv_iload hx hb dX8_joins_23 (lv_at hl 0 rfl) ?_
    refine lv_iload_n hx hb dX8_joins_25 rfl (lv_at hl 1 rfl) ?_
    obtain ⟨i_26, hf⟩ := ds_ci hf
    refine va_iast hx hb hK hP hD hS 1 0 rfl rfl i_26 dX8_joins_26 (fun H locs hP hD hS => ?_)
    have hP : va_P (dC, dI) vwCl [(h_o, .inr (7, [.ref h_o_plans, .ref h_o_makers, .ref h_o_halves, .int o_raised, .ref h_o_all, .ref h_o_text, .ref h_o_saved, .ref h_o_undone, .int o_undos, .int o_reached, .int o_length, .int o_begin, .int o_letters, .int o_sort, .long o_word, .int o_wrongAt, .int o_badAt, .int o_bad, .ref h_o_told, .ref h_o_shift, .int o_firstX, .int o_firstY, .int o_secondX, .int o_secondY, .ref h_o_rootOf, .ref h_o_becomes, .ref h_o_comes, .ref h_o_next, .int o_x])), (h_o_rootOf, .inl (ca 0, 64, .inl (upd o_rootOf_r q8.toNatClampNeg q2)))] H := hP
    have hD : va_D A [(h_o, .inr (7, [.ref h_o_plans, .ref h_o_makers, .ref h_o_halves, .int o_raised, .ref h_o_all, .ref h_o_text, .ref h_o_saved, .ref h_o_undone, .int o_undos, .int o_reached, .int o_length, .int o_begin, .int o_letters, .int o_sort, .long o_word, .int o_wrongAt, .int o_badAt, .int o_bad, .ref h_o_told, .ref h_o_shift, .int o_firstX, .int o_firstY, .int o_secondX, .int o_secondY, .ref h_o_rootOf, .ref h_o_becomes, .ref h_o_comes, .ref h_o_next, .int o_x])), (h_o_rootOf, .inl (ca 0, 64, .inl (upd o_rootOf_r q8.toNatClampNeg q2)))] := hD
    refine lv_goto (tgt := 38) hx hb dX8_joins_27 (by decide) ?_
    have hf := Option.some.inj hf
    subst hf
    rw [eG0] at hG
    have hG : _ = res := hG
    subst hG
    exact W.vret hx hb hr (fun t ht hW => ⟨⟨(), rfl, trivial, by rw [ht]; exact hP, hD⟩, hS.F ht⟩) hS.2.2 dX8_joins_38
theorem dX8_alone_0 : decode cX8_alone 0 = .ok (.iconst 0, 1) := by decide +kernel
theorem dX8_alone_1 : decode cX8_alone 1 = .ok (.istore_n 1, 1) := by decide +kernel
theorem dX8_alone_2 : decode cX8_alone 2 = .ok (.iload_n 1, 1) := by decide +kernel
theorem dX8_alone_3 : decode cX8_alone 3 = .ok (.bipush 64, 2) := by decide +kernel
theorem dX8_alone_5 : decode cX8_alone 5 = .ok (.if_icmp .ge 16, 3) := by decide +kernel
theorem dX8_alone_8 : decode cX8_alone 8 = .ok (.aload_n 0, 1) := by decide +kernel
theorem dX8_alone_9 : decode cX8_alone 9 = .ok (.getfield 39, 3) := by decide +kernel
theorem dX8_alone_12 : decode cX8_alone 12 = .ok (.iload_n 1, 1) := by decide +kernel
theorem dX8_alone_13 : decode cX8_alone 13 = .ok (.iload_n 1, 1) := by decide +kernel
theorem dX8_alone_14 : decode cX8_alone 14 = .ok (.iastore, 1) := by decide +kernel
theorem dX8_alone_15 : decode cX8_alone 15 = .ok (.iinc 1 1, 3) := by decide +kernel
theorem dX8_alone_18 : decode cX8_alone 18 = .ok (.goto (-16), 3) := by decide +kernel
theorem dX8_alone_21 : decode cX8_alone 21 = .ok (.return_, 1) := by decide +kernel
def fX8_alone_2_b (v1 : Int32) (o_rootOf_r : Nat → Int32) : Option ((Int32 × (Nat → Int32)) ⊕ ((Nat → Int32))) :=
  if (64 : Int32) ≤ v1 then some (.inr o_rootOf_r) else if ds_in v1 64 = true then some (.inl ((v1 + 1), (upd o_rootOf_r v1.toNatClampNeg v1))) else none
def fX8_alone_2 (v1 : Int32) (o_rootOf_r : Nat → Int32) : Option ((Nat → Int32)) := ds_it (fun s => fX8_alone_2_b s.1 s.2) 1000 (v1, o_rootOf_r)
def fX8_alone (o_rootOf_r : Nat → Int32) : Option ((Nat → Int32)) :=
  fX8_alone_2 (0 : Int32) o_rootOf_r
set_option maxHeartbeats 4000000 in
set_option maxRecDepth 100000 in
theorem c_X8_alone (l : Launch) (dC : Nat → ClassId) (dI : Nat → Nat → Nat) (ca : Nat → ClassId) (sa : Nat → Nat) (h_o : Nat) (h_o_plans : Nat) (h_o_makers : Nat) (h_o_halves : Nat) (h_o_all : Nat) (h_o_text : Nat) (h_o_saved : Nat) (h_o_undone : Nat) (h_o_told : Nat) (h_o_shift : Nat) (h_o_rootOf : Nat) (h_o_becomes : Nat) (h_o_comes : Nat) (h_o_next : Nat) (sz : Nat) (o_raised : Int32) (o_undos : Int32) (o_reached : Int32) (o_length : Int32) (o_begin : Int32) (o_letters : Int32) (o_sort : Int32) (o_word : Int64) (o_wrongAt : Int32) (o_badAt : Int32) (o_bad : Int32) (o_firstX : Int32) (o_firstY : Int32) (o_secondX : Int32) (o_secondY : Int32) (o_x : Int32) (o_rootOf_r : Nat → Int32) (res : (Nat → Int32)) (hf : fX8_alone o_rootOf_r = some res) : Met l yX8_alone (Cond.code yX8_alone cX8_alone 2 none :: ds_gw) { frames := 0, cells := 0, slots := 0, locals := 0 } (va_Pc [.ref h_o] (ds_Pre dC dI ca sa [(h_o, .inr (7, [.ref h_o_plans, .ref h_o_makers, .ref h_o_halves, .int o_raised, .ref h_o_all, .ref h_o_text, .ref h_o_saved, .ref h_o_undone, .int o_undos, .int o_reached, .int o_length, .int o_begin, .int o_letters, .int o_sort, .long o_word, .int o_wrongAt, .int o_badAt, .int o_bad, .ref h_o_told, .ref h_o_shift, .int o_firstX, .int o_firstY, .int o_secondX, .int o_secondY, .ref h_o_rootOf, .ref h_o_becomes, .ref h_o_comes, .ref h_o_next, .int o_x])), (h_o_rootOf, .inl (ca 0, 64, .inl o_rootOf_r))] sz)) (va_Qv (fun (_ : Unit) => True) (ds_B dC dI (va_A [(h_o, .inr (7, [.ref h_o_plans, .ref h_o_makers, .ref h_o_halves, .int o_raised, .ref h_o_all, .ref h_o_text, .ref h_o_saved, .ref h_o_undone, .int o_undos, .int o_reached, .int o_length, .int o_begin, .int o_letters, .int o_sort, .long o_word, .int o_wrongAt, .int o_badAt, .int o_bad, .ref h_o_told, .ref h_o_shift, .int o_firstX, .int o_firstY, .int o_secondX, .int o_secondY, .ref h_o_rootOf, .ref h_o_becomes, .ref h_o_comes, .ref h_o_next, .int o_x])), (h_o_rootOf, .inl (ca 0, 64, .inl o_rootOf_r))] sz) [(h_o, .inr (7, [.ref h_o_plans, .ref h_o_makers, .ref h_o_halves, .int o_raised, .ref h_o_all, .ref h_o_text, .ref h_o_saved, .ref h_o_undone, .int o_undos, .int o_reached, .int o_length, .int o_begin, .int o_letters, .int o_sort, .long o_word, .int o_wrongAt, .int o_badAt, .int o_bad, .ref h_o_told, .ref h_o_shift, .int o_firstX, .int o_firstY, .int o_secondX, .int o_secondY, .ref h_o_rootOf, .ref h_o_becomes, .ref h_o_comes, .ref h_o_next, .int o_x])), (h_o_rootOf, .inl (ca 0, 64, .inl res))]) (va_A [(h_o, .inr (7, [.ref h_o_plans, .ref h_o_makers, .ref h_o_halves, .int o_raised, .ref h_o_all, .ref h_o_text, .ref h_o_saved, .ref h_o_undone, .int o_undos, .int o_reached, .int o_length, .int o_begin, .int o_letters, .int o_sort, .long o_word, .int o_wrongAt, .int o_badAt, .int o_bad, .ref h_o_told, .ref h_o_shift, .int o_firstX, .int o_firstY, .int o_secondX, .int o_secondY, .ref h_o_rootOf, .ref h_o_becomes, .ref h_o_comes, .ref h_o_next, .int o_x])), (h_o_rootOf, .inl (ca 0, 64, .inl o_rootOf_r))] sz)) 0 0 (va_A [(h_o, .inr (7, [.ref h_o_plans, .ref h_o_makers, .ref h_o_halves, .int o_raised, .ref h_o_all, .ref h_o_text, .ref h_o_saved, .ref h_o_undone, .int o_undos, .int o_reached, .int o_length, .int o_begin, .int o_letters, .int o_sort, .long o_word, .int o_wrongAt, .int o_badAt, .int o_bad, .ref h_o_told, .ref h_o_shift, .int o_firstX, .int o_firstY, .int o_secondX, .int o_secondY, .ref h_o_rootOf, .ref h_o_becomes, .ref h_o_comes, .ref h_o_next, .int o_x])), (h_o_rootOf, .inl (ca 0, 64, .inl o_rootOf_r))] sz) := by
  refine Met.ofW (cc := cX8_alone) (maxL := 2) (ret := none) (by decide) rfl ?_
  intro p e s m args below meth c s₁ B hml hv
  obtain ⟨rfl, hsz, hP, hK, hD0, hE⟩ := hv
  have hx := B.exec
  have hb := B.bytes
  have hr := B.returns
  have hts := atoms_spec (ws := Cond.code yX8_alone cX8_alone 2 none :: ds_gw) B.pre
  have hg : ∀ {w : Cond}, w ∈ ds_gw → w.before _ s = true := fun h => hts _ (List.mem_cons_of_mem _ h)
  have hown : s.vm.findClass RX8 = some m.cls := findClass_of_methodNamed B.named
  have hlocks := B.notSynchronized
  subst hsz
  have hD := hD0.self (sz := s.heap.size)
  generalize hAe : va_A [(h_o, .inr (7, [.ref h_o_plans, .ref h_o_makers, .ref h_o_halves, .int o_raised, .ref h_o_all, .ref h_o_text, .ref h_o_saved, .ref h_o_undone, .int o_undos, .int o_reached, .int o_length, .int o_begin, .int o_letters, .int o_sort, .long o_word, .int o_wrongAt, .int o_badAt, .int o_bad, .ref h_o_told, .ref h_o_shift, .int o_firstX, .int o_firstY, .int o_secondX, .int o_secondY, .ref h_o_rootOf, .ref h_o_becomes, .ref h_o_comes, .ref h_o_next, .int o_x])), (h_o_rootOf, .inl (ca 0, 64, .inl o_rootOf_r))] s.heap.size = A at hD hE ⊢
  have hA : ∀ q : Nat, s.heap.size ≤ q → A q := fun q h => by rw [← hAe]; exact Or.inr h
  have hS : va_S A s.heap s.heap [] := va_S.rf
  have hl := lv_entry ([.ref h_o]) (n := 2) (Nat.le_of_ble_eq_true rfl)
  rw [lg_entry_eq]
  generalize (lg_sl ([.ref h_o]) ++ List.replicate (2 - (lg_sl ([.ref h_o])).length) Slot.unset).toArray = ls at hl ⊢
  have hl : lv_has ls 2 [(0, .ref h_o)] := hl
  obtain ⟨G0, eG0⟩ : ∃ G : ((Nat → Int32)) → Prop, G = (fun r => r = res) := ⟨_, rfl⟩
  obtain ⟨rr, hrr⟩ : ∃ z, z = res := ⟨_, rfl⟩
  rw [← hrr] at hf
  have hG : G0 rr := by subst eG0; exact hrr
  refine ds_cap (fun WW h1 h2 => ?_)
  have J_2 : ∀ (n : Nat) (v1 : Int32) (o_rootOf_r : Nat → Int32) (rr : (Nat → Int32)) (hf : ds_it (fun s => fX8_alone_2_b s.1 s.2) n (v1, o_rootOf_r) = some rr) (hG : G0 rr) (H : Heap) (locs : List Loc) (hP : va_P (dC, dI) vwCl [(h_o, .inr (7, [.ref h_o_plans, .ref h_o_makers, .ref h_o_halves, .int o_raised, .ref h_o_all, .ref h_o_text, .ref h_o_saved, .ref h_o_undone, .int o_undos, .int o_reached, .int o_length, .int o_begin, .int o_letters, .int o_sort, .long o_word, .int o_wrongAt, .int o_badAt, .int o_bad, .ref h_o_told, .ref h_o_shift, .int o_firstX, .int o_firstY, .int o_secondX, .int o_secondY, .ref h_o_rootOf, .ref h_o_becomes, .ref h_o_comes, .ref h_o_next, .int o_x])), (h_o_rootOf, .inl (ca 0, 64, .inl o_rootOf_r))] H) (hD : va_D A [(h_o, .inr (7, [.ref h_o_plans, .ref h_o_makers, .ref h_o_halves, .int o_raised, .ref h_o_all, .ref h_o_text, .ref h_o_saved, .ref h_o_undone, .int o_undos, .int o_reached, .int o_length, .int o_begin, .int o_letters, .int o_sort, .long o_word, .int o_wrongAt, .int o_badAt, .int o_bad, .ref h_o_told, .ref h_o_shift, .int o_firstX, .int o_firstY, .int o_secondX, .int o_secondY, .ref h_o_rootOf, .ref h_o_becomes, .ref h_o_comes, .ref h_o_next, .int o_x])), (h_o_rootOf, .inl (ca 0, 64, .inl o_rootOf_r))]) (hS : va_S A s.heap H locs) (ls : Array Slot) (hl : lv_has ls 2 [(0, .ref h_o), (1, .int v1)]), WW H locs (F0 m 2 ls []) := by
    intro  n
    induction n with
    | zero => intro v1 o_rootOf_r rr hf; exact (ds_it_zero hf).elim
    | succ n ih2 =>
      intro v1 o_rootOf_r rr hf hG H locs hP hD hS ls hl
      refine h2 ?_
      obtain ⟨rr, hf, hG⟩ := ds_it_succ hf hG
      replace hf : fX8_alone_2_b v1 o_rootOf_r = some rr := hf
      obtain ⟨G1, eG1⟩ : ∃ G : ((Int32 × (Nat → Int32)) ⊕ ((Nat → Int32))) → Prop, G = ds_G (fun s' => ∃ r', ds_it (fun s => fX8_alone_2_b s.1 s.2) n s' = some r' ∧ G0 r') G0 := ⟨_, rfl⟩
      rw [← eG1] at hG
      unfold fX8_alone_2_b at hf
      refine lv_iload_n hx hb dX8_alone_2 rfl (lv_at hl 1 rfl) ?_
      refine lv_bipush (v := 64) hx hb dX8_alone_3 (by decide) ?_
      refine lv_icmp_ge (tgt := 21) hx hb dX8_alone_5 (by decide) (fun c_5 => ?_) (fun c_5 => ?_)
      · replace hf := ds_t c_5 hf
        have hf := Option.some.inj hf
        subst hf
        rw [eG1] at hG
        replace hG : G0 _ := hG
        rw [eG0] at hG
        have hG : _ = res := hG
        subst hG
        exact W.vret hx hb hr (fun t ht hW => ⟨⟨(), rfl, trivial, by rw [ht]; exact hP, hD⟩, hS.F ht⟩) hS.2.2 dX8_alone_21
      · replace hf := ds_f c_5 hf
        refine lv_aload_n hx hb dX8_alone_8 rfl (lv_at hl 0 rfl) ?_
        refine va_get (D := (dC, dI)) (ci := 7) (v := .ref h_o_rootOf) (C := RX8) (T := TX8) (N := 29) hx hb hts (fun w h => List.mem_cons_of_mem _ (kc_X8 w h)) hown hK hP 0 rfl rfl 24 (by decide) (hg kw_739) (fun _ h9 => h9) rfl dX8_alone_9 ?_
        refine lv_iload_n hx hb dX8_alone_12 rfl (lv_at hl 1 rfl) ?_
        refine lv_iload_n hx hb dX8_alone_13 rfl (lv_at hl 1 rfl) ?_
        obtain ⟨i_14, hf⟩ := ds_ci hf
        refine va_iast hx hb hK hP hD hS 1 0 rfl rfl i_14 dX8_alone_14 (fun H locs hP hD hS => ?_)
        have hP : va_P (dC, dI) vwCl [(h_o, .inr (7, [.ref h_o_plans, .ref h_o_makers, .ref h_o_halves, .int o_raised, .ref h_o_all, .ref h_o_text, .ref h_o_saved, .ref h_o_undone, .int o_undos, .int o_reached, .int o_length, .int o_begin, .int o_letters, .int o_sort, .long o_word, .int o_wrongAt, .int o_badAt, .int o_bad, .ref h_o_told, .ref h_o_shift, .int o_firstX, .int o_firstY, .int o_secondX, .int o_secondY, .ref h_o_rootOf, .ref h_o_becomes, .ref h_o_comes, .ref h_o_next, .int o_x])), (h_o_rootOf, .inl (ca 0, 64, .inl (upd o_rootOf_r v1.toNatClampNeg v1)))] H := hP
        have hD : va_D A [(h_o, .inr (7, [.ref h_o_plans, .ref h_o_makers, .ref h_o_halves, .int o_raised, .ref h_o_all, .ref h_o_text, .ref h_o_saved, .ref h_o_undone, .int o_undos, .int o_reached, .int o_length, .int o_begin, .int o_letters, .int o_sort, .long o_word, .int o_wrongAt, .int o_badAt, .int o_bad, .ref h_o_told, .ref h_o_shift, .int o_firstX, .int o_firstY, .int o_secondX, .int o_secondY, .ref h_o_rootOf, .ref h_o_becomes, .ref h_o_comes, .ref h_o_next, .int o_x])), (h_o_rootOf, .inl (ca 0, 64, .inl (upd o_rootOf_r v1.toNatClampNeg v1)))] := hD
        refine lv_iinc (v := (v1 + 1)) (lv' := [(1, .int (v1 + 1)), (0, .ref h_o)]) hx hb dX8_alone_15 hl (k := 1) rfl rfl (by decide) rfl (fun ls hl => ?_)
        refine lv_goto (tgt := 2) hx hb dX8_alone_18 (by decide) ?_
        have hf := Option.some.inj hf
        subst hf
        rw [eG1] at hG
        obtain ⟨rr, hf, hG⟩ := hG
        exact h1 (ih2 (v1 + 1) (upd o_rootOf_r v1.toNatClampNeg v1) rr hf hG _ _ hP hD hS _ (lv_sub hl [1, 0] rfl))
  unfold fX8_alone at hf
  refine lv_iconst (v := 0) hx hb dX8_alone_0 (by decide) ?_
  refine lv_istore_n (lv' := [(1, .int (0 : Int32)), (0, .ref h_o)]) hx hb dX8_alone_1 rfl hl (by decide) rfl (fun ls hl => ?_)
  exact h1 (J_2  1000 (0 : Int32) o_rootOf_r _ hf hG _ _ hP hD hS _ (lv_sub hl [1, 0] rfl))
theorem dX8_joinsBy_0 : decode cX8_joinsBy 0 = .ok (.iconst 0, 1) := by decide +kernel
theorem dX8_joinsBy_1 : decode cX8_joinsBy 1 = .ok (.istore 4, 2) := by decide +kernel
theorem dX8_joinsBy_3 : decode cX8_joinsBy 3 = .ok (.iload 4, 2) := by decide +kernel
theorem dX8_joinsBy_5 : decode cX8_joinsBy 5 = .ok (.aload_n 0, 1) := by decide +kernel
theorem dX8_joinsBy_6 : decode cX8_joinsBy 6 = .ok (.getfield 19, 3) := by decide +kernel
theorem dX8_joinsBy_9 : decode cX8_joinsBy 9 = .ok (.iconst 1, 1) := by decide +kernel
theorem dX8_joinsBy_10 : decode cX8_joinsBy 10 = .ok (.iaload, 1) := by decide +kernel
theorem dX8_joinsBy_11 : decode cX8_joinsBy 11 = .ok (.if_icmp .ge 67, 3) := by decide +kernel
theorem dX8_joinsBy_14 : decode cX8_joinsBy 14 = .ok (.iconst 0, 1) := by decide +kernel
theorem dX8_joinsBy_15 : decode cX8_joinsBy 15 = .ok (.istore 5, 2) := by decide +kernel
theorem dX8_joinsBy_17 : decode cX8_joinsBy 17 = .ok (.iload 5, 2) := by decide +kernel
theorem dX8_joinsBy_19 : decode cX8_joinsBy 19 = .ok (.aload_n 0, 1) := by decide +kernel
theorem dX8_joinsBy_20 : decode cX8_joinsBy 20 = .ok (.getfield 19, 3) := by decide +kernel
theorem dX8_joinsBy_23 : decode cX8_joinsBy 23 = .ok (.iconst 0, 1) := by decide +kernel
theorem dX8_joinsBy_24 : decode cX8_joinsBy 24 = .ok (.iaload, 1) := by decide +kernel
theorem dX8_joinsBy_25 : decode cX8_joinsBy 25 = .ok (.if_icmp .ge 47, 3) := by decide +kernel
theorem dX8_joinsBy_28 : decode cX8_joinsBy 28 = .ok (.aload_n 0, 1) := by decide +kernel
theorem dX8_joinsBy_29 : decode cX8_joinsBy 29 = .ok (.bipush 8, 2) := by decide +kernel
theorem dX8_joinsBy_31 : decode cX8_joinsBy 31 = .ok (.iload 4, 2) := by decide +kernel
theorem dX8_joinsBy_33 : decode cX8_joinsBy 33 = .ok (.imul, 1) := by decide +kernel
theorem dX8_joinsBy_34 : decode cX8_joinsBy 34 = .ok (.iload 5, 2) := by decide +kernel
theorem dX8_joinsBy_36 : decode cX8_joinsBy 36 = .ok (.iadd, 1) := by decide +kernel
theorem dX8_joinsBy_37 : decode cX8_joinsBy 37 = .ok (.aload_n 0, 1) := by decide +kernel
theorem dX8_joinsBy_38 : decode cX8_joinsBy 38 = .ok (.aload_n 0, 1) := by decide +kernel
theorem dX8_joinsBy_39 : decode cX8_joinsBy 39 = .ok (.iload_n 1, 1) := by decide +kernel
theorem dX8_joinsBy_40 : decode cX8_joinsBy 40 = .ok (.iload 5, 2) := by decide +kernel
theorem dX8_joinsBy_42 : decode cX8_joinsBy 42 = .ok (.iload 4, 2) := by decide +kernel
theorem dX8_joinsBy_44 : decode cX8_joinsBy 44 = .ok (.invokevirtual 130, 3) := by decide +kernel
theorem dX8_joinsBy_47 : decode cX8_joinsBy 47 = .ok (.iload_n 2, 1) := by decide +kernel
theorem dX8_joinsBy_48 : decode cX8_joinsBy 48 = .ok (.iadd, 1) := by decide +kernel
theorem dX8_joinsBy_49 : decode cX8_joinsBy 49 = .ok (.aload_n 0, 1) := by decide +kernel
theorem dX8_joinsBy_50 : decode cX8_joinsBy 50 = .ok (.iload_n 1, 1) := by decide +kernel
theorem dX8_joinsBy_51 : decode cX8_joinsBy 51 = .ok (.iload 5, 2) := by decide +kernel
theorem dX8_joinsBy_53 : decode cX8_joinsBy 53 = .ok (.iload 4, 2) := by decide +kernel
theorem dX8_joinsBy_55 : decode cX8_joinsBy 55 = .ok (.invokevirtual 134, 3) := by decide +kernel
theorem dX8_joinsBy_58 : decode cX8_joinsBy 58 = .ok (.iload_n 3, 1) := by decide +kernel
theorem dX8_joinsBy_59 : decode cX8_joinsBy 59 = .ok (.iadd, 1) := by decide +kernel
theorem dX8_joinsBy_60 : decode cX8_joinsBy 60 = .ok (.invokevirtual 59, 3) := by decide +kernel
theorem dX8_joinsBy_63 : decode cX8_joinsBy 63 = .ok (.invokevirtual 210, 3) := by decide +kernel
theorem dX8_joinsBy_66 : decode cX8_joinsBy 66 = .ok (.iinc 5 1, 3) := by decide +kernel
theorem dX8_joinsBy_69 : decode cX8_joinsBy 69 = .ok (.goto (-52), 3) := by decide +kernel
theorem dX8_joinsBy_72 : decode cX8_joinsBy 72 = .ok (.iinc 4 1, 3) := by decide +kernel
theorem dX8_joinsBy_75 : decode cX8_joinsBy 75 = .ok (.goto (-72), 3) := by decide +kernel
theorem dX8_joinsBy_78 : decode cX8_joinsBy 78 = .ok (.return_, 1) := by decide +kernel
def fX8_joinsBy_72 (o_rootOf_r : Nat → Int32) (v4 : Int32) : Option ((Int32 × (Nat → Int32)) ⊕ ((Nat → Int32))) :=
  some (.inl ((v4 + 1), o_rootOf_r))
def fX8_joinsBy_17_b (o_all_r : Nat → Int32) (o_plans_r : Nat → Int32) (p1 : Int32) (p2 : Int32) (p3 : Int32) (v4 : Int32) (v5 : Int32) (o_rootOf_r : Nat → Int32) : Option ((Int32 × (Nat → Int32)) ⊕ ((Int32 × (Nat → Int32)) ⊕ ((Nat → Int32)))) :=
  if (o_all_r (0 : Int32).toNatClampNeg) ≤ v5 then Option.bind (fX8_joinsBy_72 o_rootOf_r v4) fun z => some (.inr z) else Option.bind (fX8_turnX o_all_r o_plans_r p1 v5 v4) fun q44 => Option.bind (fX8_turnY o_all_r o_plans_r p1 v5 v4) fun q55 => Option.bind (fX8_at o_all_r (q44 + p2) (q55 + p3)) fun q60 => Option.bind (fX8_joins o_rootOf_r (((8 : Int32) * v4) + v5) q60) fun q63 => some (.inl ((v5 + 1), q63))
def fX8_joinsBy_17 (o_all_r : Nat → Int32) (o_plans_r : Nat → Int32) (p1 : Int32) (p2 : Int32) (p3 : Int32) (v4 : Int32) (v5 : Int32) (o_rootOf_r : Nat → Int32) : Option ((Int32 × (Nat → Int32)) ⊕ ((Nat → Int32))) := ds_it (fun s => fX8_joinsBy_17_b o_all_r o_plans_r p1 p2 p3 v4 s.1 s.2) 1000 (v5, o_rootOf_r)
def fX8_joinsBy_3_b (o_all_r : Nat → Int32) (o_plans_r : Nat → Int32) (p1 : Int32) (p2 : Int32) (p3 : Int32) (v4 : Int32) (o_rootOf_r : Nat → Int32) : Option ((Int32 × (Nat → Int32)) ⊕ ((Nat → Int32))) :=
  if (o_all_r (1 : Int32).toNatClampNeg) ≤ v4 then some (.inr o_rootOf_r) else fX8_joinsBy_17 o_all_r o_plans_r p1 p2 p3 v4 (0 : Int32) o_rootOf_r
def fX8_joinsBy_3 (o_all_r : Nat → Int32) (o_plans_r : Nat → Int32) (p1 : Int32) (p2 : Int32) (p3 : Int32) (v4 : Int32) (o_rootOf_r : Nat → Int32) : Option ((Nat → Int32)) := ds_it (fun s => fX8_joinsBy_3_b o_all_r o_plans_r p1 p2 p3 s.1 s.2) 1000 (v4, o_rootOf_r)
def fX8_joinsBy (o_all_r : Nat → Int32) (o_plans_r : Nat → Int32) (o_rootOf_r : Nat → Int32) (p1 : Int32) (p2 : Int32) (p3 : Int32) : Option ((Nat → Int32)) :=
  fX8_joinsBy_3 o_all_r o_plans_r p1 p2 p3 (0 : Int32) o_rootOf_r
set_option maxHeartbeats 4000000 in
set_option maxRecDepth 100000 in
theorem c_X8_joinsBy (l : Launch) (dC : Nat → ClassId) (dI : Nat → Nat → Nat) (ca : Nat → ClassId) (sa : Nat → Nat) (h_o : Nat) (h_o_plans : Nat) (h_o_makers : Nat) (h_o_halves : Nat) (h_o_all : Nat) (h_o_text : Nat) (h_o_saved : Nat) (h_o_undone : Nat) (h_o_told : Nat) (h_o_shift : Nat) (h_o_rootOf : Nat) (h_o_becomes : Nat) (h_o_comes : Nat) (h_o_next : Nat) (sz : Nat) (o_raised : Int32) (o_undos : Int32) (o_reached : Int32) (o_length : Int32) (o_begin : Int32) (o_letters : Int32) (o_sort : Int32) (o_word : Int64) (o_wrongAt : Int32) (o_badAt : Int32) (o_bad : Int32) (o_firstX : Int32) (o_firstY : Int32) (o_secondX : Int32) (o_secondY : Int32) (o_x : Int32) (o_all_r : Nat → Int32) (o_plans_r : Nat → Int32) (o_rootOf_r : Nat → Int32) (p1 : Int32) (p2 : Int32) (p3 : Int32) (res : (Nat → Int32)) (hf : fX8_joinsBy o_all_r o_plans_r o_rootOf_r p1 p2 p3 = some res) : Met l yX8_joinsBy (Cond.code yX8_joinsBy cX8_joinsBy 6 none :: ds_gw) { frames := 2, cells := 0, slots := 0, locals := 46 } (va_Pc [.ref h_o, .int p1, .int p2, .int p3] (ds_Pre dC dI ca sa [(h_o, .inr (7, [.ref h_o_plans, .ref h_o_makers, .ref h_o_halves, .int o_raised, .ref h_o_all, .ref h_o_text, .ref h_o_saved, .ref h_o_undone, .int o_undos, .int o_reached, .int o_length, .int o_begin, .int o_letters, .int o_sort, .long o_word, .int o_wrongAt, .int o_badAt, .int o_bad, .ref h_o_told, .ref h_o_shift, .int o_firstX, .int o_firstY, .int o_secondX, .int o_secondY, .ref h_o_rootOf, .ref h_o_becomes, .ref h_o_comes, .ref h_o_next, .int o_x])), (h_o_all, .inl (ca 0, 350, .inl o_all_r)), (h_o_plans, .inl (ca 0, 80, .inl o_plans_r)), (h_o_rootOf, .inl (ca 0, 64, .inl o_rootOf_r))] sz)) (va_Qv (fun (_ : Unit) => True) (ds_B dC dI (va_A [(h_o, .inr (7, [.ref h_o_plans, .ref h_o_makers, .ref h_o_halves, .int o_raised, .ref h_o_all, .ref h_o_text, .ref h_o_saved, .ref h_o_undone, .int o_undos, .int o_reached, .int o_length, .int o_begin, .int o_letters, .int o_sort, .long o_word, .int o_wrongAt, .int o_badAt, .int o_bad, .ref h_o_told, .ref h_o_shift, .int o_firstX, .int o_firstY, .int o_secondX, .int o_secondY, .ref h_o_rootOf, .ref h_o_becomes, .ref h_o_comes, .ref h_o_next, .int o_x])), (h_o_all, .inl (ca 0, 350, .inl o_all_r)), (h_o_plans, .inl (ca 0, 80, .inl o_plans_r)), (h_o_rootOf, .inl (ca 0, 64, .inl o_rootOf_r))] sz) [(h_o, .inr (7, [.ref h_o_plans, .ref h_o_makers, .ref h_o_halves, .int o_raised, .ref h_o_all, .ref h_o_text, .ref h_o_saved, .ref h_o_undone, .int o_undos, .int o_reached, .int o_length, .int o_begin, .int o_letters, .int o_sort, .long o_word, .int o_wrongAt, .int o_badAt, .int o_bad, .ref h_o_told, .ref h_o_shift, .int o_firstX, .int o_firstY, .int o_secondX, .int o_secondY, .ref h_o_rootOf, .ref h_o_becomes, .ref h_o_comes, .ref h_o_next, .int o_x])), (h_o_all, .inl (ca 0, 350, .inl o_all_r)), (h_o_plans, .inl (ca 0, 80, .inl o_plans_r)), (h_o_rootOf, .inl (ca 0, 64, .inl res))]) (va_A [(h_o, .inr (7, [.ref h_o_plans, .ref h_o_makers, .ref h_o_halves, .int o_raised, .ref h_o_all, .ref h_o_text, .ref h_o_saved, .ref h_o_undone, .int o_undos, .int o_reached, .int o_length, .int o_begin, .int o_letters, .int o_sort, .long o_word, .int o_wrongAt, .int o_badAt, .int o_bad, .ref h_o_told, .ref h_o_shift, .int o_firstX, .int o_firstY, .int o_secondX, .int o_secondY, .ref h_o_rootOf, .ref h_o_becomes, .ref h_o_comes, .ref h_o_next, .int o_x])), (h_o_all, .inl (ca 0, 350, .inl o_all_r)), (h_o_plans, .inl (ca 0, 80, .inl o_plans_r)), (h_o_rootOf, .inl (ca 0, 64, .inl o_rootOf_r))] sz)) 0 0 (va_A [(h_o, .inr (7, [.ref h_o_plans, .ref h_o_makers, .ref h_o_halves, .int o_raised, .ref h_o_all, .ref h_o_text, .ref h_o_saved, .ref h_o_undone, .int o_undos, .int o_reached, .int o_length, .int o_begin, .int o_letters, .int o_sort, .long o_word, .int o_wrongAt, .int o_badAt, .int o_bad, .ref h_o_told, .ref h_o_shift, .int o_firstX, .int o_firstY, .int o_secondX, .int o_secondY, .ref h_o_rootOf, .ref h_o_becomes, .ref h_o_comes, .ref h_o_next, .int o_x])), (h_o_all, .inl (ca 0, 350, .inl o_all_r)), (h_o_plans, .inl (ca 0, 80, .inl o_plans_r)), (h_o_rootOf, .inl (ca 0, 64, .inl o_rootOf_r))] sz) := by
  refine Met.ofW (cc := cX8_joinsBy) (maxL := 6) (ret := none) (by decide) rfl ?_
  intro p e s m args below meth c s₁ B hml hv
  obtain ⟨rfl, hsz, hP, hK, hD0, hE⟩ := hv
  have hx := B.exec
  have hb := B.bytes
  have hr := B.returns
  have hts := atoms_spec (ws := Cond.code yX8_joinsBy cX8_joinsBy 6 none :: ds_gw) B.pre
  have hg : ∀ {w : Cond}, w ∈ ds_gw → w.before _ s = true := fun h => hts _ (List.mem_cons_of_mem _ h)
  have hown : s.vm.findClass RX8 = some m.cls := findClass_of_methodNamed B.named
  have hlocks := B.notSynchronized
  subst hsz
  have hD := hD0.self (sz := s.heap.size)
  generalize hAe : va_A [(h_o, .inr (7, [.ref h_o_plans, .ref h_o_makers, .ref h_o_halves, .int o_raised, .ref h_o_all, .ref h_o_text, .ref h_o_saved, .ref h_o_undone, .int o_undos, .int o_reached, .int o_length, .int o_begin, .int o_letters, .int o_sort, .long o_word, .int o_wrongAt, .int o_badAt, .int o_bad, .ref h_o_told, .ref h_o_shift, .int o_firstX, .int o_firstY, .int o_secondX, .int o_secondY, .ref h_o_rootOf, .ref h_o_becomes, .ref h_o_comes, .ref h_o_next, .int o_x])), (h_o_all, .inl (ca 0, 350, .inl o_all_r)), (h_o_plans, .inl (ca 0, 80, .inl o_plans_r)), (h_o_rootOf, .inl (ca 0, 64, .inl o_rootOf_r))] s.heap.size = A at hD hE ⊢
  have hA : ∀ q : Nat, s.heap.size ≤ q → A q := fun q h => by rw [← hAe]; exact Or.inr h
  have hS : va_S A s.heap s.heap [] := va_S.rf
  have hl := lv_entry ([.ref h_o, .int p1, .int p2, .int p3]) (n := 6) (Nat.le_of_ble_eq_true rfl)
  rw [lg_entry_eq]
  generalize (lg_sl ([.ref h_o, .int p1, .int p2, .int p3]) ++ List.replicate (6 - (lg_sl ([.ref h_o, .int p1, .int p2, .int p3])).length) Slot.unset).toArray = ls at hl ⊢
  have hl : lv_has ls 6 [(0, .ref h_o), (1, .int p1), (2, .int p2), (3, .int p3)] := hl
  obtain ⟨G0, eG0⟩ : ∃ G : ((Nat → Int32)) → Prop, G = (fun r => r = res) := ⟨_, rfl⟩
  obtain ⟨rr, hrr⟩ : ∃ z, z = res := ⟨_, rfl⟩
  rw [← hrr] at hf
  have hG : G0 rr := by subst eG0; exact hrr
  refine ds_cap (fun WW h1 h2 => ?_)
  have J_3 : ∀ (n : Nat) (v4 : Int32) (o_rootOf_r : Nat → Int32) (rr : (Nat → Int32)) (hf : ds_it (fun s => fX8_joinsBy_3_b o_all_r o_plans_r p1 p2 p3 s.1 s.2) n (v4, o_rootOf_r) = some rr) (hG : G0 rr) (H : Heap) (locs : List Loc) (hP : va_P (dC, dI) vwCl [(h_o, .inr (7, [.ref h_o_plans, .ref h_o_makers, .ref h_o_halves, .int o_raised, .ref h_o_all, .ref h_o_text, .ref h_o_saved, .ref h_o_undone, .int o_undos, .int o_reached, .int o_length, .int o_begin, .int o_letters, .int o_sort, .long o_word, .int o_wrongAt, .int o_badAt, .int o_bad, .ref h_o_told, .ref h_o_shift, .int o_firstX, .int o_firstY, .int o_secondX, .int o_secondY, .ref h_o_rootOf, .ref h_o_becomes, .ref h_o_comes, .ref h_o_next, .int o_x])), (h_o_all, .inl (ca 0, 350, .inl o_all_r)), (h_o_plans, .inl (ca 0, 80, .inl o_plans_r)), (h_o_rootOf, .inl (ca 0, 64, .inl o_rootOf_r))] H) (hD : va_D A [(h_o, .inr (7, [.ref h_o_plans, .ref h_o_makers, .ref h_o_halves, .int o_raised, .ref h_o_all, .ref h_o_text, .ref h_o_saved, .ref h_o_undone, .int o_undos, .int o_reached, .int o_length, .int o_begin, .int o_letters, .int o_sort, .long o_word, .int o_wrongAt, .int o_badAt, .int o_bad, .ref h_o_told, .ref h_o_shift, .int o_firstX, .int o_firstY, .int o_secondX, .int o_secondY, .ref h_o_rootOf, .ref h_o_becomes, .ref h_o_comes, .ref h_o_next, .int o_x])), (h_o_all, .inl (ca 0, 350, .inl o_all_r)), (h_o_plans, .inl (ca 0, 80, .inl o_plans_r)), (h_o_rootOf, .inl (ca 0, 64, .inl o_rootOf_r))]) (hS : va_S A s.heap H locs) (ls : Array Slot) (hl : lv_has ls 6 [(0, .ref h_o), (1, .int p1), (2, .int p2), (3, .int p3), (4, .int v4)]), WW H locs (F0 m 3 ls []) := by
    intro  n
    induction n with
    | zero => intro v4 o_rootOf_r rr hf; exact (ds_it_zero hf).elim
    | succ n ih3 =>
      intro v4 o_rootOf_r rr hf hG H locs hP hD hS ls hl
      refine h2 ?_
      obtain ⟨rr, hf, hG⟩ := ds_it_succ hf hG
      replace hf : fX8_joinsBy_3_b o_all_r o_plans_r p1 p2 p3 v4 o_rootOf_r = some rr := hf
      obtain ⟨G1, eG1⟩ : ∃ G : ((Int32 × (Nat → Int32)) ⊕ ((Nat → Int32))) → Prop, G = ds_G (fun s' => ∃ r', ds_it (fun s => fX8_joinsBy_3_b o_all_r o_plans_r p1 p2 p3 s.1 s.2) n s' = some r' ∧ G0 r') G0 := ⟨_, rfl⟩
      rw [← eG1] at hG
      have J_72 : ∀ (v4 : Int32) (o_rootOf_r : Nat → Int32) (rr : (Int32 × (Nat → Int32)) ⊕ ((Nat → Int32))) (hf : fX8_joinsBy_72 o_rootOf_r v4 = some rr) (hG : G1 rr) (H : Heap) (locs : List Loc) (hP : va_P (dC, dI) vwCl [(h_o, .inr (7, [.ref h_o_plans, .ref h_o_makers, .ref h_o_halves, .int o_raised, .ref h_o_all, .ref h_o_text, .ref h_o_saved, .ref h_o_undone, .int o_undos, .int o_reached, .int o_length, .int o_begin, .int o_letters, .int o_sort, .long o_word, .int o_wrongAt, .int o_badAt, .int o_bad, .ref h_o_told, .ref h_o_shift, .int o_firstX, .int o_firstY, .int o_secondX, .int o_secondY, .ref h_o_rootOf, .ref h_o_becomes, .ref h_o_comes, .ref h_o_next, .int o_x])), (h_o_all, .inl (ca 0, 350, .inl o_all_r)), (h_o_plans, .inl (ca 0, 80, .inl o_plans_r)), (h_o_rootOf, .inl (ca 0, 64, .inl o_rootOf_r))] H) (hD : va_D A [(h_o, .inr (7, [.ref h_o_plans, .ref h_o_makers, .ref h_o_halves, .int o_raised, .ref h_o_all, .ref h_o_text, .ref h_o_saved, .ref h_o_undone, .int o_undos, .int o_reached, .int o_length, .int o_begin, .int o_letters, .int o_sort, .long o_word, .int o_wrongAt, .int o_badAt, .int o_bad, .ref h_o_told, .ref h_o_shift, .int o_firstX, .int o_firstY, .int o_secondX, .int o_secondY, .ref h_o_rootOf, .ref h_o_becomes, .ref h_o_comes, .ref h_o_next, .int o_x])), (h_o_all, .inl (ca 0, 350, .inl o_all_r)), (h_o_plans, .inl (ca 0, 80, .inl o_plans_r)), (h_o_rootOf, .inl (ca 0, 64, .inl o_rootOf_r))]) (hS : va_S A s.heap H locs) (ls : Array Slot) (hl : lv_has ls 6 [(0, .ref h_o), (1, .int p1), (2, .int p2), (3, .int p3), (4, .int v4)]), WW H locs (F0 m 72 ls []) := by
        intro v4 o_rootOf_r rr hf hG H locs hP hD hS ls hl
        refine h2 ?_
        unfold fX8_joinsBy_72 at hf
        refine lv_iinc (v := (v4 + 1)) (lv' := [(4, .int (v4 + 1)), (0, .ref h_o), (1, .int p1), (2, .int p2), (3, .int p3)]) hx hb dX8_joinsBy_72 hl (k := 4) rfl rfl (by decide) rfl (fun ls hl => ?_)
        refine lv_goto (tgt := 3) hx hb dX8_joinsBy_75 (by decide) ?_
        have hf := Option.some.inj hf
        subst hf
        rw [eG1] at hG
        obtain ⟨rr, hf, hG⟩ := hG
        exact h1 (ih3 (v4 + 1) o_rootOf_r rr hf hG _ _ hP hD hS _ (lv_sub hl [1, 2, 3, 4, 0] rfl))
      have J_17 : ∀ (v4 : Int32) (n : Nat) (v5 : Int32) (o_rootOf_r : Nat → Int32) (rr : (Int32 × (Nat → Int32)) ⊕ ((Nat → Int32))) (hf : ds_it (fun s => fX8_joinsBy_17_b o_all_r o_plans_r p1 p2 p3 v4 s.1 s.2) n (v5, o_rootOf_r) = some rr) (hG : G1 rr) (H : Heap) (locs : List Loc) (hP : va_P (dC, dI) vwCl [(h_o, .inr (7, [.ref h_o_plans, .ref h_o_makers, .ref h_o_halves, .int o_raised, .ref h_o_all, .ref h_o_text, .ref h_o_saved, .ref h_o_undone, .int o_undos, .int o_reached, .int o_length, .int o_begin, .int o_letters, .int o_sort, .long o_word, .int o_wrongAt, .int o_badAt, .int o_bad, .ref h_o_told, .ref h_o_shift, .int o_firstX, .int o_firstY, .int o_secondX, .int o_secondY, .ref h_o_rootOf, .ref h_o_becomes, .ref h_o_comes, .ref h_o_next, .int o_x])), (h_o_all, .inl (ca 0, 350, .inl o_all_r)), (h_o_plans, .inl (ca 0, 80, .inl o_plans_r)), (h_o_rootOf, .inl (ca 0, 64, .inl o_rootOf_r))] H) (hD : va_D A [(h_o, .inr (7, [.ref h_o_plans, .ref h_o_makers, .ref h_o_halves, .int o_raised, .ref h_o_all, .ref h_o_text, .ref h_o_saved, .ref h_o_undone, .int o_undos, .int o_reached, .int o_length, .int o_begin, .int o_letters, .int o_sort, .long o_word, .int o_wrongAt, .int o_badAt, .int o_bad, .ref h_o_told, .ref h_o_shift, .int o_firstX, .int o_firstY, .int o_secondX, .int o_secondY, .ref h_o_rootOf, .ref h_o_becomes, .ref h_o_comes, .ref h_o_next, .int o_x])), (h_o_all, .inl (ca 0, 350, .inl o_all_r)), (h_o_plans, .inl (ca 0, 80, .inl o_plans_r)), (h_o_rootOf, .inl (ca 0, 64, .inl o_rootOf_r))]) (hS : va_S A s.heap H locs) (ls : Array Slot) (hl : lv_has ls 6 [(0, .ref h_o), (1, .int p1), (2, .int p2), (3, .int p3), (4, .int v4), (5, .int v5)]), WW H locs (F0 m 17 ls []) := by
        intro v4 n
        induction n with
        | zero => intro v5 o_rootOf_r rr hf; exact (ds_it_zero hf).elim
        | succ n ih17 =>
          intro v5 o_rootOf_r rr hf hG H locs hP hD hS ls hl
          refine h2 ?_
          obtain ⟨rr, hf, hG⟩ := ds_it_succ hf hG
          replace hf : fX8_joinsBy_17_b o_all_r o_plans_r p1 p2 p3 v4 v5 o_rootOf_r = some rr := hf
          obtain ⟨G2, eG2⟩ : ∃ G : ((Int32 × (Nat → Int32)) ⊕ ((Int32 × (Nat → Int32)) ⊕ ((Nat → Int32)))) → Prop, G = ds_G (fun s' => ∃ r', ds_it (fun s => fX8_joinsBy_17_b o_all_r o_plans_r p1 p2 p3 v4 s.1 s.2) n s' = some r' ∧ G1 r') G1 := ⟨_, rfl⟩
          rw [← eG2] at hG
          unfold fX8_joinsBy_17_b at hf
          refine lv_iload hx hb dX8_joinsBy_17 (lv_at hl 5 rfl) ?_
          refine lv_aload_n hx hb dX8_joinsBy_19 rfl (lv_at hl 0 rfl) ?_
          refine va_get (D := (dC, dI)) (ci := 7) (v := .ref h_o_all) (C := RX8) (T := TX8) (N := 29) hx hb hts (fun w h => List.mem_cons_of_mem _ (kc_X8 w h)) hown hK hP 0 rfl rfl 4 (by decide) (hg kw_594) (fun _ h9 => h9) rfl dX8_joinsBy_20 ?_
          refine lv_iconst (v := 0) hx hb dX8_joinsBy_23 (by decide) ?_
          refine va_iald hx hb hK hP 1 0 rfl rfl (ds_in_ok (i := 0) (n := 350) (by decide)) dX8_joinsBy_24 ?_
          refine lv_icmp_ge (tgt := 72) hx hb dX8_joinsBy_25 (by decide) (fun c_25 => ?_) (fun c_25 => ?_)
          · replace hf := ds_t c_25 hf
            obtain ⟨rr, hr_0, hf⟩ := ds_ob hf
            have hf := Option.some.inj hf
            subst hf
            rw [eG2] at hG
            replace hG : G1 rr := hG
            have hf := hr_0
            exact h1 (J_72 v4 o_rootOf_r _ hf hG _ _ hP hD hS _ (lv_sub hl [0, 1, 2, 3, 4] rfl))
          · replace hf := ds_f c_25 hf
            refine lv_aload_n hx hb dX8_joinsBy_28 rfl (lv_at hl 0 rfl) ?_
            refine lv_bipush (v := 8) hx hb dX8_joinsBy_29 (by decide) ?_
            refine lv_iload hx hb dX8_joinsBy_31 (lv_at hl 4 rfl) ?_
            refine lv_imul hx hb dX8_joinsBy_33 ?_
            refine lv_iload hx hb dX8_joinsBy_34 (lv_at hl 5 rfl) ?_
            refine lv_iadd hx hb dX8_joinsBy_36 ?_
            refine lv_aload_n hx hb dX8_joinsBy_37 rfl (lv_at hl 0 rfl) ?_
            refine lv_aload_n hx hb dX8_joinsBy_38 rfl (lv_at hl 0 rfl) ?_
            refine lv_iload_n hx hb dX8_joinsBy_39 rfl (lv_at hl 1 rfl) ?_
            refine lv_iload hx hb dX8_joinsBy_40 (lv_at hl 5 rfl) ?_
            refine lv_iload hx hb dX8_joinsBy_42 (lv_at hl 4 rfl) ?_
            obtain ⟨q44, hq44, hf⟩ := ds_ob hf
            refine ds_calli (wr := [(h_o_rootOf, .inl (ca 0, 64, .inl o_rootOf_r))]) (va_runV (As := [.int p1, .int v5, .int v4]) (rest := [.ref h_o, .int (((8 : Int32) * v4) + v5), .ref h_o]) ⟨hx, hb, hml, hown, hts⟩ (c_X8_turnX l dC dI ca sa h_o h_o_plans h_o_makers h_o_halves h_o_all h_o_text h_o_saved h_o_undone h_o_told h_o_shift h_o_rootOf h_o_becomes h_o_comes h_o_next H.size o_raised o_undos o_reached o_length o_begin o_letters o_sort o_word o_wrongAt o_badAt o_bad o_firstX o_firstY o_secondX o_secondY o_x o_all_r o_plans_r p1 v5 v4 q44 hq44) (cwV 3 hts (ds_gV kw_655 kw_656 kw_657 kw_597 kw_658) rfl rfl rfl (by decide +kernel) ⟨Nat.le_of_ble_eq_true rfl, Nat.le_of_ble_eq_true rfl⟩) ⟨ds_blind, va_recv hK hP (ci := 7) (q0 := 0) rfl rfl, ds_at hP hD hK hE hS hA [0, 1, 2] rfl rfl _⟩ rfl rfl hl.1 rfl (lv_room (Nat.le_of_ble_eq_true rfl)) dX8_joinsBy_44 ⟨Nat.zero_le _, Nat.zero_le _⟩) hP hD hS hA [0, 1, 2] [3] rfl rfl rfl (by decide) (fun H locs hP hD hS => ?_)
            have hP : va_P (dC, dI) vwCl [(h_o_rootOf, .inl (ca 0, 64, .inl o_rootOf_r)), (h_o, .inr (7, [.ref h_o_plans, .ref h_o_makers, .ref h_o_halves, .int o_raised, .ref h_o_all, .ref h_o_text, .ref h_o_saved, .ref h_o_undone, .int o_undos, .int o_reached, .int o_length, .int o_begin, .int o_letters, .int o_sort, .long o_word, .int o_wrongAt, .int o_badAt, .int o_bad, .ref h_o_told, .ref h_o_shift, .int o_firstX, .int o_firstY, .int o_secondX, .int o_secondY, .ref h_o_rootOf, .ref h_o_becomes, .ref h_o_comes, .ref h_o_next, .int o_x])), (h_o_all, .inl (ca 0, 350, .inl o_all_r)), (h_o_plans, .inl (ca 0, 80, .inl o_plans_r))] H := hP
            have hD : va_D A [(h_o_rootOf, .inl (ca 0, 64, .inl o_rootOf_r)), (h_o, .inr (7, [.ref h_o_plans, .ref h_o_makers, .ref h_o_halves, .int o_raised, .ref h_o_all, .ref h_o_text, .ref h_o_saved, .ref h_o_undone, .int o_undos, .int o_reached, .int o_length, .int o_begin, .int o_letters, .int o_sort, .long o_word, .int o_wrongAt, .int o_badAt, .int o_bad, .ref h_o_told, .ref h_o_shift, .int o_firstX, .int o_firstY, .int o_secondX, .int o_secondY, .ref h_o_rootOf, .ref h_o_becomes, .ref h_o_comes, .ref h_o_next, .int o_x])), (h_o_all, .inl (ca 0, 350, .inl o_all_r)), (h_o_plans, .inl (ca 0, 80, .inl o_plans_r))] := hD
            refine lv_iload_n hx hb dX8_joinsBy_47 rfl (lv_at hl 2 rfl) ?_
            refine lv_iadd hx hb dX8_joinsBy_48 ?_
            refine lv_aload_n hx hb dX8_joinsBy_49 rfl (lv_at hl 0 rfl) ?_
            refine lv_iload_n hx hb dX8_joinsBy_50 rfl (lv_at hl 1 rfl) ?_
            refine lv_iload hx hb dX8_joinsBy_51 (lv_at hl 5 rfl) ?_
            refine lv_iload hx hb dX8_joinsBy_53 (lv_at hl 4 rfl) ?_
            obtain ⟨q55, hq55, hf⟩ := ds_ob hf
            refine ds_calli (wr := [(h_o_rootOf, .inl (ca 0, 64, .inl o_rootOf_r))]) (va_runV (As := [.int p1, .int v5, .int v4]) (rest := [.int (q44 + p2), .ref h_o, .int (((8 : Int32) * v4) + v5), .ref h_o]) ⟨hx, hb, hml, hown, hts⟩ (c_X8_turnY l dC dI ca sa h_o h_o_plans h_o_makers h_o_halves h_o_all h_o_text h_o_saved h_o_undone h_o_told h_o_shift h_o_rootOf h_o_becomes h_o_comes h_o_next H.size o_raised o_undos o_reached o_length o_begin o_letters o_sort o_word o_wrongAt o_badAt o_bad o_firstX o_firstY o_secondX o_secondY o_x o_all_r o_plans_r p1 v5 v4 q55 hq55) (cwV 3 hts (ds_gV kw_659 kw_660 kw_661 kw_597 kw_662) rfl rfl rfl (by decide +kernel) ⟨Nat.le_of_ble_eq_true rfl, Nat.le_of_ble_eq_true rfl⟩) ⟨ds_blind, va_recv hK hP (ci := 7) (q0 := 1) rfl rfl, ds_at hP hD hK hE hS hA [1, 2, 3] rfl rfl _⟩ rfl rfl hl.1 rfl (lv_room (Nat.le_of_ble_eq_true rfl)) dX8_joinsBy_55 ⟨Nat.zero_le _, Nat.zero_le _⟩) hP hD hS hA [1, 2, 3] [0] rfl rfl rfl (by decide) (fun H locs hP hD hS => ?_)
            have hP : va_P (dC, dI) vwCl [(h_o_rootOf, .inl (ca 0, 64, .inl o_rootOf_r)), (h_o, .inr (7, [.ref h_o_plans, .ref h_o_makers, .ref h_o_halves, .int o_raised, .ref h_o_all, .ref h_o_text, .ref h_o_saved, .ref h_o_undone, .int o_undos, .int o_reached, .int o_length, .int o_begin, .int o_letters, .int o_sort, .long o_word, .int o_wrongAt, .int o_badAt, .int o_bad, .ref h_o_told, .ref h_o_shift, .int o_firstX, .int o_firstY, .int o_secondX, .int o_secondY, .ref h_o_rootOf, .ref h_o_becomes, .ref h_o_comes, .ref h_o_next, .int o_x])), (h_o_all, .inl (ca 0, 350, .inl o_all_r)), (h_o_plans, .inl (ca 0, 80, .inl o_plans_r))] H := hP
            have hD : va_D A [(h_o_rootOf, .inl (ca 0, 64, .inl o_rootOf_r)), (h_o, .inr (7, [.ref h_o_plans, .ref h_o_makers, .ref h_o_halves, .int o_raised, .ref h_o_all, .ref h_o_text, .ref h_o_saved, .ref h_o_undone, .int o_undos, .int o_reached, .int o_length, .int o_begin, .int o_letters, .int o_sort, .long o_word, .int o_wrongAt, .int o_badAt, .int o_bad, .ref h_o_told, .ref h_o_shift, .int o_firstX, .int o_firstY, .int o_secondX, .int o_secondY, .ref h_o_rootOf, .ref h_o_becomes, .ref h_o_comes, .ref h_o_next, .int o_x])), (h_o_all, .inl (ca 0, 350, .inl o_all_r)), (h_o_plans, .inl (ca 0, 80, .inl o_plans_r))] := hD
            refine lv_iload_n hx hb dX8_joinsBy_58 rfl (lv_at hl 3 rfl) ?_
            refine lv_iadd hx hb dX8_joinsBy_59 ?_
            obtain ⟨q60, hq60, hf⟩ := ds_ob hf
            refine ds_calli (wr := [(h_o_rootOf, .inl (ca 0, 64, .inl o_rootOf_r)), (h_o_plans, .inl (ca 0, 80, .inl o_plans_r))]) (va_runV (As := [.int (q44 + p2), .int (q55 + p3)]) (rest := [.int (((8 : Int32) * v4) + v5), .ref h_o]) ⟨hx, hb, hml, hown, hts⟩ (c_X8_at l dC dI ca sa h_o h_o_plans h_o_makers h_o_halves h_o_all h_o_text h_o_saved h_o_undone h_o_told h_o_shift h_o_rootOf h_o_becomes h_o_comes h_o_next H.size o_raised o_undos o_reached o_length o_begin o_letters o_sort o_word o_wrongAt o_badAt o_bad o_firstX o_firstY o_secondX o_secondY o_x o_all_r (q44 + p2) (q55 + p3) q60 hq60) (cwV 2 hts (ds_gV kw_599 kw_600 kw_601 kw_597 kw_602) rfl rfl rfl (by decide +kernel) ⟨Nat.le_of_ble_eq_true rfl, Nat.le_of_ble_eq_true rfl⟩) ⟨ds_blind, va_recv hK hP (ci := 7) (q0 := 1) rfl rfl, ds_at hP hD hK hE hS hA [1, 2] rfl rfl _⟩ rfl rfl hl.1 rfl (lv_room (Nat.le_of_ble_eq_true rfl)) dX8_joinsBy_60 ⟨Nat.zero_le _, Nat.zero_le _⟩) hP hD hS hA [1, 2] [0, 3] rfl rfl rfl (by decide) (fun H locs hP hD hS => ?_)
            have hP : va_P (dC, dI) vwCl [(h_o_rootOf, .inl (ca 0, 64, .inl o_rootOf_r)), (h_o_plans, .inl (ca 0, 80, .inl o_plans_r)), (h_o, .inr (7, [.ref h_o_plans, .ref h_o_makers, .ref h_o_halves, .int o_raised, .ref h_o_all, .ref h_o_text, .ref h_o_saved, .ref h_o_undone, .int o_undos, .int o_reached, .int o_length, .int o_begin, .int o_letters, .int o_sort, .long o_word, .int o_wrongAt, .int o_badAt, .int o_bad, .ref h_o_told, .ref h_o_shift, .int o_firstX, .int o_firstY, .int o_secondX, .int o_secondY, .ref h_o_rootOf, .ref h_o_becomes, .ref h_o_comes, .ref h_o_next, .int o_x])), (h_o_all, .inl (ca 0, 350, .inl o_all_r))] H := hP
            have hD : va_D A [(h_o_rootOf, .inl (ca 0, 64, .inl o_rootOf_r)), (h_o_plans, .inl (ca 0, 80, .inl o_plans_r)), (h_o, .inr (7, [.ref h_o_plans, .ref h_o_makers, .ref h_o_halves, .int o_raised, .ref h_o_all, .ref h_o_text, .ref h_o_saved, .ref h_o_undone, .int o_undos, .int o_reached, .int o_length, .int o_begin, .int o_letters, .int o_sort, .long o_word, .int o_wrongAt, .int o_badAt, .int o_bad, .ref h_o_told, .ref h_o_shift, .int o_firstX, .int o_firstY, .int o_secondX, .int o_secondY, .ref h_o_rootOf, .ref h_o_becomes, .ref h_o_comes, .ref h_o_next, .int o_x])), (h_o_all, .inl (ca 0, 350, .inl o_all_r))] := hD
            obtain ⟨q63, hq63, hf⟩ := ds_ob hf
            refine ds_callv (wr := [(h_o_plans, .inl (ca 0, 80, .inl o_plans_r)), (h_o_all, .inl (ca 0, 350, .inl o_all_r))]) (va_runV (As := [.int (((8 : Int32) * v4) + v5), .int q60]) (rest := []) ⟨hx, hb, hml, hown, hts⟩ (c_X8_joins l dC dI ca sa h_o h_o_plans h_o_makers h_o_halves h_o_all h_o_text h_o_saved h_o_undone h_o_told h_o_shift h_o_rootOf h_o_becomes h_o_comes h_o_next H.size o_raised o_undos o_reached o_length o_begin o_letters o_sort o_word o_wrongAt o_badAt o_bad o_firstX o_firstY o_secondX o_secondY o_x o_rootOf_r (((8 : Int32) * v4) + v5) q60 q63 hq63) (cwV 2 hts (ds_gV kw_744 kw_745 kw_746 kw_597 kw_747) rfl rfl rfl (by decide +kernel) ⟨Nat.le_of_ble_eq_true rfl, Nat.le_of_ble_eq_true rfl⟩) ⟨ds_blind, va_recv hK hP (ci := 7) (q0 := 2) rfl rfl, ds_at hP hD hK hE hS hA [2, 0] rfl rfl _⟩ rfl rfl hl.1 rfl (lv_room (Nat.le_of_ble_eq_true rfl)) dX8_joinsBy_63 ⟨Nat.zero_le _, Nat.zero_le _⟩) hP hD hS hA [2, 0] [1, 3] rfl rfl rfl (by decide) (fun H locs hP hD hS => ?_)
            have hP : va_P (dC, dI) vwCl [(h_o_plans, .inl (ca 0, 80, .inl o_plans_r)), (h_o_all, .inl (ca 0, 350, .inl o_all_r)), (h_o, .inr (7, [.ref h_o_plans, .ref h_o_makers, .ref h_o_halves, .int o_raised, .ref h_o_all, .ref h_o_text, .ref h_o_saved, .ref h_o_undone, .int o_undos, .int o_reached, .int o_length, .int o_begin, .int o_letters, .int o_sort, .long o_word, .int o_wrongAt, .int o_badAt, .int o_bad, .ref h_o_told, .ref h_o_shift, .int o_firstX, .int o_firstY, .int o_secondX, .int o_secondY, .ref h_o_rootOf, .ref h_o_becomes, .ref h_o_comes, .ref h_o_next, .int o_x])), (h_o_rootOf, .inl (ca 0, 64, .inl q63))] H := hP
            have hD : va_D A [(h_o_plans, .inl (ca 0, 80, .inl o_plans_r)), (h_o_all, .inl (ca 0, 350, .inl o_all_r)), (h_o, .inr (7, [.ref h_o_plans, .ref h_o_makers, .ref h_o_halves, .int o_raised, .ref h_o_all, .ref h_o_text, .ref h_o_saved, .ref h_o_undone, .int o_undos, .int o_reached, .int o_length, .int o_begin, .int o_letters, .int o_sort, .long o_word, .int o_wrongAt, .int o_badAt, .int o_bad, .ref h_o_told, .ref h_o_shift, .int o_firstX, .int o_firstY, .int o_secondX, .int o_secondY, .ref h_o_rootOf, .ref h_o_becomes, .ref h_o_comes, .ref h_o_next, .int o_x])), (h_o_rootOf, .inl (ca 0, 64, .inl q63))] := hD
            refine lv_iinc (v := (v5 + 1)) (lv' := [(5, .int (v5 + 1)), (0, .ref h_o), (1, .int p1), (2, .int p2), (3, .int p3), (4, .int v4)]) hx hb dX8_joinsBy_66 hl (k := 5) rfl rfl (by decide) rfl (fun ls hl => ?_)
            refine lv_goto (tgt := 17) hx hb dX8_joinsBy_69 (by decide) ?_
            have hf := Option.some.inj hf
            subst hf
            rw [eG2] at hG
            obtain ⟨rr, hf, hG⟩ := hG
            exact h1 (ih17 (v5 + 1) q63 rr hf hG _ _ (hP.sub [2, 1, 0, 3] rfl) (hD.sub [2, 1, 0, 3] rfl rfl) hS _ (lv_sub hl [1, 2, 3, 4, 5, 0] rfl))
      unfold fX8_joinsBy_3_b at hf
      refine lv_iload hx hb dX8_joinsBy_3 (lv_at hl 4 rfl) ?_
      refine lv_aload_n hx hb dX8_joinsBy_5 rfl (lv_at hl 0 rfl) ?_
      refine va_get (D := (dC, dI)) (ci := 7) (v := .ref h_o_all) (C := RX8) (T := TX8) (N := 29) hx hb hts (fun w h => List.mem_cons_of_mem _ (kc_X8 w h)) hown hK hP 0 rfl rfl 4 (by decide) (hg kw_594) (fun _ h9 => h9) rfl dX8_joinsBy_6 ?_
      refine lv_iconst (v := 1) hx hb dX8_joinsBy_9 (by decide) ?_
      refine va_iald hx hb hK hP 1 0 rfl rfl (ds_in_ok (i := 1) (n := 350) (by decide)) dX8_joinsBy_10 ?_
      refine lv_icmp_ge (tgt := 78) hx hb dX8_joinsBy_11 (by decide) (fun c_11 => ?_) (fun c_11 => ?_)
      · replace hf := ds_t c_11 hf
        have hf := Option.some.inj hf
        subst hf
        rw [eG1] at hG
        replace hG : G0 _ := hG
        rw [eG0] at hG
        have hG : _ = res := hG
        subst hG
        exact W.vret hx hb hr (fun t ht hW => ⟨⟨(), rfl, trivial, by rw [ht]; exact hP, hD⟩, hS.F ht⟩) hS.2.2 dX8_joinsBy_78
      · replace hf := ds_f c_11 hf
        refine lv_iconst (v := 0) hx hb dX8_joinsBy_14 (by decide) ?_
        refine lv_istore (lv' := [(5, .int (0 : Int32)), (0, .ref h_o), (1, .int p1), (2, .int p2), (3, .int p3), (4, .int v4)]) hx hb dX8_joinsBy_15 hl (by decide) rfl (fun ls hl => ?_)
        exact h1 (J_17 v4 1000 (0 : Int32) o_rootOf_r _ hf hG _ _ hP hD hS _ (lv_sub hl [1, 2, 3, 4, 5, 0] rfl))
  unfold fX8_joinsBy at hf
  refine lv_iconst (v := 0) hx hb dX8_joinsBy_0 (by decide) ?_
  refine lv_istore (lv' := [(4, .int (0 : Int32)), (0, .ref h_o), (1, .int p1), (2, .int p2), (3, .int p3)]) hx hb dX8_joinsBy_1 hl (by decide) rfl (fun ls hl => ?_)
  exact h1 (J_3  1000 (0 : Int32) o_rootOf_r _ hf hG _ _ hP hD hS _ (lv_sub hl [1, 2, 3, 4, 0] rfl))
theorem dX8_laysKinds_0 : decode cX8_laysKinds 0 = .ok (.aload_n 0, 1) := by decide +kernel
theorem dX8_laysKinds_1 : decode cX8_laysKinds 1 = .ok (.invokevirtual 214, 3) := by decide +kernel
theorem dX8_laysKinds_4 : decode cX8_laysKinds 4 = .ok (.iconst 0, 1) := by decide +kernel
theorem dX8_laysKinds_5 : decode cX8_laysKinds 5 = .ok (.istore_n 1, 1) := by decide +kernel
theorem dX8_laysKinds_6 : decode cX8_laysKinds 6 = .ok (.iload_n 1, 1) := by decide +kernel
theorem dX8_laysKinds_7 : decode cX8_laysKinds 7 = .ok (.aload_n 0, 1) := by decide +kernel
theorem dX8_laysKinds_8 : decode cX8_laysKinds 8 = .ok (.invokevirtual 62, 3) := by decide +kernel
theorem dX8_laysKinds_11 : decode cX8_laysKinds 11 = .ok (.if_icmp .ge 71, 3) := by decide +kernel
theorem dX8_laysKinds_14 : decode cX8_laysKinds 14 = .ok (.iconst 0, 1) := by decide +kernel
theorem dX8_laysKinds_15 : decode cX8_laysKinds 15 = .ok (.istore_n 2, 1) := by decide +kernel
theorem dX8_laysKinds_16 : decode cX8_laysKinds 16 = .ok (.iload_n 2, 1) := by decide +kernel
theorem dX8_laysKinds_17 : decode cX8_laysKinds 17 = .ok (.aload_n 0, 1) := by decide +kernel
theorem dX8_laysKinds_18 : decode cX8_laysKinds 18 = .ok (.getfield 19, 3) := by decide +kernel
theorem dX8_laysKinds_21 : decode cX8_laysKinds 21 = .ok (.iconst 1, 1) := by decide +kernel
theorem dX8_laysKinds_22 : decode cX8_laysKinds 22 = .ok (.iaload, 1) := by decide +kernel
theorem dX8_laysKinds_23 : decode cX8_laysKinds 23 = .ok (.if_icmp .ge 53, 3) := by decide +kernel
theorem dX8_laysKinds_26 : decode cX8_laysKinds 26 = .ok (.iconst 0, 1) := by decide +kernel
theorem dX8_laysKinds_27 : decode cX8_laysKinds 27 = .ok (.istore_n 3, 1) := by decide +kernel
theorem dX8_laysKinds_28 : decode cX8_laysKinds 28 = .ok (.iload_n 3, 1) := by decide +kernel
theorem dX8_laysKinds_29 : decode cX8_laysKinds 29 = .ok (.aload_n 0, 1) := by decide +kernel
theorem dX8_laysKinds_30 : decode cX8_laysKinds 30 = .ok (.getfield 19, 3) := by decide +kernel
theorem dX8_laysKinds_33 : decode cX8_laysKinds 33 = .ok (.iconst 0, 1) := by decide +kernel
theorem dX8_laysKinds_34 : decode cX8_laysKinds 34 = .ok (.iaload, 1) := by decide +kernel
theorem dX8_laysKinds_35 : decode cX8_laysKinds 35 = .ok (.if_icmp .ge 35, 3) := by decide +kernel
theorem dX8_laysKinds_38 : decode cX8_laysKinds 38 = .ok (.aload_n 0, 1) := by decide +kernel
theorem dX8_laysKinds_39 : decode cX8_laysKinds 39 = .ok (.getfield 36, 3) := by decide +kernel
theorem dX8_laysKinds_42 : decode cX8_laysKinds 42 = .ok (.bipush 64, 2) := by decide +kernel
theorem dX8_laysKinds_44 : decode cX8_laysKinds 44 = .ok (.iload_n 1, 1) := by decide +kernel
theorem dX8_laysKinds_45 : decode cX8_laysKinds 45 = .ok (.imul, 1) := by decide +kernel
theorem dX8_laysKinds_46 : decode cX8_laysKinds 46 = .ok (.bipush 8, 2) := by decide +kernel
theorem dX8_laysKinds_48 : decode cX8_laysKinds 48 = .ok (.iload_n 2, 1) := by decide +kernel
theorem dX8_laysKinds_49 : decode cX8_laysKinds 49 = .ok (.imul, 1) := by decide +kernel
theorem dX8_laysKinds_50 : decode cX8_laysKinds 50 = .ok (.iadd, 1) := by decide +kernel
theorem dX8_laysKinds_51 : decode cX8_laysKinds 51 = .ok (.iload_n 3, 1) := by decide +kernel
theorem dX8_laysKinds_52 : decode cX8_laysKinds 52 = .ok (.iadd, 1) := by decide +kernel
theorem dX8_laysKinds_53 : decode cX8_laysKinds 53 = .ok (.baload, 1) := by decide +kernel
theorem dX8_laysKinds_54 : decode cX8_laysKinds 54 = .ok (.ifCond .eq 10, 3) := by decide +kernel
theorem dX8_laysKinds_57 : decode cX8_laysKinds 57 = .ok (.aload_n 0, 1) := by decide +kernel
theorem dX8_laysKinds_58 : decode cX8_laysKinds 58 = .ok (.iload_n 1, 1) := by decide +kernel
theorem dX8_laysKinds_59 : decode cX8_laysKinds 59 = .ok (.iload_n 3, 1) := by decide +kernel
theorem dX8_laysKinds_60 : decode cX8_laysKinds 60 = .ok (.iload_n 2, 1) := by decide +kernel
theorem dX8_laysKinds_61 : decode cX8_laysKinds 61 = .ok (.invokevirtual 217, 3) := by decide +kernel
theorem dX8_laysKinds_64 : decode cX8_laysKinds 64 = .ok (.iinc 3 1, 3) := by decide +kernel
theorem dX8_laysKinds_67 : decode cX8_laysKinds 67 = .ok (.goto (-39), 3) := by decide +kernel
theorem dX8_laysKinds_70 : decode cX8_laysKinds 70 = .ok (.iinc 2 1, 3) := by decide +kernel
theorem dX8_laysKinds_73 : decode cX8_laysKinds 73 = .ok (.goto (-57), 3) := by decide +kernel
theorem dX8_laysKinds_76 : decode cX8_laysKinds 76 = .ok (.iinc 1 1, 3) := by decide +kernel
theorem dX8_laysKinds_79 : decode cX8_laysKinds 79 = .ok (.goto (-73), 3) := by decide +kernel
theorem dX8_laysKinds_82 : decode cX8_laysKinds 82 = .ok (.return_, 1) := by decide +kernel
def fX8_laysKinds_76 (o_rootOf_r : Nat → Int32) (v1 : Int32) : Option ((Int32 × (Nat → Int32)) ⊕ ((Nat → Int32))) :=
  some (.inl ((v1 + 1), o_rootOf_r))
def fX8_laysKinds_70 (o_rootOf_r : Nat → Int32) (v2 : Int32) : Option ((Int32 × (Nat → Int32)) ⊕ ((Int32 × (Nat → Int32)) ⊕ ((Nat → Int32)))) :=
  some (.inl ((v2 + 1), o_rootOf_r))
def fX8_laysKinds_64 (o_rootOf_r : Nat → Int32) (v3 : Int32) : Option ((Int32 × (Nat → Int32)) ⊕ ((Int32 × (Nat → Int32)) ⊕ ((Int32 × (Nat → Int32)) ⊕ ((Nat → Int32))))) :=
  some (.inl ((v3 + 1), o_rootOf_r))
def fX8_laysKinds_28_b (o_all_r : Nat → Int32) (o_shift_r : Nat → Int32) (o_plans_r : Nat → Int32) (v1 : Int32) (v2 : Int32) (v3 : Int32) (o_rootOf_r : Nat → Int32) : Option ((Int32 × (Nat → Int32)) ⊕ ((Int32 × (Nat → Int32)) ⊕ ((Int32 × (Nat → Int32)) ⊕ ((Nat → Int32))))) :=
  if (o_all_r (0 : Int32).toNatClampNeg) ≤ v3 then Option.bind (fX8_laysKinds_70 o_rootOf_r v2) fun z => some (.inr z) else if ds_in ((((64 : Int32) * v1) + ((8 : Int32) * v2)) + v3) 768 = true then if (o_shift_r ((((64 : Int32) * v1) + ((8 : Int32) * v2)) + v3).toNatClampNeg) = 0 then fX8_laysKinds_64 o_rootOf_r v3 else Option.bind (fX8_joinsBy o_all_r o_plans_r o_rootOf_r v1 v3 v2) fun q61 => fX8_laysKinds_64 q61 v3 else none
def fX8_laysKinds_28 (o_all_r : Nat → Int32) (o_shift_r : Nat → Int32) (o_plans_r : Nat → Int32) (v1 : Int32) (v2 : Int32) (v3 : Int32) (o_rootOf_r : Nat → Int32) : Option ((Int32 × (Nat → Int32)) ⊕ ((Int32 × (Nat → Int32)) ⊕ ((Nat → Int32)))) := ds_it (fun s => fX8_laysKinds_28_b o_all_r o_shift_r o_plans_r v1 v2 s.1 s.2) 1000 (v3, o_rootOf_r)
def fX8_laysKinds_16_b (o_all_r : Nat → Int32) (o_shift_r : Nat → Int32) (o_plans_r : Nat → Int32) (v1 : Int32) (v2 : Int32) (o_rootOf_r : Nat → Int32) : Option ((Int32 × (Nat → Int32)) ⊕ ((Int32 × (Nat → Int32)) ⊕ ((Nat → Int32)))) :=
  if (o_all_r (1 : Int32).toNatClampNeg) ≤ v2 then Option.bind (fX8_laysKinds_76 o_rootOf_r v1) fun z => some (.inr z) else fX8_laysKinds_28 o_all_r o_shift_r o_plans_r v1 v2 (0 : Int32) o_rootOf_r
def fX8_laysKinds_16 (o_all_r : Nat → Int32) (o_shift_r : Nat → Int32) (o_plans_r : Nat → Int32) (v1 : Int32) (v2 : Int32) (o_rootOf_r : Nat → Int32) : Option ((Int32 × (Nat → Int32)) ⊕ ((Nat → Int32))) := ds_it (fun s => fX8_laysKinds_16_b o_all_r o_shift_r o_plans_r v1 s.1 s.2) 1000 (v2, o_rootOf_r)
def fX8_laysKinds_6_b (o_all_r : Nat → Int32) (o_shift_r : Nat → Int32) (o_plans_r : Nat → Int32) (v1 : Int32) (o_rootOf_r : Nat → Int32) : Option ((Int32 × (Nat → Int32)) ⊕ ((Nat → Int32))) :=
  Option.bind (fX8_turnings o_all_r) fun q8 => if q8 ≤ v1 then some (.inr o_rootOf_r) else fX8_laysKinds_16 o_all_r o_shift_r o_plans_r v1 (0 : Int32) o_rootOf_r
def fX8_laysKinds_6 (o_all_r : Nat → Int32) (o_shift_r : Nat → Int32) (o_plans_r : Nat → Int32) (v1 : Int32) (o_rootOf_r : Nat → Int32) : Option ((Nat → Int32)) := ds_it (fun s => fX8_laysKinds_6_b o_all_r o_shift_r o_plans_r s.1 s.2) 1000 (v1, o_rootOf_r)
def fX8_laysKinds (o_rootOf_r : Nat → Int32) (o_all_r : Nat → Int32) (o_shift_r : Nat → Int32) (o_plans_r : Nat → Int32) : Option ((Nat → Int32)) :=
  Option.bind (fX8_alone o_rootOf_r) fun q1 => fX8_laysKinds_6 o_all_r o_shift_r o_plans_r (0 : Int32) q1
set_option maxHeartbeats 4000000 in
set_option maxRecDepth 100000 in
theorem c_X8_laysKinds (l : Launch) (dC : Nat → ClassId) (dI : Nat → Nat → Nat) (ca : Nat → ClassId) (sa : Nat → Nat) (h_o : Nat) (h_o_plans : Nat) (h_o_makers : Nat) (h_o_halves : Nat) (h_o_all : Nat) (h_o_text : Nat) (h_o_saved : Nat) (h_o_undone : Nat) (h_o_told : Nat) (h_o_shift : Nat) (h_o_rootOf : Nat) (h_o_becomes : Nat) (h_o_comes : Nat) (h_o_next : Nat) (sz : Nat) (o_raised : Int32) (o_undos : Int32) (o_reached : Int32) (o_length : Int32) (o_begin : Int32) (o_letters : Int32) (o_sort : Int32) (o_word : Int64) (o_wrongAt : Int32) (o_badAt : Int32) (o_bad : Int32) (o_firstX : Int32) (o_firstY : Int32) (o_secondX : Int32) (o_secondY : Int32) (o_x : Int32) (o_rootOf_r : Nat → Int32) (o_all_r : Nat → Int32) (o_shift_r : Nat → Int32) (o_plans_r : Nat → Int32) (res : (Nat → Int32)) (hf : fX8_laysKinds o_rootOf_r o_all_r o_shift_r o_plans_r = some res) : Met l yX8_laysKinds (Cond.code yX8_laysKinds cX8_laysKinds 4 none :: ds_gw) { frames := 3, cells := 0, slots := 0, locals := 71 } (va_Pc [.ref h_o] (ds_Pre dC dI ca sa [(h_o, .inr (7, [.ref h_o_plans, .ref h_o_makers, .ref h_o_halves, .int o_raised, .ref h_o_all, .ref h_o_text, .ref h_o_saved, .ref h_o_undone, .int o_undos, .int o_reached, .int o_length, .int o_begin, .int o_letters, .int o_sort, .long o_word, .int o_wrongAt, .int o_badAt, .int o_bad, .ref h_o_told, .ref h_o_shift, .int o_firstX, .int o_firstY, .int o_secondX, .int o_secondY, .ref h_o_rootOf, .ref h_o_becomes, .ref h_o_comes, .ref h_o_next, .int o_x])), (h_o_rootOf, .inl (ca 0, 64, .inl o_rootOf_r)), (h_o_all, .inl (ca 0, 350, .inl o_all_r)), (h_o_shift, .inl (ca 3, 768, .inl o_shift_r)), (h_o_plans, .inl (ca 0, 80, .inl o_plans_r))] sz)) (va_Qv (fun (_ : Unit) => True) (ds_B dC dI (va_A [(h_o, .inr (7, [.ref h_o_plans, .ref h_o_makers, .ref h_o_halves, .int o_raised, .ref h_o_all, .ref h_o_text, .ref h_o_saved, .ref h_o_undone, .int o_undos, .int o_reached, .int o_length, .int o_begin, .int o_letters, .int o_sort, .long o_word, .int o_wrongAt, .int o_badAt, .int o_bad, .ref h_o_told, .ref h_o_shift, .int o_firstX, .int o_firstY, .int o_secondX, .int o_secondY, .ref h_o_rootOf, .ref h_o_becomes, .ref h_o_comes, .ref h_o_next, .int o_x])), (h_o_rootOf, .inl (ca 0, 64, .inl o_rootOf_r)), (h_o_all, .inl (ca 0, 350, .inl o_all_r)), (h_o_shift, .inl (ca 3, 768, .inl o_shift_r)), (h_o_plans, .inl (ca 0, 80, .inl o_plans_r))] sz) [(h_o, .inr (7, [.ref h_o_plans, .ref h_o_makers, .ref h_o_halves, .int o_raised, .ref h_o_all, .ref h_o_text, .ref h_o_saved, .ref h_o_undone, .int o_undos, .int o_reached, .int o_length, .int o_begin, .int o_letters, .int o_sort, .long o_word, .int o_wrongAt, .int o_badAt, .int o_bad, .ref h_o_told, .ref h_o_shift, .int o_firstX, .int o_firstY, .int o_secondX, .int o_secondY, .ref h_o_rootOf, .ref h_o_becomes, .ref h_o_comes, .ref h_o_next, .int o_x])), (h_o_rootOf, .inl (ca 0, 64, .inl res)), (h_o_all, .inl (ca 0, 350, .inl o_all_r)), (h_o_shift, .inl (ca 3, 768, .inl o_shift_r)), (h_o_plans, .inl (ca 0, 80, .inl o_plans_r))]) (va_A [(h_o, .inr (7, [.ref h_o_plans, .ref h_o_makers, .ref h_o_halves, .int o_raised, .ref h_o_all, .ref h_o_text, .ref h_o_saved, .ref h_o_undone, .int o_undos, .int o_reached, .int o_length, .int o_begin, .int o_letters, .int o_sort, .long o_word, .int o_wrongAt, .int o_badAt, .int o_bad, .ref h_o_told, .ref h_o_shift, .int o_firstX, .int o_firstY, .int o_secondX, .int o_secondY, .ref h_o_rootOf, .ref h_o_becomes, .ref h_o_comes, .ref h_o_next, .int o_x])), (h_o_rootOf, .inl (ca 0, 64, .inl o_rootOf_r)), (h_o_all, .inl (ca 0, 350, .inl o_all_r)), (h_o_shift, .inl (ca 3, 768, .inl o_shift_r)), (h_o_plans, .inl (ca 0, 80, .inl o_plans_r))] sz)) 0 0 (va_A [(h_o, .inr (7, [.ref h_o_plans, .ref h_o_makers, .ref h_o_halves, .int o_raised, .ref h_o_all, .ref h_o_text, .ref h_o_saved, .ref h_o_undone, .int o_undos, .int o_reached, .int o_length, .int o_begin, .int o_letters, .int o_sort, .long o_word, .int o_wrongAt, .int o_badAt, .int o_bad, .ref h_o_told, .ref h_o_shift, .int o_firstX, .int o_firstY, .int o_secondX, .int o_secondY, .ref h_o_rootOf, .ref h_o_becomes, .ref h_o_comes, .ref h_o_next, .int o_x])), (h_o_rootOf, .inl (ca 0, 64, .inl o_rootOf_r)), (h_o_all, .inl (ca 0, 350, .inl o_all_r)), (h_o_shift, .inl (ca 3, 768, .inl o_shift_r)), (h_o_plans, .inl (ca 0, 80, .inl o_plans_r))] sz) := by
  refine Met.ofW (cc := cX8_laysKinds) (maxL := 4) (ret := none) (by decide) rfl ?_
  intro p e s m args below meth c s₁ B hml hv
  obtain ⟨rfl, hsz, hP, hK, hD0, hE⟩ := hv
  have hx := B.exec
  have hb := B.bytes
  have hr := B.returns
  have hts := atoms_spec (ws := Cond.code yX8_laysKinds cX8_laysKinds 4 none :: ds_gw) B.pre
  have hg : ∀ {w : Cond}, w ∈ ds_gw → w.before _ s = true := fun h => hts _ (List.mem_cons_of_mem _ h)
  have hown : s.vm.findClass RX8 = some m.cls := findClass_of_methodNamed B.named
  have hlocks := B.notSynchronized
  subst hsz
  have hD := hD0.self (sz := s.heap.size)
  generalize hAe : va_A [(h_o, .inr (7, [.ref h_o_plans, .ref h_o_makers, .ref h_o_halves, .int o_raised, .ref h_o_all, .ref h_o_text, .ref h_o_saved, .ref h_o_undone, .int o_undos, .int o_reached, .int o_length, .int o_begin, .int o_letters, .int o_sort, .long o_word, .int o_wrongAt, .int o_badAt, .int o_bad, .ref h_o_told, .ref h_o_shift, .int o_firstX, .int o_firstY, .int o_secondX, .int o_secondY, .ref h_o_rootOf, .ref h_o_becomes, .ref h_o_comes, .ref h_o_next, .int o_x])), (h_o_rootOf, .inl (ca 0, 64, .inl o_rootOf_r)), (h_o_all, .inl (ca 0, 350, .inl o_all_r)), (h_o_shift, .inl (ca 3, 768, .inl o_shift_r)), (h_o_plans, .inl (ca 0, 80, .inl o_plans_r))] s.heap.size = A at hD hE ⊢
  have hA : ∀ q : Nat, s.heap.size ≤ q → A q := fun q h => by rw [← hAe]; exact Or.inr h
  have hS : va_S A s.heap s.heap [] := va_S.rf
  have hl := lv_entry ([.ref h_o]) (n := 4) (Nat.le_of_ble_eq_true rfl)
  rw [lg_entry_eq]
  generalize (lg_sl ([.ref h_o]) ++ List.replicate (4 - (lg_sl ([.ref h_o])).length) Slot.unset).toArray = ls at hl ⊢
  have hl : lv_has ls 4 [(0, .ref h_o)] := hl
  obtain ⟨G0, eG0⟩ : ∃ G : ((Nat → Int32)) → Prop, G = (fun r => r = res) := ⟨_, rfl⟩
  obtain ⟨rr, hrr⟩ : ∃ z, z = res := ⟨_, rfl⟩
  rw [← hrr] at hf
  have hG : G0 rr := by subst eG0; exact hrr
  refine ds_cap (fun WW h1 h2 => ?_)
  have J_6 : ∀ (n : Nat) (v1 : Int32) (o_rootOf_r : Nat → Int32) (rr : (Nat → Int32)) (hf : ds_it (fun s => fX8_laysKinds_6_b o_all_r o_shift_r o_plans_r s.1 s.2) n (v1, o_rootOf_r) = some rr) (hG : G0 rr) (H : Heap) (locs : List Loc) (hP : va_P (dC, dI) vwCl [(h_o, .inr (7, [.ref h_o_plans, .ref h_o_makers, .ref h_o_halves, .int o_raised, .ref h_o_all, .ref h_o_text, .ref h_o_saved, .ref h_o_undone, .int o_undos, .int o_reached, .int o_length, .int o_begin, .int o_letters, .int o_sort, .long o_word, .int o_wrongAt, .int o_badAt, .int o_bad, .ref h_o_told, .ref h_o_shift, .int o_firstX, .int o_firstY, .int o_secondX, .int o_secondY, .ref h_o_rootOf, .ref h_o_becomes, .ref h_o_comes, .ref h_o_next, .int o_x])), (h_o_rootOf, .inl (ca 0, 64, .inl o_rootOf_r)), (h_o_all, .inl (ca 0, 350, .inl o_all_r)), (h_o_shift, .inl (ca 3, 768, .inl o_shift_r)), (h_o_plans, .inl (ca 0, 80, .inl o_plans_r))] H) (hD : va_D A [(h_o, .inr (7, [.ref h_o_plans, .ref h_o_makers, .ref h_o_halves, .int o_raised, .ref h_o_all, .ref h_o_text, .ref h_o_saved, .ref h_o_undone, .int o_undos, .int o_reached, .int o_length, .int o_begin, .int o_letters, .int o_sort, .long o_word, .int o_wrongAt, .int o_badAt, .int o_bad, .ref h_o_told, .ref h_o_shift, .int o_firstX, .int o_firstY, .int o_secondX, .int o_secondY, .ref h_o_rootOf, .ref h_o_becomes, .ref h_o_comes, .ref h_o_next, .int o_x])), (h_o_rootOf, .inl (ca 0, 64, .inl o_rootOf_r)), (h_o_all, .inl (ca 0, 350, .inl o_all_r)), (h_o_shift, .inl (ca 3, 768, .inl o_shift_r)), (h_o_plans, .inl (ca 0, 80, .inl o_plans_r))]) (hS : va_S A s.heap H locs) (ls : Array Slot) (hl : lv_has ls 4 [(0, .ref h_o), (1, .int v1)]), WW H locs (F0 m 6 ls []) := by
    intro  n
    induction n with
    | zero => intro v1 o_rootOf_r rr hf; exact (ds_it_zero hf).elim
    | succ n ih6 =>
      intro v1 o_rootOf_r rr hf hG H locs hP hD hS ls hl
      refine h2 ?_
      obtain ⟨rr, hf, hG⟩ := ds_it_succ hf hG
      replace hf : fX8_laysKinds_6_b o_all_r o_shift_r o_plans_r v1 o_rootOf_r = some rr := hf
      obtain ⟨G1, eG1⟩ : ∃ G : ((Int32 × (Nat → Int32)) ⊕ ((Nat → Int32))) → Prop, G = ds_G (fun s' => ∃ r', ds_it (fun s => fX8_laysKinds_6_b o_all_r o_shift_r o_plans_r s.1 s.2) n s' = some r' ∧ G0 r') G0 := ⟨_, rfl⟩
      rw [← eG1] at hG
      have J_76 : ∀ (v1 : Int32) (o_rootOf_r : Nat → Int32) (rr : (Int32 × (Nat → Int32)) ⊕ ((Nat → Int32))) (hf : fX8_laysKinds_76 o_rootOf_r v1 = some rr) (hG : G1 rr) (H : Heap) (locs : List Loc) (hP : va_P (dC, dI) vwCl [(h_o, .inr (7, [.ref h_o_plans, .ref h_o_makers, .ref h_o_halves, .int o_raised, .ref h_o_all, .ref h_o_text, .ref h_o_saved, .ref h_o_undone, .int o_undos, .int o_reached, .int o_length, .int o_begin, .int o_letters, .int o_sort, .long o_word, .int o_wrongAt, .int o_badAt, .int o_bad, .ref h_o_told, .ref h_o_shift, .int o_firstX, .int o_firstY, .int o_secondX, .int o_secondY, .ref h_o_rootOf, .ref h_o_becomes, .ref h_o_comes, .ref h_o_next, .int o_x])), (h_o_rootOf, .inl (ca 0, 64, .inl o_rootOf_r)), (h_o_all, .inl (ca 0, 350, .inl o_all_r)), (h_o_shift, .inl (ca 3, 768, .inl o_shift_r)), (h_o_plans, .inl (ca 0, 80, .inl o_plans_r))] H) (hD : va_D A [(h_o, .inr (7, [.ref h_o_plans, .ref h_o_makers, .ref h_o_halves, .int o_raised, .ref h_o_all, .ref h_o_text, .ref h_o_saved, .ref h_o_undone, .int o_undos, .int o_reached, .int o_length, .int o_begin, .int o_letters, .int o_sort, .long o_word, .int o_wrongAt, .int o_badAt, .int o_bad, .ref h_o_told, .ref h_o_shift, .int o_firstX, .int o_firstY, .int o_secondX, .int o_secondY, .ref h_o_rootOf, .ref h_o_becomes, .ref h_o_comes, .ref h_o_next, .int o_x])), (h_o_rootOf, .inl (ca 0, 64, .inl o_rootOf_r)), (h_o_all, .inl (ca 0, 350, .inl o_all_r)), (h_o_shift, .inl (ca 3, 768, .inl o_shift_r)), (h_o_plans, .inl (ca 0, 80, .inl o_plans_r))]) (hS : va_S A s.heap H locs) (ls : Array Slot) (hl : lv_has ls 4 [(0, .ref h_o), (1, .int v1)]), WW H locs (F0 m 76 ls []) := by
        intro v1 o_rootOf_r rr hf hG H locs hP hD hS ls hl
        refine h2 ?_
        unfold fX8_laysKinds_76 at hf
        refine lv_iinc (v := (v1 + 1)) (lv' := [(1, .int (v1 + 1)), (0, .ref h_o)]) hx hb dX8_laysKinds_76 hl (k := 1) rfl rfl (by decide) rfl (fun ls hl => ?_)
        refine lv_goto (tgt := 6) hx hb dX8_laysKinds_79 (by decide) ?_
        have hf := Option.some.inj hf
        subst hf
        rw [eG1] at hG
        obtain ⟨rr, hf, hG⟩ := hG
        exact h1 (ih6 (v1 + 1) o_rootOf_r rr hf hG _ _ hP hD hS _ (lv_sub hl [1, 0] rfl))
      have J_16 : ∀ (v1 : Int32) (n : Nat) (v2 : Int32) (o_rootOf_r : Nat → Int32) (rr : (Int32 × (Nat → Int32)) ⊕ ((Nat → Int32))) (hf : ds_it (fun s => fX8_laysKinds_16_b o_all_r o_shift_r o_plans_r v1 s.1 s.2) n (v2, o_rootOf_r) = some rr) (hG : G1 rr) (H : Heap) (locs : List Loc) (hP : va_P (dC, dI) vwCl [(h_o, .inr (7, [.ref h_o_plans, .ref h_o_makers, .ref h_o_halves, .int o_raised, .ref h_o_all, .ref h_o_text, .ref h_o_saved, .ref h_o_undone, .int o_undos, .int o_reached, .int o_length, .int o_begin, .int o_letters, .int o_sort, .long o_word, .int o_wrongAt, .int o_badAt, .int o_bad, .ref h_o_told, .ref h_o_shift, .int o_firstX, .int o_firstY, .int o_secondX, .int o_secondY, .ref h_o_rootOf, .ref h_o_becomes, .ref h_o_comes, .ref h_o_next, .int o_x])), (h_o_rootOf, .inl (ca 0, 64, .inl o_rootOf_r)), (h_o_all, .inl (ca 0, 350, .inl o_all_r)), (h_o_shift, .inl (ca 3, 768, .inl o_shift_r)), (h_o_plans, .inl (ca 0, 80, .inl o_plans_r))] H) (hD : va_D A [(h_o, .inr (7, [.ref h_o_plans, .ref h_o_makers, .ref h_o_halves, .int o_raised, .ref h_o_all, .ref h_o_text, .ref h_o_saved, .ref h_o_undone, .int o_undos, .int o_reached, .int o_length, .int o_begin, .int o_letters, .int o_sort, .long o_word, .int o_wrongAt, .int o_badAt, .int o_bad, .ref h_o_told, .ref h_o_shift, .int o_firstX, .int o_firstY, .int o_secondX, .int o_secondY, .ref h_o_rootOf, .ref h_o_becomes, .ref h_o_comes, .ref h_o_next, .int o_x])), (h_o_rootOf, .inl (ca 0, 64, .inl o_rootOf_r)), (h_o_all, .inl (ca 0, 350, .inl o_all_r)), (h_o_shift, .inl (ca 3, 768, .inl o_shift_r)), (h_o_plans, .inl (ca 0, 80, .inl o_plans_r))]) (hS : va_S A s.heap H locs) (ls : Array Slot) (hl : lv_has ls 4 [(0, .ref h_o), (1, .int v1), (2, .int v2)]), WW H locs (F0 m 16 ls []) := by
        intro v1 n
        induction n with
        | zero => intro v2 o_rootOf_r rr hf; exact (ds_it_zero hf).elim
        | succ n ih16 =>
          intro v2 o_rootOf_r rr hf hG H locs hP hD hS ls hl
          refine h2 ?_
          obtain ⟨rr, hf, hG⟩ := ds_it_succ hf hG
          replace hf : fX8_laysKinds_16_b o_all_r o_shift_r o_plans_r v1 v2 o_rootOf_r = some rr := hf
          obtain ⟨G2, eG2⟩ : ∃ G : ((Int32 × (Nat → Int32)) ⊕ ((Int32 × (Nat → Int32)) ⊕ ((Nat → Int32)))) → Prop, G = ds_G (fun s' => ∃ r', ds_it (fun s => fX8_laysKinds_16_b o_all_r o_shift_r o_plans_r v1 s.1 s.2) n s' = some r' ∧ G1 r') G1 := ⟨_, rfl⟩
          rw [← eG2] at hG
          have J_70 : ∀ (v2 : Int32) (o_rootOf_r : Nat → Int32) (rr : (Int32 × (Nat → Int32)) ⊕ ((Int32 × (Nat → Int32)) ⊕ ((Nat → Int32)))) (hf : fX8_laysKinds_70 o_rootOf_r v2 = some rr) (hG : G2 rr) (H : Heap) (locs : List Loc) (hP : va_P (dC, dI) vwCl [(h_o, .inr (7, [.ref h_o_plans, .ref h_o_makers, .ref h_o_halves, .int o_raised, .ref h_o_all, .ref h_o_text, .ref h_o_saved, .ref h_o_undone, .int o_undos, .int o_reached, .int o_length, .int o_begin, .int o_letters, .int o_sort, .long o_word, .int o_wrongAt, .int o_badAt, .int o_bad, .ref h_o_told, .ref h_o_shift, .int o_firstX, .int o_firstY, .int o_secondX, .int o_secondY, .ref h_o_rootOf, .ref h_o_becomes, .ref h_o_comes, .ref h_o_next, .int o_x])), (h_o_rootOf, .inl (ca 0, 64, .inl o_rootOf_r)), (h_o_all, .inl (ca 0, 350, .inl o_all_r)), (h_o_shift, .inl (ca 3, 768, .inl o_shift_r)), (h_o_plans, .inl (ca 0, 80, .inl o_plans_r))] H) (hD : va_D A [(h_o, .inr (7, [.ref h_o_plans, .ref h_o_makers, .ref h_o_halves, .int o_raised, .ref h_o_all, .ref h_o_text, .ref h_o_saved, .ref h_o_undone, .int o_undos, .int o_reached, .int o_length, .int o_begin, .int o_letters, .int o_sort, .long o_word, .int o_wrongAt, .int o_badAt, .int o_bad, .ref h_o_told, .ref h_o_shift, .int o_firstX, .int o_firstY, .int o_secondX, .int o_secondY, .ref h_o_rootOf, .ref h_o_becomes, .ref h_o_comes, .ref h_o_next, .int o_x])), (h_o_rootOf, .inl (ca 0, 64, .inl o_rootOf_r)), (h_o_all, .inl (ca 0, 350, .inl o_all_r)), (h_o_shift, .inl (ca 3, 768, .inl o_shift_r)), (h_o_plans, .inl (ca 0, 80, .inl o_plans_r))]) (hS : va_S A s.heap H locs) (ls : Array Slot) (hl : lv_has ls 4 [(0, .ref h_o), (1, .int v1), (2, .int v2)]), WW H locs (F0 m 70 ls []) := by
            intro v2 o_rootOf_r rr hf hG H locs hP hD hS ls hl
            refine h2 ?_
            unfold fX8_laysKinds_70 at hf
            refine lv_iinc (v := (v2 + 1)) (lv' := [(2, .int (v2 + 1)), (0, .ref h_o), (1, .int v1)]) hx hb dX8_laysKinds_70 hl (k := 2) rfl rfl (by decide) rfl (fun ls hl => ?_)
            refine lv_goto (tgt := 16) hx hb dX8_laysKinds_73 (by decide) ?_
            have hf := Option.some.inj hf
            subst hf
            rw [eG2] at hG
            obtain ⟨rr, hf, hG⟩ := hG
            exact h1 (ih16 (v2 + 1) o_rootOf_r rr hf hG _ _ hP hD hS _ (lv_sub hl [1, 2, 0] rfl))
          have J_28 : ∀ (v2 : Int32) (n : Nat) (v3 : Int32) (o_rootOf_r : Nat → Int32) (rr : (Int32 × (Nat → Int32)) ⊕ ((Int32 × (Nat → Int32)) ⊕ ((Nat → Int32)))) (hf : ds_it (fun s => fX8_laysKinds_28_b o_all_r o_shift_r o_plans_r v1 v2 s.1 s.2) n (v3, o_rootOf_r) = some rr) (hG : G2 rr) (H : Heap) (locs : List Loc) (hP : va_P (dC, dI) vwCl [(h_o, .inr (7, [.ref h_o_plans, .ref h_o_makers, .ref h_o_halves, .int o_raised, .ref h_o_all, .ref h_o_text, .ref h_o_saved, .ref h_o_undone, .int o_undos, .int o_reached, .int o_length, .int o_begin, .int o_letters, .int o_sort, .long o_word, .int o_wrongAt, .int o_badAt, .int o_bad, .ref h_o_told, .ref h_o_shift, .int o_firstX, .int o_firstY, .int o_secondX, .int o_secondY, .ref h_o_rootOf, .ref h_o_becomes, .ref h_o_comes, .ref h_o_next, .int o_x])), (h_o_rootOf, .inl (ca 0, 64, .inl o_rootOf_r)), (h_o_all, .inl (ca 0, 350, .inl o_all_r)), (h_o_shift, .inl (ca 3, 768, .inl o_shift_r)), (h_o_plans, .inl (ca 0, 80, .inl o_plans_r))] H) (hD : va_D A [(h_o, .inr (7, [.ref h_o_plans, .ref h_o_makers, .ref h_o_halves, .int o_raised, .ref h_o_all, .ref h_o_text, .ref h_o_saved, .ref h_o_undone, .int o_undos, .int o_reached, .int o_length, .int o_begin, .int o_letters, .int o_sort, .long o_word, .int o_wrongAt, .int o_badAt, .int o_bad, .ref h_o_told, .ref h_o_shift, .int o_firstX, .int o_firstY, .int o_secondX, .int o_secondY, .ref h_o_rootOf, .ref h_o_becomes, .ref h_o_comes, .ref h_o_next, .int o_x])), (h_o_rootOf, .inl (ca 0, 64, .inl o_rootOf_r)), (h_o_all, .inl (ca 0, 350, .inl o_all_r)), (h_o_shift, .inl (ca 3, 768, .inl o_shift_r)), (h_o_plans, .inl (ca 0, 80, .inl o_plans_r))]) (hS : va_S A s.heap H locs) (ls : Array Slot) (hl : lv_has ls 4 [(0, .ref h_o), (1, .int v1), (2, .int v2), (3, .int v3)]), WW H locs (F0 m 28 ls []) := by
            intro v2 n
            induction n with
            | zero => intro v3 o_rootOf_r rr hf; exact (ds_it_zero hf).elim
            | succ n ih28 =>
              intro v3 o_rootOf_r rr hf hG H locs hP hD hS ls hl
              refine h2 ?_
              obtain ⟨rr, hf, hG⟩ := ds_it_succ hf hG
              replace hf : fX8_laysKinds_28_b o_all_r o_shift_r o_plans_r v1 v2 v3 o_rootOf_r = some rr := hf
              obtain ⟨G3, eG3⟩ : ∃ G : ((Int32 × (Nat → Int32)) ⊕ ((Int32 × (Nat → Int32)) ⊕ ((Int32 × (Nat → Int32)) ⊕ ((Nat → Int32))))) → Prop, G = ds_G (fun s' => ∃ r', ds_it (fun s => fX8_laysKinds_28_b o_all_r o_shift_r o_plans_r v1 v2 s.1 s.2) n s' = some r' ∧ G2 r') G2 := ⟨_, rfl⟩
              rw [← eG3] at hG
              have J_64 : ∀ (v3 : Int32) (o_rootOf_r : Nat → Int32) (rr : (Int32 × (Nat → Int32)) ⊕ ((Int32 × (Nat → Int32)) ⊕ ((Int32 × (Nat → Int32)) ⊕ ((Nat → Int32))))) (hf : fX8_laysKinds_64 o_rootOf_r v3 = some rr) (hG : G3 rr) (H : Heap) (locs : List Loc) (hP : va_P (dC, dI) vwCl [(h_o, .inr (7, [.ref h_o_plans, .ref h_o_makers, .ref h_o_halves, .int o_raised, .ref h_o_all, .ref h_o_text, .ref h_o_saved, .ref h_o_undone, .int o_undos, .int o_reached, .int o_length, .int o_begin, .int o_letters, .int o_sort, .long o_word, .int o_wrongAt, .int o_badAt, .int o_bad, .ref h_o_told, .ref h_o_shift, .int o_firstX, .int o_firstY, .int o_secondX, .int o_secondY, .ref h_o_rootOf, .ref h_o_becomes, .ref h_o_comes, .ref h_o_next, .int o_x])), (h_o_rootOf, .inl (ca 0, 64, .inl o_rootOf_r)), (h_o_all, .inl (ca 0, 350, .inl o_all_r)), (h_o_shift, .inl (ca 3, 768, .inl o_shift_r)), (h_o_plans, .inl (ca 0, 80, .inl o_plans_r))] H) (hD : va_D A [(h_o, .inr (7, [.ref h_o_plans, .ref h_o_makers, .ref h_o_halves, .int o_raised, .ref h_o_all, .ref h_o_text, .ref h_o_saved, .ref h_o_undone, .int o_undos, .int o_reached, .int o_length, .int o_begin, .int o_letters, .int o_sort, .long o_word, .int o_wrongAt, .int o_badAt, .int o_bad, .ref h_o_told, .ref h_o_shift, .int o_firstX, .int o_firstY, .int o_secondX, .int o_secondY, .ref h_o_rootOf, .ref h_o_becomes, .ref h_o_comes, .ref h_o_next, .int o_x])), (h_o_rootOf, .inl (ca 0, 64, .inl o_rootOf_r)), (h_o_all, .inl (ca 0, 350, .inl o_all_r)), (h_o_shift, .inl (ca 3, 768, .inl o_shift_r)), (h_o_plans, .inl (ca 0, 80, .inl o_plans_r))]) (hS : va_S A s.heap H locs) (ls : Array Slot) (hl : lv_has ls 4 [(0, .ref h_o), (1, .int v1), (2, .int v2), (3, .int v3)]), WW H locs (F0 m 64 ls []) := by
                intro v3 o_rootOf_r rr hf hG H locs hP hD hS ls hl
                refine h2 ?_
                unfold fX8_laysKinds_64 at hf
                refine lv_iinc (v := (v3 + 1)) (lv' := [(3, .int (v3 + 1)), (0, .ref h_o), (1, .int v1), (2, .int v2)]) hx hb dX8_laysKinds_64 hl (k := 3) rfl rfl (by decide) rfl (fun ls hl => ?_)
                refine lv_goto (tgt := 28) hx hb dX8_laysKinds_67 (by decide) ?_
                have hf := Option.some.inj hf
                subst hf
                rw [eG3] at hG
                obtain ⟨rr, hf, hG⟩ := hG
                exact h1 (ih28 (v3 + 1) o_rootOf_r rr hf hG _ _ hP hD hS _ (lv_sub hl [1, 2, 3, 0] rfl))
              unfold fX8_laysKinds_28_b at hf
              refine lv_iload_n hx hb dX8_laysKinds_28 rfl (lv_at hl 3 rfl) ?_
              refine lv_aload_n hx hb dX8_laysKinds_29 rfl (lv_at hl 0 rfl) ?_
              refine va_get (D := (dC, dI)) (ci := 7) (v := .ref h_o_all) (C := RX8) (T := TX8) (N := 29) hx hb hts (fun w h => List.mem_cons_of_mem _ (kc_X8 w h)) hown hK hP 0 rfl rfl 4 (by decide) (hg kw_594) (fun _ h9 => h9) rfl dX8_laysKinds_30 ?_
              refine lv_iconst (v := 0) hx hb dX8_laysKinds_33 (by decide) ?_
              refine va_iald hx hb hK hP 2 0 rfl rfl (ds_in_ok (i := 0) (n := 350) (by decide)) dX8_laysKinds_34 ?_
              refine lv_icmp_ge (tgt := 70) hx hb dX8_laysKinds_35 (by decide) (fun c_35 => ?_) (fun c_35 => ?_)
              · replace hf := ds_t c_35 hf
                obtain ⟨rr, hr_0, hf⟩ := ds_ob hf
                have hf := Option.some.inj hf
                subst hf
                rw [eG3] at hG
                replace hG : G2 rr := hG
                have hf := hr_0
                exact h1 (J_70 v2 o_rootOf_r _ hf hG _ _ hP hD hS _ (lv_sub hl [0, 1, 2] rfl))
              · replace hf := ds_f c_35 hf
                refine lv_aload_n hx hb dX8_laysKinds_38 rfl (lv_at hl 0 rfl) ?_
                refine va_get (D := (dC, dI)) (ci := 7) (v := .ref h_o_shift) (C := RX8) (T := TX8) (N := 29) hx hb hts (fun w h => List.mem_cons_of_mem _ (kc_X8 w h)) hown hK hP 0 rfl rfl 19 (by decide) (hg kw_650) (fun _ h9 => h9) rfl dX8_laysKinds_39 ?_
                refine lv_bipush (v := 64) hx hb dX8_laysKinds_42 (by decide) ?_
                refine lv_iload_n hx hb dX8_laysKinds_44 rfl (lv_at hl 1 rfl) ?_
                refine lv_imul hx hb dX8_laysKinds_45 ?_
                refine lv_bipush (v := 8) hx hb dX8_laysKinds_46 (by decide) ?_
                refine lv_iload_n hx hb dX8_laysKinds_48 rfl (lv_at hl 2 rfl) ?_
                refine lv_imul hx hb dX8_laysKinds_49 ?_
                refine lv_iadd hx hb dX8_laysKinds_50 ?_
                refine lv_iload_n hx hb dX8_laysKinds_51 rfl (lv_at hl 3 rfl) ?_
                refine lv_iadd hx hb dX8_laysKinds_52 ?_
                obtain ⟨i_53, hf⟩ := ds_ci hf
                refine va_zald hx hb hK hP 3 3 rfl rfl i_53 dX8_laysKinds_53 ?_
                refine lv_if_eq (tgt := 64) hx hb dX8_laysKinds_54 (by decide) (fun c_54 => ?_) (fun c_54 => ?_)
                · replace hf := ds_t c_54 hf
                  exact h1 (J_64 v3 o_rootOf_r _ hf hG _ _ hP hD hS _ (lv_sub hl [0, 1, 2, 3] rfl))
                · replace hf := ds_f c_54 hf
                  refine lv_aload_n hx hb dX8_laysKinds_57 rfl (lv_at hl 0 rfl) ?_
                  refine lv_iload_n hx hb dX8_laysKinds_58 rfl (lv_at hl 1 rfl) ?_
                  refine lv_iload_n hx hb dX8_laysKinds_59 rfl (lv_at hl 3 rfl) ?_
                  refine lv_iload_n hx hb dX8_laysKinds_60 rfl (lv_at hl 2 rfl) ?_
                  obtain ⟨q61, hq61, hf⟩ := ds_ob hf
                  refine ds_callv (wr := [(h_o_shift, .inl (ca 3, 768, .inl o_shift_r))]) (va_runV (As := [.int v1, .int v3, .int v2]) (rest := []) ⟨hx, hb, hml, hown, hts⟩ (c_X8_joinsBy l dC dI ca sa h_o h_o_plans h_o_makers h_o_halves h_o_all h_o_text h_o_saved h_o_undone h_o_told h_o_shift h_o_rootOf h_o_becomes h_o_comes h_o_next H.size o_raised o_undos o_reached o_length o_begin o_letters o_sort o_word o_wrongAt o_badAt o_bad o_firstX o_firstY o_secondX o_secondY o_x o_all_r o_plans_r o_rootOf_r v1 v3 v2 q61 hq61) (cwV 3 hts (ds_gV kw_748 kw_749 kw_750 kw_597 kw_751) rfl rfl rfl (by decide +kernel) ⟨Nat.le_of_ble_eq_true rfl, Nat.le_of_ble_eq_true rfl⟩) ⟨ds_blind, va_recv hK hP (ci := 7) (q0 := 0) rfl rfl, ds_at hP hD hK hE hS hA [0, 2, 4, 1] rfl rfl _⟩ rfl rfl hl.1 rfl (lv_room (Nat.le_of_ble_eq_true rfl)) dX8_laysKinds_61 ⟨Nat.zero_le _, Nat.zero_le _⟩) hP hD hS hA [0, 2, 4, 1] [3] rfl rfl rfl (by decide) (fun H locs hP hD hS => ?_)
                  have hP : va_P (dC, dI) vwCl [(h_o_shift, .inl (ca 3, 768, .inl o_shift_r)), (h_o, .inr (7, [.ref h_o_plans, .ref h_o_makers, .ref h_o_halves, .int o_raised, .ref h_o_all, .ref h_o_text, .ref h_o_saved, .ref h_o_undone, .int o_undos, .int o_reached, .int o_length, .int o_begin, .int o_letters, .int o_sort, .long o_word, .int o_wrongAt, .int o_badAt, .int o_bad, .ref h_o_told, .ref h_o_shift, .int o_firstX, .int o_firstY, .int o_secondX, .int o_secondY, .ref h_o_rootOf, .ref h_o_becomes, .ref h_o_comes, .ref h_o_next, .int o_x])), (h_o_all, .inl (ca 0, 350, .inl o_all_r)), (h_o_plans, .inl (ca 0, 80, .inl o_plans_r)), (h_o_rootOf, .inl (ca 0, 64, .inl q61))] H := hP
                  have hD : va_D A [(h_o_shift, .inl (ca 3, 768, .inl o_shift_r)), (h_o, .inr (7, [.ref h_o_plans, .ref h_o_makers, .ref h_o_halves, .int o_raised, .ref h_o_all, .ref h_o_text, .ref h_o_saved, .ref h_o_undone, .int o_undos, .int o_reached, .int o_length, .int o_begin, .int o_letters, .int o_sort, .long o_word, .int o_wrongAt, .int o_badAt, .int o_bad, .ref h_o_told, .ref h_o_shift, .int o_firstX, .int o_firstY, .int o_secondX, .int o_secondY, .ref h_o_rootOf, .ref h_o_becomes, .ref h_o_comes, .ref h_o_next, .int o_x])), (h_o_all, .inl (ca 0, 350, .inl o_all_r)), (h_o_plans, .inl (ca 0, 80, .inl o_plans_r)), (h_o_rootOf, .inl (ca 0, 64, .inl q61))] := hD
                  exact h1 (J_64 v3 q61 _ hf hG _ _ (hP.sub [1, 4, 2, 0, 3] rfl) (hD.sub [1, 4, 2, 0, 3] rfl rfl) hS _ (lv_sub hl [0, 1, 2, 3] rfl))
          unfold fX8_laysKinds_16_b at hf
          refine lv_iload_n hx hb dX8_laysKinds_16 rfl (lv_at hl 2 rfl) ?_
          refine lv_aload_n hx hb dX8_laysKinds_17 rfl (lv_at hl 0 rfl) ?_
          refine va_get (D := (dC, dI)) (ci := 7) (v := .ref h_o_all) (C := RX8) (T := TX8) (N := 29) hx hb hts (fun w h => List.mem_cons_of_mem _ (kc_X8 w h)) hown hK hP 0 rfl rfl 4 (by decide) (hg kw_594) (fun _ h9 => h9) rfl dX8_laysKinds_18 ?_
          refine lv_iconst (v := 1) hx hb dX8_laysKinds_21 (by decide) ?_
          refine va_iald hx hb hK hP 2 0 rfl rfl (ds_in_ok (i := 1) (n := 350) (by decide)) dX8_laysKinds_22 ?_
          refine lv_icmp_ge (tgt := 76) hx hb dX8_laysKinds_23 (by decide) (fun c_23 => ?_) (fun c_23 => ?_)
          · replace hf := ds_t c_23 hf
            obtain ⟨rr, hr_0, hf⟩ := ds_ob hf
            have hf := Option.some.inj hf
            subst hf
            rw [eG2] at hG
            replace hG : G1 rr := hG
            have hf := hr_0
            exact h1 (J_76 v1 o_rootOf_r _ hf hG _ _ hP hD hS _ (lv_sub hl [0, 1] rfl))
          · replace hf := ds_f c_23 hf
            refine lv_iconst (v := 0) hx hb dX8_laysKinds_26 (by decide) ?_
            refine lv_istore_n (lv' := [(3, .int (0 : Int32)), (0, .ref h_o), (1, .int v1), (2, .int v2)]) hx hb dX8_laysKinds_27 rfl hl (by decide) rfl (fun ls hl => ?_)
            exact h1 (J_28 v2 1000 (0 : Int32) o_rootOf_r _ hf hG _ _ hP hD hS _ (lv_sub hl [1, 2, 3, 0] rfl))
      unfold fX8_laysKinds_6_b at hf
      refine lv_iload_n hx hb dX8_laysKinds_6 rfl (lv_at hl 1 rfl) ?_
      refine lv_aload_n hx hb dX8_laysKinds_7 rfl (lv_at hl 0 rfl) ?_
      obtain ⟨q8, hq8, hf⟩ := ds_ob hf
      refine ds_calli (wr := [(h_o_rootOf, .inl (ca 0, 64, .inl o_rootOf_r)), (h_o_shift, .inl (ca 3, 768, .inl o_shift_r)), (h_o_plans, .inl (ca 0, 80, .inl o_plans_r))]) (va_runV (As := []) (rest := [.int v1]) ⟨hx, hb, hml, hown, hts⟩ (c_X8_turnings l dC dI ca sa h_o h_o_plans h_o_makers h_o_halves h_o_all h_o_text h_o_saved h_o_undone h_o_told h_o_shift h_o_rootOf h_o_becomes h_o_comes h_o_next H.size o_raised o_undos o_reached o_length o_begin o_letters o_sort o_word o_wrongAt o_badAt o_bad o_firstX o_firstY o_secondX o_secondY o_x o_all_r  q8 hq8) (cwV 0 hts (ds_gV kw_604 kw_605 kw_606 kw_597 kw_607) rfl rfl rfl (by decide +kernel) ⟨Nat.le_of_ble_eq_true rfl, Nat.le_of_ble_eq_true rfl⟩) ⟨ds_blind, va_recv hK hP (ci := 7) (q0 := 0) rfl rfl, ds_at hP hD hK hE hS hA [0, 2] rfl rfl _⟩ rfl rfl hl.1 rfl (lv_room (Nat.le_of_ble_eq_true rfl)) dX8_laysKinds_8 ⟨Nat.zero_le _, Nat.zero_le _⟩) hP hD hS hA [0, 2] [1, 3, 4] rfl rfl rfl (by decide) (fun H locs hP hD hS => ?_)
      have hP : va_P (dC, dI) vwCl [(h_o_rootOf, .inl (ca 0, 64, .inl o_rootOf_r)), (h_o_shift, .inl (ca 3, 768, .inl o_shift_r)), (h_o_plans, .inl (ca 0, 80, .inl o_plans_r)), (h_o, .inr (7, [.ref h_o_plans, .ref h_o_makers, .ref h_o_halves, .int o_raised, .ref h_o_all, .ref h_o_text, .ref h_o_saved, .ref h_o_undone, .int o_undos, .int o_reached, .int o_length, .int o_begin, .int o_letters, .int o_sort, .long o_word, .int o_wrongAt, .int o_badAt, .int o_bad, .ref h_o_told, .ref h_o_shift, .int o_firstX, .int o_firstY, .int o_secondX, .int o_secondY, .ref h_o_rootOf, .ref h_o_becomes, .ref h_o_comes, .ref h_o_next, .int o_x])), (h_o_all, .inl (ca 0, 350, .inl o_all_r))] H := hP
      have hD : va_D A [(h_o_rootOf, .inl (ca 0, 64, .inl o_rootOf_r)), (h_o_shift, .inl (ca 3, 768, .inl o_shift_r)), (h_o_plans, .inl (ca 0, 80, .inl o_plans_r)), (h_o, .inr (7, [.ref h_o_plans, .ref h_o_makers, .ref h_o_halves, .int o_raised, .ref h_o_all, .ref h_o_text, .ref h_o_saved, .ref h_o_undone, .int o_undos, .int o_reached, .int o_length, .int o_begin, .int o_letters, .int o_sort, .long o_word, .int o_wrongAt, .int o_badAt, .int o_bad, .ref h_o_told, .ref h_o_shift, .int o_firstX, .int o_firstY, .int o_secondX, .int o_secondY, .ref h_o_rootOf, .ref h_o_becomes, .ref h_o_comes, .ref h_o_next, .int o_x])), (h_o_all, .inl (ca 0, 350, .inl o_all_r))] := hD
      refine lv_icmp_ge (tgt := 82) hx hb dX8_laysKinds_11 (by decide) (fun c_11 => ?_) (fun c_11 => ?_)
      · replace hf := ds_t c_11 hf
        have hf := Option.some.inj hf
        subst hf
        rw [eG1] at hG
        replace hG : G0 _ := hG
        rw [eG0] at hG
        have hG : _ = res := hG
        subst hG
        exact W.vret hx hb hr (fun t ht hW => ⟨⟨(), rfl, trivial, by rw [ht]; exact (hP.sub [3, 0, 4, 1, 2] rfl), (hD.sub [3, 0, 4, 1, 2] rfl rfl)⟩, hS.F ht⟩) hS.2.2 dX8_laysKinds_82
      · replace hf := ds_f c_11 hf
        refine lv_iconst (v := 0) hx hb dX8_laysKinds_14 (by decide) ?_
        refine lv_istore_n (lv' := [(2, .int (0 : Int32)), (0, .ref h_o), (1, .int v1)]) hx hb dX8_laysKinds_15 rfl hl (by decide) rfl (fun ls hl => ?_)
        exact h1 (J_16 v1 1000 (0 : Int32) o_rootOf_r _ hf hG _ _ (hP.sub [3, 0, 4, 1, 2] rfl) (hD.sub [3, 0, 4, 1, 2] rfl rfl) hS _ (lv_sub hl [1, 2, 0] rfl))
  unfold fX8_laysKinds at hf
  refine lv_aload_n hx hb dX8_laysKinds_0 rfl (lv_at hl 0 rfl) ?_
  obtain ⟨q1, hq1, hf⟩ := ds_ob hf
  refine ds_callv (wr := [(h_o_all, .inl (ca 0, 350, .inl o_all_r)), (h_o_shift, .inl (ca 3, 768, .inl o_shift_r)), (h_o_plans, .inl (ca 0, 80, .inl o_plans_r))]) (va_runV (As := []) (rest := []) ⟨hx, hb, hml, hown, hts⟩ (c_X8_alone l dC dI ca sa h_o h_o_plans h_o_makers h_o_halves h_o_all h_o_text h_o_saved h_o_undone h_o_told h_o_shift h_o_rootOf h_o_becomes h_o_comes h_o_next s.heap.size o_raised o_undos o_reached o_length o_begin o_letters o_sort o_word o_wrongAt o_badAt o_bad o_firstX o_firstY o_secondX o_secondY o_x o_rootOf_r  q1 hq1) (cwV 0 hts (ds_gV kw_752 kw_753 kw_754 kw_597 kw_755) rfl rfl rfl (by decide +kernel) ⟨Nat.le_of_ble_eq_true rfl, Nat.le_of_ble_eq_true rfl⟩) ⟨ds_blind, va_recv hK hP (ci := 7) (q0 := 0) rfl rfl, ds_at hP hD hK hE hS hA [0, 1] rfl rfl _⟩ rfl rfl hl.1 rfl (lv_room (Nat.le_of_ble_eq_true rfl)) dX8_laysKinds_1 ⟨Nat.zero_le _, Nat.zero_le _⟩) hP hD hS hA [0, 1] [2, 3, 4] rfl rfl rfl (by decide) (fun H locs hP hD hS => ?_)
  have hP : va_P (dC, dI) vwCl [(h_o_all, .inl (ca 0, 350, .inl o_all_r)), (h_o_shift, .inl (ca 3, 768, .inl o_shift_r)), (h_o_plans, .inl (ca 0, 80, .inl o_plans_r)), (h_o, .inr (7, [.ref h_o_plans, .ref h_o_makers, .ref h_o_halves, .int o_raised, .ref h_o_all, .ref h_o_text, .ref h_o_saved, .ref h_o_undone, .int o_undos, .int o_reached, .int o_length, .int o_begin, .int o_letters, .int o_sort, .long o_word, .int o_wrongAt, .int o_badAt, .int o_bad, .ref h_o_told, .ref h_o_shift, .int o_firstX, .int o_firstY, .int o_secondX, .int o_secondY, .ref h_o_rootOf, .ref h_o_becomes, .ref h_o_comes, .ref h_o_next, .int o_x])), (h_o_rootOf, .inl (ca 0, 64, .inl q1))] H := hP
  have hD : va_D A [(h_o_all, .inl (ca 0, 350, .inl o_all_r)), (h_o_shift, .inl (ca 3, 768, .inl o_shift_r)), (h_o_plans, .inl (ca 0, 80, .inl o_plans_r)), (h_o, .inr (7, [.ref h_o_plans, .ref h_o_makers, .ref h_o_halves, .int o_raised, .ref h_o_all, .ref h_o_text, .ref h_o_saved, .ref h_o_undone, .int o_undos, .int o_reached, .int o_length, .int o_begin, .int o_letters, .int o_sort, .long o_word, .int o_wrongAt, .int o_badAt, .int o_bad, .ref h_o_told, .ref h_o_shift, .int o_firstX, .int o_firstY, .int o_secondX, .int o_secondY, .ref h_o_rootOf, .ref h_o_becomes, .ref h_o_comes, .ref h_o_next, .int o_x])), (h_o_rootOf, .inl (ca 0, 64, .inl q1))] := hD
  refine lv_iconst (v := 0) hx hb dX8_laysKinds_4 (by decide) ?_
  refine lv_istore_n (lv' := [(1, .int (0 : Int32)), (0, .ref h_o)]) hx hb dX8_laysKinds_5 rfl hl (by decide) rfl (fun ls hl => ?_)
  exact h1 (J_6  1000 (0 : Int32) q1 _ hf hG _ _ (hP.sub [3, 4, 0, 1, 2] rfl) (hD.sub [3, 4, 0, 1, 2] rfl rfl) hS _ (lv_sub hl [1, 0] rfl))
