theorem dX8_leaders_0 : decode cX8_leaders 0 = .ok (.iconst 0, 1) := by decide +kernel
theorem dX8_leaders_1 : decode cX8_leaders 1 = .ok (.istore_n 2, 1) := by decide +kernel
theorem dX8_leaders_2 : decode cX8_leaders 2 = .ok (.iconst 0, 1) := by decide +kernel
theorem dX8_leaders_3 : decode cX8_leaders 3 = .ok (.istore_n 3, 1) := by decide +kernel
theorem dX8_leaders_4 : decode cX8_leaders 4 = .ok (.iload_n 3, 1) := by decide +kernel
theorem dX8_leaders_5 : decode cX8_leaders 5 = .ok (.aload_n 0, 1) := by decide +kernel
theorem dX8_leaders_6 : decode cX8_leaders 6 = .ok (.getfield 19, 3) := by decide +kernel
theorem dX8_leaders_9 : decode cX8_leaders 9 = .ok (.iconst 1, 1) := by decide +kernel
theorem dX8_leaders_10 : decode cX8_leaders 10 = .ok (.iaload, 1) := by decide +kernel
theorem dX8_leaders_11 : decode cX8_leaders 11 = .ok (.if_icmp .ge 70, 3) := by decide +kernel
theorem dX8_leaders_14 : decode cX8_leaders 14 = .ok (.iconst 0, 1) := by decide +kernel
theorem dX8_leaders_15 : decode cX8_leaders 15 = .ok (.istore 4, 2) := by decide +kernel
theorem dX8_leaders_17 : decode cX8_leaders 17 = .ok (.iload 4, 2) := by decide +kernel
theorem dX8_leaders_19 : decode cX8_leaders 19 = .ok (.aload_n 0, 1) := by decide +kernel
theorem dX8_leaders_20 : decode cX8_leaders 20 = .ok (.getfield 19, 3) := by decide +kernel
theorem dX8_leaders_23 : decode cX8_leaders 23 = .ok (.iconst 0, 1) := by decide +kernel
theorem dX8_leaders_24 : decode cX8_leaders 24 = .ok (.iaload, 1) := by decide +kernel
theorem dX8_leaders_25 : decode cX8_leaders 25 = .ok (.if_icmp .ge 50, 3) := by decide +kernel
theorem dX8_leaders_28 : decode cX8_leaders 28 = .ok (.iload_n 2, 1) := by decide +kernel
theorem dX8_leaders_29 : decode cX8_leaders 29 = .ok (.bipush 8, 2) := by decide +kernel
theorem dX8_leaders_31 : decode cX8_leaders 31 = .ok (.iload_n 3, 1) := by decide +kernel
theorem dX8_leaders_32 : decode cX8_leaders 32 = .ok (.imul, 1) := by decide +kernel
theorem dX8_leaders_33 : decode cX8_leaders 33 = .ok (.iload 4, 2) := by decide +kernel
theorem dX8_leaders_35 : decode cX8_leaders 35 = .ok (.iadd, 1) := by decide +kernel
theorem dX8_leaders_36 : decode cX8_leaders 36 = .ok (.iload_n 1, 1) := by decide +kernel
theorem dX8_leaders_37 : decode cX8_leaders 37 = .ok (.if_icmp .ge 29, 3) := by decide +kernel
theorem dX8_leaders_40 : decode cX8_leaders 40 = .ok (.aload_n 0, 1) := by decide +kernel
theorem dX8_leaders_41 : decode cX8_leaders 41 = .ok (.getfield 39, 3) := by decide +kernel
theorem dX8_leaders_44 : decode cX8_leaders 44 = .ok (.bipush 8, 2) := by decide +kernel
theorem dX8_leaders_46 : decode cX8_leaders 46 = .ok (.iload_n 3, 1) := by decide +kernel
theorem dX8_leaders_47 : decode cX8_leaders 47 = .ok (.imul, 1) := by decide +kernel
theorem dX8_leaders_48 : decode cX8_leaders 48 = .ok (.iload 4, 2) := by decide +kernel
theorem dX8_leaders_50 : decode cX8_leaders 50 = .ok (.iadd, 1) := by decide +kernel
theorem dX8_leaders_51 : decode cX8_leaders 51 = .ok (.iaload, 1) := by decide +kernel
theorem dX8_leaders_52 : decode cX8_leaders 52 = .ok (.bipush 8, 2) := by decide +kernel
theorem dX8_leaders_54 : decode cX8_leaders 54 = .ok (.iload_n 3, 1) := by decide +kernel
theorem dX8_leaders_55 : decode cX8_leaders 55 = .ok (.imul, 1) := by decide +kernel
theorem dX8_leaders_56 : decode cX8_leaders 56 = .ok (.iload 4, 2) := by decide +kernel
theorem dX8_leaders_58 : decode cX8_leaders 58 = .ok (.iadd, 1) := by decide +kernel
theorem dX8_leaders_59 : decode cX8_leaders 59 = .ok (.if_icmp .ne 7, 3) := by decide +kernel
theorem dX8_leaders_62 : decode cX8_leaders 62 = .ok (.iconst 1, 1) := by decide +kernel
theorem dX8_leaders_63 : decode cX8_leaders 63 = .ok (.goto 4, 3) := by decide +kernel
theorem dX8_leaders_66 : decode cX8_leaders 66 = .ok (.iconst 0, 1) := by decide +kernel
theorem dX8_leaders_67 : decode cX8_leaders 67 = .ok (.iadd, 1) := by decide +kernel
theorem dX8_leaders_68 : decode cX8_leaders 68 = .ok (.istore_n 2, 1) := by decide +kernel
theorem dX8_leaders_69 : decode cX8_leaders 69 = .ok (.iinc 4 1, 3) := by decide +kernel
theorem dX8_leaders_72 : decode cX8_leaders 72 = .ok (.goto (-55), 3) := by decide +kernel
theorem dX8_leaders_75 : decode cX8_leaders 75 = .ok (.iinc 3 1, 3) := by decide +kernel
theorem dX8_leaders_78 : decode cX8_leaders 78 = .ok (.goto (-74), 3) := by decide +kernel
theorem dX8_leaders_81 : decode cX8_leaders 81 = .ok (.iload_n 2, 1) := by decide +kernel
theorem dX8_leaders_82 : decode cX8_leaders 82 = .ok (.ireturn, 1) := by decide +kernel
def fX8_leaders_75 (v2 : Int32) (v3 : Int32) : Option ((Int32 × Int32) ⊕ (Int32)) :=
  some (.inl (v2, (v3 + 1)))
def fX8_leaders_67 (v4 : Int32) (s0 : Int32) (s1 : Int32) : Option ((Int32 × Int32) ⊕ ((Int32 × Int32) ⊕ (Int32))) :=
  some (.inl ((s1 + s0), (v4 + 1)))
def fX8_leaders_66 (v4 : Int32) (s0 : Int32) : Option ((Int32 × Int32) ⊕ ((Int32 × Int32) ⊕ (Int32))) :=
  fX8_leaders_67 v4 (0 : Int32) s0
def fX8_leaders_17_b (o_all_r : Nat → Int32) (o_rootOf_r : Nat → Int32) (p1 : Int32) (v3 : Int32) (v2 : Int32) (v4 : Int32) : Option ((Int32 × Int32) ⊕ ((Int32 × Int32) ⊕ (Int32))) :=
  if (o_all_r (0 : Int32).toNatClampNeg) ≤ v4 then Option.bind (fX8_leaders_75 v2 v3) fun z => some (.inr z) else if p1 ≤ (((8 : Int32) * v3) + v4) then fX8_leaders_66 v4 v2 else if ds_in (((8 : Int32) * v3) + v4) 64 = true then if (o_rootOf_r (((8 : Int32) * v3) + v4).toNatClampNeg) = (((8 : Int32) * v3) + v4) then fX8_leaders_67 v4 (1 : Int32) v2 else fX8_leaders_66 v4 v2 else none
def fX8_leaders_17 (o_all_r : Nat → Int32) (o_rootOf_r : Nat → Int32) (p1 : Int32) (v3 : Int32) (v2 : Int32) (v4 : Int32) : Option ((Int32 × Int32) ⊕ (Int32)) := ds_it (fun s => fX8_leaders_17_b o_all_r o_rootOf_r p1 v3 s.1 s.2) 1000 (v2, v4)
def fX8_leaders_4_b (o_all_r : Nat → Int32) (o_rootOf_r : Nat → Int32) (p1 : Int32) (v2 : Int32) (v3 : Int32) : Option ((Int32 × Int32) ⊕ (Int32)) :=
  if (o_all_r (1 : Int32).toNatClampNeg) ≤ v3 then some (.inr v2) else fX8_leaders_17 o_all_r o_rootOf_r p1 v3 v2 (0 : Int32)
def fX8_leaders_4 (o_all_r : Nat → Int32) (o_rootOf_r : Nat → Int32) (p1 : Int32) (v2 : Int32) (v3 : Int32) : Option (Int32) := ds_it (fun s => fX8_leaders_4_b o_all_r o_rootOf_r p1 s.1 s.2) 1000 (v2, v3)
def fX8_leaders (o_all_r : Nat → Int32) (o_rootOf_r : Nat → Int32) (p1 : Int32) : Option (Int32) :=
  fX8_leaders_4 o_all_r o_rootOf_r p1 (0 : Int32) (0 : Int32)
set_option maxHeartbeats 4000000 in
set_option maxRecDepth 100000 in
theorem c_X8_leaders (l : Launch) (dC : Nat → ClassId) (dI : Nat → Nat → Nat) (ca : Nat → ClassId) (sa : Nat → Nat) (h_o : Nat) (h_o_plans : Nat) (h_o_makers : Nat) (h_o_halves : Nat) (h_o_all : Nat) (h_o_text : Nat) (h_o_saved : Nat) (h_o_undone : Nat) (h_o_told : Nat) (h_o_shift : Nat) (h_o_rootOf : Nat) (h_o_becomes : Nat) (h_o_comes : Nat) (h_o_next : Nat) (sz : Nat) (o_raised : Int32) (o_undos : Int32) (o_reached : Int32) (o_length : Int32) (o_begin : Int32) (o_letters : Int32) (o_sort : Int32) (o_word : Int64) (o_wrongAt : Int32) (o_badAt : Int32) (o_bad : Int32) (o_firstX : Int32) (o_firstY : Int32) (o_secondX : Int32) (o_secondY : Int32) (o_x : Int32) (o_all_r : Nat → Int32) (o_rootOf_r : Nat → Int32) (p1 : Int32) (res : Int32) (hf : fX8_leaders o_all_r o_rootOf_r p1 = some res) : Met l yX8_leaders (Cond.code yX8_leaders cX8_leaders 5 (some .int) :: ds_gw) { frames := 0, cells := 0, slots := 0, locals := 0 } (va_Pc [.ref h_o, .int p1] (ds_Pre dC dI ca sa [(h_o, .inr (7, [.ref h_o_plans, .ref h_o_makers, .ref h_o_halves, .int o_raised, .ref h_o_all, .ref h_o_text, .ref h_o_saved, .ref h_o_undone, .int o_undos, .int o_reached, .int o_length, .int o_begin, .int o_letters, .int o_sort, .long o_word, .int o_wrongAt, .int o_badAt, .int o_bad, .ref h_o_told, .ref h_o_shift, .int o_firstX, .int o_firstY, .int o_secondX, .int o_secondY, .ref h_o_rootOf, .ref h_o_becomes, .ref h_o_comes, .ref h_o_next, .int o_x])), (h_o_all, .inl (ca 0, 350, .inl o_all_r)), (h_o_rootOf, .inl (ca 0, 64, .inl o_rootOf_r))] sz)) (va_Qi (fun r (_ : Unit) => r = res) (ds_B dC dI (va_A [(h_o, .inr (7, [.ref h_o_plans, .ref h_o_makers, .ref h_o_halves, .int o_raised, .ref h_o_all, .ref h_o_text, .ref h_o_saved, .ref h_o_undone, .int o_undos, .int o_reached, .int o_length, .int o_begin, .int o_letters, .int o_sort, .long o_word, .int o_wrongAt, .int o_badAt, .int o_bad, .ref h_o_told, .ref h_o_shift, .int o_firstX, .int o_firstY, .int o_secondX, .int o_secondY, .ref h_o_rootOf, .ref h_o_becomes, .ref h_o_comes, .ref h_o_next, .int o_x])), (h_o_all, .inl (ca 0, 350, .inl o_all_r)), (h_o_rootOf, .inl (ca 0, 64, .inl o_rootOf_r))] sz) [(h_o, .inr (7, [.ref h_o_plans, .ref h_o_makers, .ref h_o_halves, .int o_raised, .ref h_o_all, .ref h_o_text, .ref h_o_saved, .ref h_o_undone, .int o_undos, .int o_reached, .int o_length, .int o_begin, .int o_letters, .int o_sort, .long o_word, .int o_wrongAt, .int o_badAt, .int o_bad, .ref h_o_told, .ref h_o_shift, .int o_firstX, .int o_firstY, .int o_secondX, .int o_secondY, .ref h_o_rootOf, .ref h_o_becomes, .ref h_o_comes, .ref h_o_next, .int o_x])), (h_o_all, .inl (ca 0, 350, .inl o_all_r)), (h_o_rootOf, .inl (ca 0, 64, .inl o_rootOf_r))]) (va_A [(h_o, .inr (7, [.ref h_o_plans, .ref h_o_makers, .ref h_o_halves, .int o_raised, .ref h_o_all, .ref h_o_text, .ref h_o_saved, .ref h_o_undone, .int o_undos, .int o_reached, .int o_length, .int o_begin, .int o_letters, .int o_sort, .long o_word, .int o_wrongAt, .int o_badAt, .int o_bad, .ref h_o_told, .ref h_o_shift, .int o_firstX, .int o_firstY, .int o_secondX, .int o_secondY, .ref h_o_rootOf, .ref h_o_becomes, .ref h_o_comes, .ref h_o_next, .int o_x])), (h_o_all, .inl (ca 0, 350, .inl o_all_r)), (h_o_rootOf, .inl (ca 0, 64, .inl o_rootOf_r))] sz)) 0 0 (va_A [(h_o, .inr (7, [.ref h_o_plans, .ref h_o_makers, .ref h_o_halves, .int o_raised, .ref h_o_all, .ref h_o_text, .ref h_o_saved, .ref h_o_undone, .int o_undos, .int o_reached, .int o_length, .int o_begin, .int o_letters, .int o_sort, .long o_word, .int o_wrongAt, .int o_badAt, .int o_bad, .ref h_o_told, .ref h_o_shift, .int o_firstX, .int o_firstY, .int o_secondX, .int o_secondY, .ref h_o_rootOf, .ref h_o_becomes, .ref h_o_comes, .ref h_o_next, .int o_x])), (h_o_all, .inl (ca 0, 350, .inl o_all_r)), (h_o_rootOf, .inl (ca 0, 64, .inl o_rootOf_r))] sz) := by
  refine Met.ofW (cc := cX8_leaders) (maxL := 5) (ret := (some .int)) (by decide) rfl ?_
  intro p e s m args below meth c s₁ B hml hv
  obtain ⟨rfl, hsz, hP, hK, hD0, hE⟩ := hv
  have hx := B.exec
  have hb := B.bytes
  have hr := B.returns
  have hts := atoms_spec (ws := Cond.code yX8_leaders cX8_leaders 5 (some .int) :: ds_gw) B.pre
  have hg : ∀ {w : Cond}, w ∈ ds_gw → w.before _ s = true := fun h => hts _ (List.mem_cons_of_mem _ h)
  have hown : s.vm.findClass RX8 = some m.cls := findClass_of_methodNamed B.named
  have hlocks := B.notSynchronized
  subst hsz
  have hD := hD0.self (sz := s.heap.size)
  generalize hAe : va_A [(h_o, .inr (7, [.ref h_o_plans, .ref h_o_makers, .ref h_o_halves, .int o_raised, .ref h_o_all, .ref h_o_text, .ref h_o_saved, .ref h_o_undone, .int o_undos, .int o_reached, .int o_length, .int o_begin, .int o_letters, .int o_sort, .long o_word, .int o_wrongAt, .int o_badAt, .int o_bad, .ref h_o_told, .ref h_o_shift, .int o_firstX, .int o_firstY, .int o_secondX, .int o_secondY, .ref h_o_rootOf, .ref h_o_becomes, .ref h_o_comes, .ref h_o_next, .int o_x])), (h_o_all, .inl (ca 0, 350, .inl o_all_r)), (h_o_rootOf, .inl (ca 0, 64, .inl o_rootOf_r))] s.heap.size = A at hD hE ⊢
  have hA : ∀ q : Nat, s.heap.size ≤ q → A q := fun q h => by rw [← hAe]; exact Or.inr h
  have hS : va_S A s.heap s.heap [] := va_S.rf
  have hl := lv_entry ([.ref h_o, .int p1]) (n := 5) (Nat.le_of_ble_eq_true rfl)
  rw [lg_entry_eq]
  generalize (lg_sl ([.ref h_o, .int p1]) ++ List.replicate (5 - (lg_sl ([.ref h_o, .int p1])).length) Slot.unset).toArray = ls at hl ⊢
  have hl : lv_has ls 5 [(0, .ref h_o), (1, .int p1)] := hl
  obtain ⟨G0, eG0⟩ : ∃ G : Int32 → Prop, G = (fun r => r = res) := ⟨_, rfl⟩
  obtain ⟨rr, hrr⟩ : ∃ z, z = res := ⟨_, rfl⟩
  rw [← hrr] at hf
  have hG : G0 rr := by subst eG0; exact hrr
  refine ds_cap (fun WW h1 h2 => ?_)
  have J_4 : ∀ (n : Nat) (v2 : Int32) (v3 : Int32) (rr : Int32) (hf : ds_it (fun s => fX8_leaders_4_b o_all_r o_rootOf_r p1 s.1 s.2) n (v2, v3) = some rr) (hG : G0 rr) (H : Heap) (locs : List Loc) (hP : va_P (dC, dI) vwCl [(h_o, .inr (7, [.ref h_o_plans, .ref h_o_makers, .ref h_o_halves, .int o_raised, .ref h_o_all, .ref h_o_text, .ref h_o_saved, .ref h_o_undone, .int o_undos, .int o_reached, .int o_length, .int o_begin, .int o_letters, .int o_sort, .long o_word, .int o_wrongAt, .int o_badAt, .int o_bad, .ref h_o_told, .ref h_o_shift, .int o_firstX, .int o_firstY, .int o_secondX, .int o_secondY, .ref h_o_rootOf, .ref h_o_becomes, .ref h_o_comes, .ref h_o_next, .int o_x])), (h_o_all, .inl (ca 0, 350, .inl o_all_r)), (h_o_rootOf, .inl (ca 0, 64, .inl o_rootOf_r))] H) (hD : va_D A [(h_o, .inr (7, [.ref h_o_plans, .ref h_o_makers, .ref h_o_halves, .int o_raised, .ref h_o_all, .ref h_o_text, .ref h_o_saved, .ref h_o_undone, .int o_undos, .int o_reached, .int o_length, .int o_begin, .int o_letters, .int o_sort, .long o_word, .int o_wrongAt, .int o_badAt, .int o_bad, .ref h_o_told, .ref h_o_shift, .int o_firstX, .int o_firstY, .int o_secondX, .int o_secondY, .ref h_o_rootOf, .ref h_o_becomes, .ref h_o_comes, .ref h_o_next, .int o_x])), (h_o_all, .inl (ca 0, 350, .inl o_all_r)), (h_o_rootOf, .inl (ca 0, 64, .inl o_rootOf_r))]) (hS : va_S A s.heap H locs) (ls : Array Slot) (hl : lv_has ls 5 [(0, .ref h_o), (1, .int p1), (2, .int v2), (3, .int v3)]), WW H locs (F0 m 4 ls []) := by
    intro  n
    induction n with
    | zero => intro v2 v3 rr hf; exact (ds_it_zero hf).elim
    | succ n ih4 =>
      intro v2 v3 rr hf hG H locs hP hD hS ls hl
      refine h2 ?_
      obtain ⟨rr, hf, hG⟩ := ds_it_succ hf hG
      replace hf : fX8_leaders_4_b o_all_r o_rootOf_r p1 v2 v3 = some rr := hf
      obtain ⟨G1, eG1⟩ : ∃ G : ((Int32 × Int32) ⊕ (Int32)) → Prop, G = ds_G (fun s' => ∃ r', ds_it (fun s => fX8_leaders_4_b o_all_r o_rootOf_r p1 s.1 s.2) n s' = some r' ∧ G0 r') G0 := ⟨_, rfl⟩
      rw [← eG1] at hG
      have J_75 : ∀ (v2 : Int32) (v3 : Int32) (rr : (Int32 × Int32) ⊕ (Int32)) (hf : fX8_leaders_75 v2 v3 = some rr) (hG : G1 rr) (H : Heap) (locs : List Loc) (hP : va_P (dC, dI) vwCl [(h_o, .inr (7, [.ref h_o_plans, .ref h_o_makers, .ref h_o_halves, .int o_raised, .ref h_o_all, .ref h_o_text, .ref h_o_saved, .ref h_o_undone, .int o_undos, .int o_reached, .int o_length, .int o_begin, .int o_letters, .int o_sort, .long o_word, .int o_wrongAt, .int o_badAt, .int o_bad, .ref h_o_told, .ref h_o_shift, .int o_firstX, .int o_firstY, .int o_secondX, .int o_secondY, .ref h_o_rootOf, .ref h_o_becomes, .ref h_o_comes, .ref h_o_next, .int o_x])), (h_o_all, .inl (ca 0, 350, .inl o_all_r)), (h_o_rootOf, .inl (ca 0, 64, .inl o_rootOf_r))] H) (hD : va_D A [(h_o, .inr (7, [.ref h_o_plans, .ref h_o_makers, .ref h_o_halves, .int o_raised, .ref h_o_all, .ref h_o_text, .ref h_o_saved, .ref h_o_undone, .int o_undos, .int o_reached, .int o_length, .int o_begin, .int o_letters, .int o_sort, .long o_word, .int o_wrongAt, .int o_badAt, .int o_bad, .ref h_o_told, .ref h_o_shift, .int o_firstX, .int o_firstY, .int o_secondX, .int o_secondY, .ref h_o_rootOf, .ref h_o_becomes, .ref h_o_comes, .ref h_o_next, .int o_x])), (h_o_all, .inl (ca 0, 350, .inl o_all_r)), (h_o_rootOf, .inl (ca 0, 64, .inl o_rootOf_r))]) (hS : va_S A s.heap H locs) (ls : Array Slot) (hl : lv_has ls 5 [(0, .ref h_o), (1, .int p1), (2, .int v2), (3, .int v3)]), WW H locs (F0 m 75 ls []) := by
        intro v2 v3 rr hf hG H locs hP hD hS ls hl
        refine h2 ?_
        unfold fX8_leaders_75 at hf
        refine lv_iinc (v := (v3 + 1)) (lv' := [(3, .int (v3 + 1)), (0, .ref h_o), (1, .int p1), (2, .int v2)]) hx hb dX8_leaders_75 hl (k := 3) rfl rfl (by decide) rfl (fun ls hl => ?_)
        refine lv_goto (tgt := 4) hx hb dX8_leaders_78 (by decide) ?_
        have hf := Option.some.inj hf
        subst hf
        rw [eG1] at hG
        obtain ⟨rr, hf, hG⟩ := hG
        exact h1 (ih4 v2 (v3 + 1) rr hf hG _ _ hP hD hS _ (lv_sub hl [1, 2, 3, 0] rfl))
      have J_17 : ∀ (v3 : Int32) (n : Nat) (v2 : Int32) (v4 : Int32) (rr : (Int32 × Int32) ⊕ (Int32)) (hf : ds_it (fun s => fX8_leaders_17_b o_all_r o_rootOf_r p1 v3 s.1 s.2) n (v2, v4) = some rr) (hG : G1 rr) (H : Heap) (locs : List Loc) (hP : va_P (dC, dI) vwCl [(h_o, .inr (7, [.ref h_o_plans, .ref h_o_makers, .ref h_o_halves, .int o_raised, .ref h_o_all, .ref h_o_text, .ref h_o_saved, .ref h_o_undone, .int o_undos, .int o_reached, .int o_length, .int o_begin, .int o_letters, .int o_sort, .long o_word, .int o_wrongAt, .int o_badAt, .int o_bad, .ref h_o_told, .ref h_o_shift, .int o_firstX, .int o_firstY, .int o_secondX, .int o_secondY, .ref h_o_rootOf, .ref h_o_becomes, .ref h_o_comes, .ref h_o_next, .int o_x])), (h_o_all, .inl (ca 0, 350, .inl o_all_r)), (h_o_rootOf, .inl (ca 0, 64, .inl o_rootOf_r))] H) (hD : va_D A [(h_o, .inr (7, [.ref h_o_plans, .ref h_o_makers, .ref h_o_halves, .int o_raised, .ref h_o_all, .ref h_o_text, .ref h_o_saved, .ref h_o_undone, .int o_undos, .int o_reached, .int o_length, .int o_begin, .int o_letters, .int o_sort, .long o_word, .int o_wrongAt, .int o_badAt, .int o_bad, .ref h_o_told, .ref h_o_shift, .int o_firstX, .int o_firstY, .int o_secondX, .int o_secondY, .ref h_o_rootOf, .ref h_o_becomes, .ref h_o_comes, .ref h_o_next, .int o_x])), (h_o_all, .inl (ca 0, 350, .inl o_all_r)), (h_o_rootOf, .inl (ca 0, 64, .inl o_rootOf_r))]) (hS : va_S A s.heap H locs) (ls : Array Slot) (hl : lv_has ls 5 [(0, .ref h_o), (1, .int p1), (2, .int v2), (3, .int v3), (4, .int v4)]), WW H locs (F0 m 17 ls []) := by
        intro v3 n
        induction n with
        | zero => intro v2 v4 rr hf; exact (ds_it_zero hf).elim
        | succ n ih17 =>
          intro v2 v4 rr hf hG H locs hP hD hS ls hl
          refine h2 ?_
          obtain ⟨rr, hf, hG⟩ := ds_it_succ hf hG
          replace hf : fX8_leaders_17_b o_all_r o_rootOf_r p1 v3 v2 v4 = some rr := hf
          obtain ⟨G2, eG2⟩ : ∃ G : ((Int32 × Int32) ⊕ ((Int32 × Int32) ⊕ (Int32))) → Prop, G = ds_G (fun s' => ∃ r', ds_it (fun s => fX8_leaders_17_b o_all_r o_rootOf_r p1 v3 s.1 s.2) n s' = some r' ∧ G1 r') G1 := ⟨_, rfl⟩
          rw [← eG2] at hG
          have J_67 : ∀ (v4 : Int32) (s0 : Int32) (s1 : Int32) (rr : (Int32 × Int32) ⊕ ((Int32 × Int32) ⊕ (Int32))) (hf : fX8_leaders_67 v4 s0 s1 = some rr) (hG : G2 rr) (H : Heap) (locs : List Loc) (hP : va_P (dC, dI) vwCl [(h_o, .inr (7, [.ref h_o_plans, .ref h_o_makers, .ref h_o_halves, .int o_raised, .ref h_o_all, .ref h_o_text, .ref h_o_saved, .ref h_o_undone, .int o_undos, .int o_reached, .int o_length, .int o_begin, .int o_letters, .int o_sort, .long o_word, .int o_wrongAt, .int o_badAt, .int o_bad, .ref h_o_told, .ref h_o_shift, .int o_firstX, .int o_firstY, .int o_secondX, .int o_secondY, .ref h_o_rootOf, .ref h_o_becomes, .ref h_o_comes, .ref h_o_next, .int o_x])), (h_o_all, .inl (ca 0, 350, .inl o_all_r)), (h_o_rootOf, .inl (ca 0, 64, .inl o_rootOf_r))] H) (hD : va_D A [(h_o, .inr (7, [.ref h_o_plans, .ref h_o_makers, .ref h_o_halves, .int o_raised, .ref h_o_all, .ref h_o_text, .ref h_o_saved, .ref h_o_undone, .int o_undos, .int o_reached, .int o_length, .int o_begin, .int o_letters, .int o_sort, .long o_word, .int o_wrongAt, .int o_badAt, .int o_bad, .ref h_o_told, .ref h_o_shift, .int o_firstX, .int o_firstY, .int o_secondX, .int o_secondY, .ref h_o_rootOf, .ref h_o_becomes, .ref h_o_comes, .ref h_o_next, .int o_x])), (h_o_all, .inl (ca 0, 350, .inl o_all_r)), (h_o_rootOf, .inl (ca 0, 64, .inl o_rootOf_r))]) (hS : va_S A s.heap H locs) (ls : Array Slot) (hl : lv_has ls 5 [(0, .ref h_o), (1, .int p1), (3, .int v3), (4, .int v4)]), WW H locs (F0 m 67 ls [.int s0, .int s1]) := by
            intro v4 s0 s1 rr hf hG H locs hP hD hS ls hl
            refine h2 ?_
            unfold fX8_leaders_67 at hf
            refine lv_iadd hx hb dX8_leaders_67 ?_
            refine lv_istore_n (lv' := [(2, .int (s1 + s0)), (0, .ref h_o), (1, .int p1), (3, .int v3), (4, .int v4)]) hx hb dX8_leaders_68 rfl hl (by decide) rfl (fun ls hl => ?_)
            refine lv_iinc (v := (v4 + 1)) (lv' := [(4, .int (v4 + 1)), (2, .int (s1 + s0)), (0, .ref h_o), (1, .int p1), (3, .int v3)]) hx hb dX8_leaders_69 hl (k := 4) rfl rfl (by decide) rfl (fun ls hl => ?_)
            refine lv_goto (tgt := 17) hx hb dX8_leaders_72 (by decide) ?_
            have hf := Option.some.inj hf
            subst hf
            rw [eG2] at hG
            obtain ⟨rr, hf, hG⟩ := hG
            exact h1 (ih17 (s1 + s0) (v4 + 1) rr hf hG _ _ hP hD hS _ (lv_sub hl [2, 3, 1, 4, 0] rfl))
          have J_66 : ∀ (v4 : Int32) (s0 : Int32) (rr : (Int32 × Int32) ⊕ ((Int32 × Int32) ⊕ (Int32))) (hf : fX8_leaders_66 v4 s0 = some rr) (hG : G2 rr) (H : Heap) (locs : List Loc) (hP : va_P (dC, dI) vwCl [(h_o, .inr (7, [.ref h_o_plans, .ref h_o_makers, .ref h_o_halves, .int o_raised, .ref h_o_all, .ref h_o_text, .ref h_o_saved, .ref h_o_undone, .int o_undos, .int o_reached, .int o_length, .int o_begin, .int o_letters, .int o_sort, .long o_word, .int o_wrongAt, .int o_badAt, .int o_bad, .ref h_o_told, .ref h_o_shift, .int o_firstX, .int o_firstY, .int o_secondX, .int o_secondY, .ref h_o_rootOf, .ref h_o_becomes, .ref h_o_comes, .ref h_o_next, .int o_x])), (h_o_all, .inl (ca 0, 350, .inl o_all_r)), (h_o_rootOf, .inl (ca 0, 64, .inl o_rootOf_r))] H) (hD : va_D A [(h_o, .inr (7, [.ref h_o_plans, .ref h_o_makers, .ref h_o_halves, .int o_raised, .ref h_o_all, .ref h_o_text, .ref h_o_saved, .ref h_o_undone, .int o_undos, .int o_reached, .int o_length, .int o_begin, .int o_letters, .int o_sort, .long o_word, .int o_wrongAt, .int o_badAt, .int o_bad, .ref h_o_told, .ref h_o_shift, .int o_firstX, .int o_firstY, .int o_secondX, .int o_secondY, .ref h_o_rootOf, .ref h_o_becomes, .ref h_o_comes, .ref h_o_next, .int o_x])), (h_o_all, .inl (ca 0, 350, .inl o_all_r)), (h_o_rootOf, .inl (ca 0, 64, .inl o_rootOf_r))]) (hS : va_S A s.heap H locs) (ls : Array Slot) (hl : lv_has ls 5 [(0, .ref h_o), (1, .int p1), (3, .int v3), (4, .int v4)]), WW H locs (F0 m 66 ls [.int s0]) := by
            intro v4 s0 rr hf hG H locs hP hD hS ls hl
            refine h2 ?_
            unfold fX8_leaders_66 at hf
            refine lv_iconst (v := 0) hx hb dX8_leaders_66 (by decide) ?_
            exact h1 (J_67 v4 (0 : Int32) s0 _ hf hG _ _ hP hD hS _ (lv_sub hl [0, 1, 2, 3] rfl))
          unfold fX8_leaders_17_b at hf
          refine lv_iload hx hb dX8_leaders_17 (lv_at hl 4 rfl) ?_
          refine lv_aload_n hx hb dX8_leaders_19 rfl (lv_at hl 0 rfl) ?_
          refine va_get (D := (dC, dI)) (ci := 7) (v := .ref h_o_all) (C := RX8) (T := TX8) (N := 29) hx hb hts (fun w h => List.mem_cons_of_mem _ (kc_X8 w h)) hown hK hP 0 rfl rfl 4 (by decide) (hg kw_594) (fun _ h9 => h9) rfl dX8_leaders_20 ?_
          refine lv_iconst (v := 0) hx hb dX8_leaders_23 (by decide) ?_
          refine va_iald hx hb hK hP 1 0 rfl rfl (ds_in_ok (i := 0) (n := 350) (by decide)) dX8_leaders_24 ?_
          refine lv_icmp_ge (tgt := 75) hx hb dX8_leaders_25 (by decide) (fun c_25 => ?_) (fun c_25 => ?_)
          · replace hf := ds_t c_25 hf
            obtain ⟨rr, hr_0, hf⟩ := ds_ob hf
            have hf := Option.some.inj hf
            subst hf
            rw [eG2] at hG
            replace hG : G1 rr := hG
            have hf := hr_0
            exact h1 (J_75 v2 v3 _ hf hG _ _ hP hD hS _ (lv_sub hl [0, 1, 2, 3] rfl))
          · replace hf := ds_f c_25 hf
            refine lv_iload_n hx hb dX8_leaders_28 rfl (lv_at hl 2 rfl) ?_
            refine lv_bipush (v := 8) hx hb dX8_leaders_29 (by decide) ?_
            refine lv_iload_n hx hb dX8_leaders_31 rfl (lv_at hl 3 rfl) ?_
            refine lv_imul hx hb dX8_leaders_32 ?_
            refine lv_iload hx hb dX8_leaders_33 (lv_at hl 4 rfl) ?_
            refine lv_iadd hx hb dX8_leaders_35 ?_
            refine lv_iload_n hx hb dX8_leaders_36 rfl (lv_at hl 1 rfl) ?_
            refine lv_icmp_ge (tgt := 66) hx hb dX8_leaders_37 (by decide) (fun c_37 => ?_) (fun c_37 => ?_)
            · replace hf := ds_t c_37 hf
              exact h1 (J_66 v4 v2 _ hf hG _ _ hP hD hS _ (lv_sub hl [0, 1, 3, 4] rfl))
            · replace hf := ds_f c_37 hf
              refine lv_aload_n hx hb dX8_leaders_40 rfl (lv_at hl 0 rfl) ?_
              refine va_get (D := (dC, dI)) (ci := 7) (v := .ref h_o_rootOf) (C := RX8) (T := TX8) (N := 29) hx hb hts (fun w h => List.mem_cons_of_mem _ (kc_X8 w h)) hown hK hP 0 rfl rfl 24 (by decide) (hg kw_739) (fun _ h9 => h9) rfl dX8_leaders_41 ?_
              refine lv_bipush (v := 8) hx hb dX8_leaders_44 (by decide) ?_
              refine lv_iload_n hx hb dX8_leaders_46 rfl (lv_at hl 3 rfl) ?_
              refine lv_imul hx hb dX8_leaders_47 ?_
              refine lv_iload hx hb dX8_leaders_48 (lv_at hl 4 rfl) ?_
              refine lv_iadd hx hb dX8_leaders_50 ?_
              obtain ⟨i_51, hf⟩ := ds_ci hf
              refine va_iald hx hb hK hP 2 0 rfl rfl i_51 dX8_leaders_51 ?_
              refine lv_bipush (v := 8) hx hb dX8_leaders_52 (by decide) ?_
              refine lv_iload_n hx hb dX8_leaders_54 rfl (lv_at hl 3 rfl) ?_
              refine lv_imul hx hb dX8_leaders_55 ?_
              refine lv_iload hx hb dX8_leaders_56 (lv_at hl 4 rfl) ?_
              refine lv_iadd hx hb dX8_leaders_58 ?_
              refine lv_icmp_ne (tgt := 66) hx hb dX8_leaders_59 (by decide) (fun c_59 => ?_) (fun c_59 => ?_)
              · replace hf := ds_f c_59 hf
                exact h1 (J_66 v4 v2 _ hf hG _ _ hP hD hS _ (lv_sub hl [0, 1, 3, 4] rfl))
              · replace hf := ds_t c_59 hf
                refine lv_iconst (v := 1) hx hb dX8_leaders_62 (by decide) ?_
                refine lv_goto (tgt := 67) hx hb dX8_leaders_63 (by decide) ?_
                exact h1 (J_67 v4 (1 : Int32) v2 _ hf hG _ _ hP hD hS _ (lv_sub hl [0, 1, 3, 4] rfl))
      unfold fX8_leaders_4_b at hf
      refine lv_iload_n hx hb dX8_leaders_4 rfl (lv_at hl 3 rfl) ?_
      refine lv_aload_n hx hb dX8_leaders_5 rfl (lv_at hl 0 rfl) ?_
      refine va_get (D := (dC, dI)) (ci := 7) (v := .ref h_o_all) (C := RX8) (T := TX8) (N := 29) hx hb hts (fun w h => List.mem_cons_of_mem _ (kc_X8 w h)) hown hK hP 0 rfl rfl 4 (by decide) (hg kw_594) (fun _ h9 => h9) rfl dX8_leaders_6 ?_
      refine lv_iconst (v := 1) hx hb dX8_leaders_9 (by decide) ?_
      refine va_iald hx hb hK hP 1 0 rfl rfl (ds_in_ok (i := 1) (n := 350) (by decide)) dX8_leaders_10 ?_
      refine lv_icmp_ge (tgt := 81) hx hb dX8_leaders_11 (by decide) (fun c_11 => ?_) (fun c_11 => ?_)
      · replace hf := ds_t c_11 hf
        refine lv_iload_n hx hb dX8_leaders_81 rfl (lv_at hl 2 rfl) ?_
        have hf := Option.some.inj hf
        subst hf
        rw [eG1] at hG
        replace hG : G0 _ := hG
        rw [eG0] at hG
        have hG : _ = res := hG
        subst hG
        exact W.iret (v := v2) hx hb hr (fun t ht hW => ⟨⟨v2, (), rfl, rfl, by rw [ht]; exact hP, hD⟩, hS.F ht⟩) hS.2.2 dX8_leaders_82
      · replace hf := ds_f c_11 hf
        refine lv_iconst (v := 0) hx hb dX8_leaders_14 (by decide) ?_
        refine lv_istore (lv' := [(4, .int (0 : Int32)), (0, .ref h_o), (1, .int p1), (2, .int v2), (3, .int v3)]) hx hb dX8_leaders_15 hl (by decide) rfl (fun ls hl => ?_)
        exact h1 (J_17 v3 1000 v2 (0 : Int32) _ hf hG _ _ hP hD hS _ (lv_sub hl [1, 2, 3, 4, 0] rfl))
  unfold fX8_leaders at hf
  refine lv_iconst (v := 0) hx hb dX8_leaders_0 (by decide) ?_
  refine lv_istore_n (lv' := [(2, .int (0 : Int32)), (0, .ref h_o), (1, .int p1)]) hx hb dX8_leaders_1 rfl hl (by decide) rfl (fun ls hl => ?_)
  refine lv_iconst (v := 0) hx hb dX8_leaders_2 (by decide) ?_
  refine lv_istore_n (lv' := [(3, .int (0 : Int32)), (2, .int (0 : Int32)), (0, .ref h_o), (1, .int p1)]) hx hb dX8_leaders_3 rfl hl (by decide) rfl (fun ls hl => ?_)
  exact h1 (J_4  1000 (0 : Int32) (0 : Int32) _ hf hG _ _ hP hD hS _ (lv_sub hl [2, 3, 1, 0] rfl))
theorem dX8_kinds_0 : decode cX8_kinds 0 = .ok (.aload_n 0, 1) := by decide +kernel
theorem dX8_kinds_1 : decode cX8_kinds 1 = .ok (.invokevirtual 221, 3) := by decide +kernel
theorem dX8_kinds_4 : decode cX8_kinds 4 = .ok (.aload_n 0, 1) := by decide +kernel
theorem dX8_kinds_5 : decode cX8_kinds 5 = .ok (.bipush 64, 2) := by decide +kernel
theorem dX8_kinds_7 : decode cX8_kinds 7 = .ok (.invokevirtual 224, 3) := by decide +kernel
theorem dX8_kinds_10 : decode cX8_kinds 10 = .ok (.ireturn, 1) := by decide +kernel
def fX8_kinds (o_rootOf_r : Nat → Int32) (o_all_r : Nat → Int32) (o_shift_r : Nat → Int32) (o_plans_r : Nat → Int32) : Option (Int32 × (Nat → Int32)) :=
  Option.bind (fX8_laysKinds o_rootOf_r o_all_r o_shift_r o_plans_r) fun q1 => Option.bind (fX8_leaders o_all_r q1 (64 : Int32)) fun q7 => some (q7, q1)
set_option maxHeartbeats 4000000 in
set_option maxRecDepth 100000 in
theorem c_X8_kinds (l : Launch) (dC : Nat → ClassId) (dI : Nat → Nat → Nat) (ca : Nat → ClassId) (sa : Nat → Nat) (h_o : Nat) (h_o_plans : Nat) (h_o_makers : Nat) (h_o_halves : Nat) (h_o_all : Nat) (h_o_text : Nat) (h_o_saved : Nat) (h_o_undone : Nat) (h_o_told : Nat) (h_o_shift : Nat) (h_o_rootOf : Nat) (h_o_becomes : Nat) (h_o_comes : Nat) (h_o_next : Nat) (sz : Nat) (o_raised : Int32) (o_undos : Int32) (o_reached : Int32) (o_length : Int32) (o_begin : Int32) (o_letters : Int32) (o_sort : Int32) (o_word : Int64) (o_wrongAt : Int32) (o_badAt : Int32) (o_bad : Int32) (o_firstX : Int32) (o_firstY : Int32) (o_secondX : Int32) (o_secondY : Int32) (o_x : Int32) (o_rootOf_r : Nat → Int32) (o_all_r : Nat → Int32) (o_shift_r : Nat → Int32) (o_plans_r : Nat → Int32) (res : Int32 × (Nat → Int32)) (hf : fX8_kinds o_rootOf_r o_all_r o_shift_r o_plans_r = some res) : Met l yX8_kinds (Cond.code yX8_kinds cX8_kinds 1 (some .int) :: ds_gw) { frames := 4, cells := 0, slots := 0, locals := 94 } (va_Pc [.ref h_o] (ds_Pre dC dI ca sa [(h_o, .inr (7, [.ref h_o_plans, .ref h_o_makers, .ref h_o_halves, .int o_raised, .ref h_o_all, .ref h_o_text, .ref h_o_saved, .ref h_o_undone, .int o_undos, .int o_reached, .int o_length, .int o_begin, .int o_letters, .int o_sort, .long o_word, .int o_wrongAt, .int o_badAt, .int o_bad, .ref h_o_told, .ref h_o_shift, .int o_firstX, .int o_firstY, .int o_secondX, .int o_secondY, .ref h_o_rootOf, .ref h_o_becomes, .ref h_o_comes, .ref h_o_next, .int o_x])), (h_o_rootOf, .inl (ca 0, 64, .inl o_rootOf_r)), (h_o_all, .inl (ca 0, 350, .inl o_all_r)), (h_o_shift, .inl (ca 3, 768, .inl o_shift_r)), (h_o_plans, .inl (ca 0, 80, .inl o_plans_r))] sz)) (va_Qi (fun r (_ : Unit) => r = res.1) (ds_B dC dI (va_A [(h_o, .inr (7, [.ref h_o_plans, .ref h_o_makers, .ref h_o_halves, .int o_raised, .ref h_o_all, .ref h_o_text, .ref h_o_saved, .ref h_o_undone, .int o_undos, .int o_reached, .int o_length, .int o_begin, .int o_letters, .int o_sort, .long o_word, .int o_wrongAt, .int o_badAt, .int o_bad, .ref h_o_told, .ref h_o_shift, .int o_firstX, .int o_firstY, .int o_secondX, .int o_secondY, .ref h_o_rootOf, .ref h_o_becomes, .ref h_o_comes, .ref h_o_next, .int o_x])), (h_o_rootOf, .inl (ca 0, 64, .inl o_rootOf_r)), (h_o_all, .inl (ca 0, 350, .inl o_all_r)), (h_o_shift, .inl (ca 3, 768, .inl o_shift_r)), (h_o_plans, .inl (ca 0, 80, .inl o_plans_r))] sz) [(h_o, .inr (7, [.ref h_o_plans, .ref h_o_makers, .ref h_o_halves, .int o_raised, .ref h_o_all, .ref h_o_text, .ref h_o_saved, .ref h_o_undone, .int o_undos, .int o_reached, .int o_length, .int o_begin, .int o_letters, .int o_sort, .long o_word, .int o_wrongAt, .int o_badAt, .int o_bad, .ref h_o_told, .ref h_o_shift, .int o_firstX, .int o_firstY, .int o_secondX, .int o_secondY, .ref h_o_rootOf, .ref h_o_becomes, .ref h_o_comes, .ref h_o_next, .int o_x])), (h_o_rootOf, .inl (ca 0, 64, .inl res.2)), (h_o_all, .inl (ca 0, 350, .inl o_all_r)), (h_o_shift, .inl (ca 3, 768, .inl o_shift_r)), (h_o_plans, .inl (ca 0, 80, .inl o_plans_r))]) (va_A [(h_o, .inr (7, [.ref h_o_plans, .ref h_o_makers, .ref h_o_halves, .int o_raised, .ref h_o_all, .ref h_o_text, .ref h_o_saved, .ref h_o_undone, .int o_undos, .int o_reached, .int o_length, .int o_begin, .int o_letters, .int o_sort, .long o_word, .int o_wrongAt, .int o_badAt, .int o_bad, .ref h_o_told, .ref h_o_shift, .int o_firstX, .int o_firstY, .int o_secondX, .int o_secondY, .ref h_o_rootOf, .ref h_o_becomes, .ref h_o_comes, .ref h_o_next, .int o_x])), (h_o_rootOf, .inl (ca 0, 64, .inl o_rootOf_r)), (h_o_all, .inl (ca 0, 350, .inl o_all_r)), (h_o_shift, .inl (ca 3, 768, .inl o_shift_r)), (h_o_plans, .inl (ca 0, 80, .inl o_plans_r))] sz)) 0 0 (va_A [(h_o, .inr (7, [.ref h_o_plans, .ref h_o_makers, .ref h_o_halves, .int o_raised, .ref h_o_all, .ref h_o_text, .ref h_o_saved, .ref h_o_undone, .int o_undos, .int o_reached, .int o_length, .int o_begin, .int o_letters, .int o_sort, .long o_word, .int o_wrongAt, .int o_badAt, .int o_bad, .ref h_o_told, .ref h_o_shift, .int o_firstX, .int o_firstY, .int o_secondX, .int o_secondY, .ref h_o_rootOf, .ref h_o_becomes, .ref h_o_comes, .ref h_o_next, .int o_x])), (h_o_rootOf, .inl (ca 0, 64, .inl o_rootOf_r)), (h_o_all, .inl (ca 0, 350, .inl o_all_r)), (h_o_shift, .inl (ca 3, 768, .inl o_shift_r)), (h_o_plans, .inl (ca 0, 80, .inl o_plans_r))] sz) := by
  refine Met.ofW (cc := cX8_kinds) (maxL := 1) (ret := (some .int)) (by decide) rfl ?_
  intro p e s m args below meth c s₁ B hml hv
  obtain ⟨rfl, hsz, hP, hK, hD0, hE⟩ := hv
  have hx := B.exec
  have hb := B.bytes
  have hr := B.returns
  have hts := atoms_spec (ws := Cond.code yX8_kinds cX8_kinds 1 (some .int) :: ds_gw) B.pre
  have hg : ∀ {w : Cond}, w ∈ ds_gw → w.before _ s = true := fun h => hts _ (List.mem_cons_of_mem _ h)
  have hown : s.vm.findClass RX8 = some m.cls := findClass_of_methodNamed B.named
  have hlocks := B.notSynchronized
  subst hsz
  have hD := hD0.self (sz := s.heap.size)
  generalize hAe : va_A [(h_o, .inr (7, [.ref h_o_plans, .ref h_o_makers, .ref h_o_halves, .int o_raised, .ref h_o_all, .ref h_o_text, .ref h_o_saved, .ref h_o_undone, .int o_undos, .int o_reached, .int o_length, .int o_begin, .int o_letters, .int o_sort, .long o_word, .int o_wrongAt, .int o_badAt, .int o_bad, .ref h_o_told, .ref h_o_shift, .int o_firstX, .int o_firstY, .int o_secondX, .int o_secondY, .ref h_o_rootOf, .ref h_o_becomes, .ref h_o_comes, .ref h_o_next, .int o_x])), (h_o_rootOf, .inl (ca 0, 64, .inl o_rootOf_r)), (h_o_all, .inl (ca 0, 350, .inl o_all_r)), (h_o_shift, .inl (ca 3, 768, .inl o_shift_r)), (h_o_plans, .inl (ca 0, 80, .inl o_plans_r))] s.heap.size = A at hD hE ⊢
  have hA : ∀ q : Nat, s.heap.size ≤ q → A q := fun q h => by rw [← hAe]; exact Or.inr h
  have hS : va_S A s.heap s.heap [] := va_S.rf
  have hl := lv_entry ([.ref h_o]) (n := 1) (Nat.le_of_ble_eq_true rfl)
  rw [lg_entry_eq]
  generalize (lg_sl ([.ref h_o]) ++ List.replicate (1 - (lg_sl ([.ref h_o])).length) Slot.unset).toArray = ls at hl ⊢
  have hl : lv_has ls 1 [(0, .ref h_o)] := hl
  obtain ⟨G0, eG0⟩ : ∃ G : (Int32 × (Nat → Int32)) → Prop, G = (fun r => r = res) := ⟨_, rfl⟩
  obtain ⟨rr, hrr⟩ : ∃ z, z = res := ⟨_, rfl⟩
  rw [← hrr] at hf
  have hG : G0 rr := by subst eG0; exact hrr
  unfold fX8_kinds at hf
  refine lv_aload_n hx hb dX8_kinds_0 rfl (lv_at hl 0 rfl) ?_
  obtain ⟨q1, hq1, hf⟩ := ds_ob hf
  refine ds_callv (wr := []) (va_runV (As := []) (rest := []) ⟨hx, hb, hml, hown, hts⟩ (c_X8_laysKinds l dC dI ca sa h_o h_o_plans h_o_makers h_o_halves h_o_all h_o_text h_o_saved h_o_undone h_o_told h_o_shift h_o_rootOf h_o_becomes h_o_comes h_o_next s.heap.size o_raised o_undos o_reached o_length o_begin o_letters o_sort o_word o_wrongAt o_badAt o_bad o_firstX o_firstY o_secondX o_secondY o_x o_rootOf_r o_all_r o_shift_r o_plans_r  q1 hq1) (cwV 0 hts (ds_gV kw_756 kw_757 kw_758 kw_597 kw_759) rfl rfl rfl (by decide +kernel) ⟨Nat.le_of_ble_eq_true rfl, Nat.le_of_ble_eq_true rfl⟩) ⟨ds_blind, va_recv hK hP (ci := 7) (q0 := 0) rfl rfl, ds_at hP hD hK hE hS hA [0, 1, 2, 3, 4] rfl rfl _⟩ rfl rfl hl.1 rfl (lv_room (Nat.le_of_ble_eq_true rfl)) dX8_kinds_1 ⟨Nat.zero_le _, Nat.zero_le _⟩) hP hD hS hA [0, 1, 2, 3, 4] [] rfl rfl rfl (by decide) (fun H locs hP hD hS => ?_)
  have hP : va_P (dC, dI) vwCl [(h_o, .inr (7, [.ref h_o_plans, .ref h_o_makers, .ref h_o_halves, .int o_raised, .ref h_o_all, .ref h_o_text, .ref h_o_saved, .ref h_o_undone, .int o_undos, .int o_reached, .int o_length, .int o_begin, .int o_letters, .int o_sort, .long o_word, .int o_wrongAt, .int o_badAt, .int o_bad, .ref h_o_told, .ref h_o_shift, .int o_firstX, .int o_firstY, .int o_secondX, .int o_secondY, .ref h_o_rootOf, .ref h_o_becomes, .ref h_o_comes, .ref h_o_next, .int o_x])), (h_o_rootOf, .inl (ca 0, 64, .inl q1)), (h_o_all, .inl (ca 0, 350, .inl o_all_r)), (h_o_shift, .inl (ca 3, 768, .inl o_shift_r)), (h_o_plans, .inl (ca 0, 80, .inl o_plans_r))] H := hP
  have hD : va_D A [(h_o, .inr (7, [.ref h_o_plans, .ref h_o_makers, .ref h_o_halves, .int o_raised, .ref h_o_all, .ref h_o_text, .ref h_o_saved, .ref h_o_undone, .int o_undos, .int o_reached, .int o_length, .int o_begin, .int o_letters, .int o_sort, .long o_word, .int o_wrongAt, .int o_badAt, .int o_bad, .ref h_o_told, .ref h_o_shift, .int o_firstX, .int o_firstY, .int o_secondX, .int o_secondY, .ref h_o_rootOf, .ref h_o_becomes, .ref h_o_comes, .ref h_o_next, .int o_x])), (h_o_rootOf, .inl (ca 0, 64, .inl q1)), (h_o_all, .inl (ca 0, 350, .inl o_all_r)), (h_o_shift, .inl (ca 3, 768, .inl o_shift_r)), (h_o_plans, .inl (ca 0, 80, .inl o_plans_r))] := hD
  refine lv_aload_n hx hb dX8_kinds_4 rfl (lv_at hl 0 rfl) ?_
  refine lv_bipush (v := 64) hx hb dX8_kinds_5 (by decide) ?_
  obtain ⟨q7, hq7, hf⟩ := ds_ob hf
  refine ds_calli (wr := [(h_o_shift, .inl (ca 3, 768, .inl o_shift_r)), (h_o_plans, .inl (ca 0, 80, .inl o_plans_r))]) (va_runV (As := [.int (64 : Int32)]) (rest := []) ⟨hx, hb, hml, hown, hts⟩ (c_X8_leaders l dC dI ca sa h_o h_o_plans h_o_makers h_o_halves h_o_all h_o_text h_o_saved h_o_undone h_o_told h_o_shift h_o_rootOf h_o_becomes h_o_comes h_o_next H.size o_raised o_undos o_reached o_length o_begin o_letters o_sort o_word o_wrongAt o_badAt o_bad o_firstX o_firstY o_secondX o_secondY o_x o_all_r q1 (64 : Int32) q7 hq7) (cwV 1 hts (ds_gV kw_760 kw_761 kw_762 kw_597 kw_763) rfl rfl rfl (by decide +kernel) ⟨Nat.le_of_ble_eq_true rfl, Nat.le_of_ble_eq_true rfl⟩) ⟨ds_blind, va_recv hK hP (ci := 7) (q0 := 0) rfl rfl, ds_at hP hD hK hE hS hA [0, 2, 1] rfl rfl _⟩ rfl rfl hl.1 rfl (lv_room (Nat.le_of_ble_eq_true rfl)) dX8_kinds_7 ⟨Nat.zero_le _, Nat.zero_le _⟩) hP hD hS hA [0, 2, 1] [3, 4] rfl rfl rfl (by decide) (fun H locs hP hD hS => ?_)
  have hP : va_P (dC, dI) vwCl [(h_o_shift, .inl (ca 3, 768, .inl o_shift_r)), (h_o_plans, .inl (ca 0, 80, .inl o_plans_r)), (h_o, .inr (7, [.ref h_o_plans, .ref h_o_makers, .ref h_o_halves, .int o_raised, .ref h_o_all, .ref h_o_text, .ref h_o_saved, .ref h_o_undone, .int o_undos, .int o_reached, .int o_length, .int o_begin, .int o_letters, .int o_sort, .long o_word, .int o_wrongAt, .int o_badAt, .int o_bad, .ref h_o_told, .ref h_o_shift, .int o_firstX, .int o_firstY, .int o_secondX, .int o_secondY, .ref h_o_rootOf, .ref h_o_becomes, .ref h_o_comes, .ref h_o_next, .int o_x])), (h_o_all, .inl (ca 0, 350, .inl o_all_r)), (h_o_rootOf, .inl (ca 0, 64, .inl q1))] H := hP
  have hD : va_D A [(h_o_shift, .inl (ca 3, 768, .inl o_shift_r)), (h_o_plans, .inl (ca 0, 80, .inl o_plans_r)), (h_o, .inr (7, [.ref h_o_plans, .ref h_o_makers, .ref h_o_halves, .int o_raised, .ref h_o_all, .ref h_o_text, .ref h_o_saved, .ref h_o_undone, .int o_undos, .int o_reached, .int o_length, .int o_begin, .int o_letters, .int o_sort, .long o_word, .int o_wrongAt, .int o_badAt, .int o_bad, .ref h_o_told, .ref h_o_shift, .int o_firstX, .int o_firstY, .int o_secondX, .int o_secondY, .ref h_o_rootOf, .ref h_o_becomes, .ref h_o_comes, .ref h_o_next, .int o_x])), (h_o_all, .inl (ca 0, 350, .inl o_all_r)), (h_o_rootOf, .inl (ca 0, 64, .inl q1))] := hD
  have hf := Option.some.inj hf
  subst hf
  rw [eG0] at hG
  have hG : _ = res := hG
  subst hG
  exact W.iret (v := q7) hx hb hr (fun t ht hW => ⟨⟨q7, (), rfl, rfl, by rw [ht]; exact (hP.sub [2, 4, 3, 0, 1] rfl), (hD.sub [2, 4, 3, 0, 1] rfl rfl)⟩, hS.F ht⟩) hS.2.2 dX8_kinds_10
theorem dX8_cell_0 : decode cX8_cell 0 = .ok (.aload_n 0, 1) := by decide +kernel
theorem dX8_cell_1 : decode cX8_cell 1 = .ok (.iconst 0, 1) := by decide +kernel
theorem dX8_cell_2 : decode cX8_cell 2 = .ok (.putfield 51, 3) := by decide +kernel
theorem dX8_cell_5 : decode cX8_cell 5 = .ok (.aload_n 0, 1) := by decide +kernel
theorem dX8_cell_6 : decode cX8_cell 6 = .ok (.iload_n 1, 1) := by decide +kernel
theorem dX8_cell_7 : decode cX8_cell 7 = .ok (.iload_n 2, 1) := by decide +kernel
theorem dX8_cell_8 : decode cX8_cell 8 = .ok (.invokevirtual 127, 3) := by decide +kernel
theorem dX8_cell_11 : decode cX8_cell 11 = .ok (.ireturn, 1) := by decide +kernel
def fX8_cell (o_all_r : Nat → Int32) (p1 : Int32) (p2 : Int32) : Option (Int32 × Int32) :=
  Option.bind (fX8_colour o_all_r p1 p2) fun q8 => some (q8, (0 : Int32))
set_option maxHeartbeats 4000000 in
set_option maxRecDepth 100000 in
theorem c_X8_cell (l : Launch) (dC : Nat → ClassId) (dI : Nat → Nat → Nat) (ca : Nat → ClassId) (sa : Nat → Nat) (h_o : Nat) (h_o_plans : Nat) (h_o_makers : Nat) (h_o_halves : Nat) (h_o_all : Nat) (h_o_text : Nat) (h_o_saved : Nat) (h_o_undone : Nat) (h_o_told : Nat) (h_o_shift : Nat) (h_o_rootOf : Nat) (h_o_becomes : Nat) (h_o_comes : Nat) (h_o_next : Nat) (sz : Nat) (o_raised : Int32) (o_undos : Int32) (o_reached : Int32) (o_length : Int32) (o_begin : Int32) (o_letters : Int32) (o_sort : Int32) (o_word : Int64) (o_wrongAt : Int32) (o_badAt : Int32) (o_bad : Int32) (o_firstX : Int32) (o_firstY : Int32) (o_secondX : Int32) (o_secondY : Int32) (o_x : Int32) (o_all_r : Nat → Int32) (p1 : Int32) (p2 : Int32) (res : Int32 × Int32) (hf : fX8_cell o_all_r p1 p2 = some res) : Met l yX8_cell (Cond.code yX8_cell cX8_cell 3 (some .int) :: ds_gw) { frames := 3, cells := 0, slots := 0, locals := 66 } (va_Pc [.ref h_o, .int p1, .int p2] (ds_Pre dC dI ca sa [(h_o, .inr (7, [.ref h_o_plans, .ref h_o_makers, .ref h_o_halves, .int o_raised, .ref h_o_all, .ref h_o_text, .ref h_o_saved, .ref h_o_undone, .int o_undos, .int o_reached, .int o_length, .int o_begin, .int o_letters, .int o_sort, .long o_word, .int o_wrongAt, .int o_badAt, .int o_bad, .ref h_o_told, .ref h_o_shift, .int o_firstX, .int o_firstY, .int o_secondX, .int o_secondY, .ref h_o_rootOf, .ref h_o_becomes, .ref h_o_comes, .ref h_o_next, .int o_x])), (h_o_all, .inl (ca 0, 350, .inl o_all_r))] sz)) (va_Qi (fun r (_ : Unit) => r = res.1) (ds_B dC dI (va_A [(h_o, .inr (7, [.ref h_o_plans, .ref h_o_makers, .ref h_o_halves, .int o_raised, .ref h_o_all, .ref h_o_text, .ref h_o_saved, .ref h_o_undone, .int o_undos, .int o_reached, .int o_length, .int o_begin, .int o_letters, .int o_sort, .long o_word, .int o_wrongAt, .int o_badAt, .int o_bad, .ref h_o_told, .ref h_o_shift, .int o_firstX, .int o_firstY, .int o_secondX, .int o_secondY, .ref h_o_rootOf, .ref h_o_becomes, .ref h_o_comes, .ref h_o_next, .int o_x])), (h_o_all, .inl (ca 0, 350, .inl o_all_r))] sz) [(h_o, .inr (7, [.ref h_o_plans, .ref h_o_makers, .ref h_o_halves, .int res.2, .ref h_o_all, .ref h_o_text, .ref h_o_saved, .ref h_o_undone, .int o_undos, .int o_reached, .int o_length, .int o_begin, .int o_letters, .int o_sort, .long o_word, .int o_wrongAt, .int o_badAt, .int o_bad, .ref h_o_told, .ref h_o_shift, .int o_firstX, .int o_firstY, .int o_secondX, .int o_secondY, .ref h_o_rootOf, .ref h_o_becomes, .ref h_o_comes, .ref h_o_next, .int o_x])), (h_o_all, .inl (ca 0, 350, .inl o_all_r))]) (va_A [(h_o, .inr (7, [.ref h_o_plans, .ref h_o_makers, .ref h_o_halves, .int o_raised, .ref h_o_all, .ref h_o_text, .ref h_o_saved, .ref h_o_undone, .int o_undos, .int o_reached, .int o_length, .int o_begin, .int o_letters, .int o_sort, .long o_word, .int o_wrongAt, .int o_badAt, .int o_bad, .ref h_o_told, .ref h_o_shift, .int o_firstX, .int o_firstY, .int o_secondX, .int o_secondY, .ref h_o_rootOf, .ref h_o_becomes, .ref h_o_comes, .ref h_o_next, .int o_x])), (h_o_all, .inl (ca 0, 350, .inl o_all_r))] sz)) 0 0 (va_A [(h_o, .inr (7, [.ref h_o_plans, .ref h_o_makers, .ref h_o_halves, .int o_raised, .ref h_o_all, .ref h_o_text, .ref h_o_saved, .ref h_o_undone, .int o_undos, .int o_reached, .int o_length, .int o_begin, .int o_letters, .int o_sort, .long o_word, .int o_wrongAt, .int o_badAt, .int o_bad, .ref h_o_told, .ref h_o_shift, .int o_firstX, .int o_firstY, .int o_secondX, .int o_secondY, .ref h_o_rootOf, .ref h_o_becomes, .ref h_o_comes, .ref h_o_next, .int o_x])), (h_o_all, .inl (ca 0, 350, .inl o_all_r))] sz) := by
  refine Met.ofW (cc := cX8_cell) (maxL := 3) (ret := (some .int)) (by decide) rfl ?_
  intro p e s m args below meth c s₁ B hml hv
  obtain ⟨rfl, hsz, hP, hK, hD0, hE⟩ := hv
  have hx := B.exec
  have hb := B.bytes
  have hr := B.returns
  have hts := atoms_spec (ws := Cond.code yX8_cell cX8_cell 3 (some .int) :: ds_gw) B.pre
  have hg : ∀ {w : Cond}, w ∈ ds_gw → w.before _ s = true := fun h => hts _ (List.mem_cons_of_mem _ h)
  have hown : s.vm.findClass RX8 = some m.cls := findClass_of_methodNamed B.named
  have hlocks := B.notSynchronized
  subst hsz
  have hD := hD0.self (sz := s.heap.size)
  generalize hAe : va_A [(h_o, .inr (7, [.ref h_o_plans, .ref h_o_makers, .ref h_o_halves, .int o_raised, .ref h_o_all, .ref h_o_text, .ref h_o_saved, .ref h_o_undone, .int o_undos, .int o_reached, .int o_length, .int o_begin, .int o_letters, .int o_sort, .long o_word, .int o_wrongAt, .int o_badAt, .int o_bad, .ref h_o_told, .ref h_o_shift, .int o_firstX, .int o_firstY, .int o_secondX, .int o_secondY, .ref h_o_rootOf, .ref h_o_becomes, .ref h_o_comes, .ref h_o_next, .int o_x])), (h_o_all, .inl (ca 0, 350, .inl o_all_r))] s.heap.size = A at hD hE ⊢
  have hA : ∀ q : Nat, s.heap.size ≤ q → A q := fun q h => by rw [← hAe]; exact Or.inr h
  have hS : va_S A s.heap s.heap [] := va_S.rf
  have hl := lv_entry ([.ref h_o, .int p1, .int p2]) (n := 3) (Nat.le_of_ble_eq_true rfl)
  rw [lg_entry_eq]
  generalize (lg_sl ([.ref h_o, .int p1, .int p2]) ++ List.replicate (3 - (lg_sl ([.ref h_o, .int p1, .int p2])).length) Slot.unset).toArray = ls at hl ⊢
  have hl : lv_has ls 3 [(0, .ref h_o), (1, .int p1), (2, .int p2)] := hl
  obtain ⟨G0, eG0⟩ : ∃ G : (Int32 × Int32) → Prop, G = (fun r => r = res) := ⟨_, rfl⟩
  obtain ⟨rr, hrr⟩ : ∃ z, z = res := ⟨_, rfl⟩
  rw [← hrr] at hf
  have hG : G0 rr := by subst eG0; exact hrr
  unfold fX8_cell at hf
  refine lv_aload_n hx hb dX8_cell_0 rfl (lv_at hl 0 rfl) ?_
  refine lv_iconst (v := 0) hx hb dX8_cell_1 (by decide) ?_
  refine va_put (D := (dC, dI)) (ci := 7) (v := .int (0 : Int32)) (ty := tyX8 3) (C := RX8) (T := TX8) (N := 29) hx hb hts (fun w h => List.mem_cons_of_mem _ (kc_X8 w h)) tyX8 tyX8_ok nmX8 hown hK hP hD hS 0 rfl rfl 3 (by decide) (hg kw_564) (fun _ h9 => h9) rfl (by decide +kernel) rfl rfl (Nat.le_of_ble_eq_true rfl) dX8_cell_2 (fun H locs hP hD hS => ?_)
  have hP : va_P (dC, dI) vwCl [(h_o, .inr (7, [.ref h_o_plans, .ref h_o_makers, .ref h_o_halves, .int (0 : Int32), .ref h_o_all, .ref h_o_text, .ref h_o_saved, .ref h_o_undone, .int o_undos, .int o_reached, .int o_length, .int o_begin, .int o_letters, .int o_sort, .long o_word, .int o_wrongAt, .int o_badAt, .int o_bad, .ref h_o_told, .ref h_o_shift, .int o_firstX, .int o_firstY, .int o_secondX, .int o_secondY, .ref h_o_rootOf, .ref h_o_becomes, .ref h_o_comes, .ref h_o_next, .int o_x])), (h_o_all, .inl (ca 0, 350, .inl o_all_r))] H := hP
  have hD : va_D A [(h_o, .inr (7, [.ref h_o_plans, .ref h_o_makers, .ref h_o_halves, .int (0 : Int32), .ref h_o_all, .ref h_o_text, .ref h_o_saved, .ref h_o_undone, .int o_undos, .int o_reached, .int o_length, .int o_begin, .int o_letters, .int o_sort, .long o_word, .int o_wrongAt, .int o_badAt, .int o_bad, .ref h_o_told, .ref h_o_shift, .int o_firstX, .int o_firstY, .int o_secondX, .int o_secondY, .ref h_o_rootOf, .ref h_o_becomes, .ref h_o_comes, .ref h_o_next, .int o_x])), (h_o_all, .inl (ca 0, 350, .inl o_all_r))] := hD
  refine lv_aload_n hx hb dX8_cell_5 rfl (lv_at hl 0 rfl) ?_
  refine lv_iload_n hx hb dX8_cell_6 rfl (lv_at hl 1 rfl) ?_
  refine lv_iload_n hx hb dX8_cell_7 rfl (lv_at hl 2 rfl) ?_
  obtain ⟨q8, hq8, hf⟩ := ds_ob hf
  refine ds_calli (wr := []) (va_runV (As := [.int p1, .int p2]) (rest := []) ⟨hx, hb, hml, hown, hts⟩ (c_X8_colour l dC dI ca sa h_o h_o_plans h_o_makers h_o_halves h_o_all h_o_text h_o_saved h_o_undone h_o_told h_o_shift h_o_rootOf h_o_becomes h_o_comes h_o_next H.size (0 : Int32) o_undos o_reached o_length o_begin o_letters o_sort o_word o_wrongAt o_badAt o_bad o_firstX o_firstY o_secondX o_secondY o_x o_all_r p1 p2 q8 hq8) (cwV 2 hts (ds_gV kw_651 kw_652 kw_653 kw_597 kw_654) rfl rfl rfl (by decide +kernel) ⟨Nat.le_of_ble_eq_true rfl, Nat.le_of_ble_eq_true rfl⟩) ⟨ds_blind, va_recv hK hP (ci := 7) (q0 := 0) rfl rfl, ds_at hP hD hK hE hS hA [0, 1] rfl rfl _⟩ rfl rfl hl.1 rfl (lv_room (Nat.le_of_ble_eq_true rfl)) dX8_cell_8 ⟨Nat.zero_le _, Nat.zero_le _⟩) hP hD hS hA [0, 1] [] rfl rfl rfl (by decide) (fun H locs hP hD hS => ?_)
  have hP : va_P (dC, dI) vwCl [(h_o, .inr (7, [.ref h_o_plans, .ref h_o_makers, .ref h_o_halves, .int (0 : Int32), .ref h_o_all, .ref h_o_text, .ref h_o_saved, .ref h_o_undone, .int o_undos, .int o_reached, .int o_length, .int o_begin, .int o_letters, .int o_sort, .long o_word, .int o_wrongAt, .int o_badAt, .int o_bad, .ref h_o_told, .ref h_o_shift, .int o_firstX, .int o_firstY, .int o_secondX, .int o_secondY, .ref h_o_rootOf, .ref h_o_becomes, .ref h_o_comes, .ref h_o_next, .int o_x])), (h_o_all, .inl (ca 0, 350, .inl o_all_r))] H := hP
  have hD : va_D A [(h_o, .inr (7, [.ref h_o_plans, .ref h_o_makers, .ref h_o_halves, .int (0 : Int32), .ref h_o_all, .ref h_o_text, .ref h_o_saved, .ref h_o_undone, .int o_undos, .int o_reached, .int o_length, .int o_begin, .int o_letters, .int o_sort, .long o_word, .int o_wrongAt, .int o_badAt, .int o_bad, .ref h_o_told, .ref h_o_shift, .int o_firstX, .int o_firstY, .int o_secondX, .int o_secondY, .ref h_o_rootOf, .ref h_o_becomes, .ref h_o_comes, .ref h_o_next, .int o_x])), (h_o_all, .inl (ca 0, 350, .inl o_all_r))] := hD
  have hf := Option.some.inj hf
  subst hf
  rw [eG0] at hG
  have hG : _ = res := hG
  subst hG
  exact W.iret (v := q8) hx hb hr (fun t ht hW => ⟨⟨q8, (), rfl, rfl, by rw [ht]; exact hP, hD⟩, hS.F ht⟩) hS.2.2 dX8_cell_11
theorem dX8_coloursThere_0 : decode cX8_coloursThere 0 = .ok (.iconst 0, 1) := by decide +kernel
theorem dX8_coloursThere_1 : decode cX8_coloursThere 1 = .ok (.istore_n 1, 1) := by decide +kernel
theorem dX8_coloursThere_2 : decode cX8_coloursThere 2 = .ok (.iconst 0, 1) := by decide +kernel
theorem dX8_coloursThere_3 : decode cX8_coloursThere 3 = .ok (.istore_n 2, 1) := by decide +kernel
theorem dX8_coloursThere_4 : decode cX8_coloursThere 4 = .ok (.iload_n 2, 1) := by decide +kernel
theorem dX8_coloursThere_5 : decode cX8_coloursThere 5 = .ok (.aload_n 0, 1) := by decide +kernel
theorem dX8_coloursThere_6 : decode cX8_coloursThere 6 = .ok (.getfield 19, 3) := by decide +kernel
theorem dX8_coloursThere_9 : decode cX8_coloursThere 9 = .ok (.iconst 1, 1) := by decide +kernel
theorem dX8_coloursThere_10 : decode cX8_coloursThere 10 = .ok (.iaload, 1) := by decide +kernel
theorem dX8_coloursThere_11 : decode cX8_coloursThere 11 = .ok (.if_icmp .ge 38, 3) := by decide +kernel
theorem dX8_coloursThere_14 : decode cX8_coloursThere 14 = .ok (.iconst 0, 1) := by decide +kernel
theorem dX8_coloursThere_15 : decode cX8_coloursThere 15 = .ok (.istore_n 3, 1) := by decide +kernel
theorem dX8_coloursThere_16 : decode cX8_coloursThere 16 = .ok (.iload_n 3, 1) := by decide +kernel
theorem dX8_coloursThere_17 : decode cX8_coloursThere 17 = .ok (.aload_n 0, 1) := by decide +kernel
theorem dX8_coloursThere_18 : decode cX8_coloursThere 18 = .ok (.getfield 19, 3) := by decide +kernel
theorem dX8_coloursThere_21 : decode cX8_coloursThere 21 = .ok (.iconst 0, 1) := by decide +kernel
theorem dX8_coloursThere_22 : decode cX8_coloursThere 22 = .ok (.iaload, 1) := by decide +kernel
theorem dX8_coloursThere_23 : decode cX8_coloursThere 23 = .ok (.if_icmp .ge 20, 3) := by decide +kernel
theorem dX8_coloursThere_26 : decode cX8_coloursThere 26 = .ok (.iload_n 1, 1) := by decide +kernel
theorem dX8_coloursThere_27 : decode cX8_coloursThere 27 = .ok (.iconst 1, 1) := by decide +kernel
theorem dX8_coloursThere_28 : decode cX8_coloursThere 28 = .ok (.aload_n 0, 1) := by decide +kernel
theorem dX8_coloursThere_29 : decode cX8_coloursThere 29 = .ok (.iload_n 3, 1) := by decide +kernel
theorem dX8_coloursThere_30 : decode cX8_coloursThere 30 = .ok (.iload_n 2, 1) := by decide +kernel
theorem dX8_coloursThere_31 : decode cX8_coloursThere 31 = .ok (.invokevirtual 127, 3) := by decide +kernel
theorem dX8_coloursThere_34 : decode cX8_coloursThere 34 = .ok (.ishl, 1) := by decide +kernel
theorem dX8_coloursThere_35 : decode cX8_coloursThere 35 = .ok (.ior, 1) := by decide +kernel
theorem dX8_coloursThere_36 : decode cX8_coloursThere 36 = .ok (.istore_n 1, 1) := by decide +kernel
theorem dX8_coloursThere_37 : decode cX8_coloursThere 37 = .ok (.iinc 3 1, 3) := by decide +kernel
theorem dX8_coloursThere_40 : decode cX8_coloursThere 40 = .ok (.goto (-24), 3) := by decide +kernel
theorem dX8_coloursThere_43 : decode cX8_coloursThere 43 = .ok (.iinc 2 1, 3) := by decide +kernel
theorem dX8_coloursThere_46 : decode cX8_coloursThere 46 = .ok (.goto (-42), 3) := by decide +kernel
theorem dX8_coloursThere_49 : decode cX8_coloursThere 49 = .ok (.iload_n 1, 1) := by decide +kernel
theorem dX8_coloursThere_50 : decode cX8_coloursThere 50 = .ok (.ireturn, 1) := by decide +kernel
def fX8_coloursThere_43 (v1 : Int32) (v2 : Int32) : Option ((Int32 × Int32) ⊕ (Int32)) :=
  some (.inl (v1, (v2 + 1)))
def fX8_coloursThere_16_b (o_all_r : Nat → Int32) (v2 : Int32) (v1 : Int32) (v3 : Int32) : Option ((Int32 × Int32) ⊕ ((Int32 × Int32) ⊕ (Int32))) :=
  if (o_all_r (0 : Int32).toNatClampNeg) ≤ v3 then Option.bind (fX8_coloursThere_43 v1 v2) fun z => some (.inr z) else Option.bind (fX8_colour o_all_r v3 v2) fun q31 => some (.inl ((v1 ||| ((1 : Int32) <<< (q31 &&& 31))), (v3 + 1)))
def fX8_coloursThere_16 (o_all_r : Nat → Int32) (v2 : Int32) (v1 : Int32) (v3 : Int32) : Option ((Int32 × Int32) ⊕ (Int32)) := ds_it (fun s => fX8_coloursThere_16_b o_all_r v2 s.1 s.2) 1000 (v1, v3)
def fX8_coloursThere_4_b (o_all_r : Nat → Int32) (v1 : Int32) (v2 : Int32) : Option ((Int32 × Int32) ⊕ (Int32)) :=
  if (o_all_r (1 : Int32).toNatClampNeg) ≤ v2 then some (.inr v1) else fX8_coloursThere_16 o_all_r v2 v1 (0 : Int32)
def fX8_coloursThere_4 (o_all_r : Nat → Int32) (v1 : Int32) (v2 : Int32) : Option (Int32) := ds_it (fun s => fX8_coloursThere_4_b o_all_r s.1 s.2) 1000 (v1, v2)
def fX8_coloursThere (o_all_r : Nat → Int32) : Option (Int32) :=
  fX8_coloursThere_4 o_all_r (0 : Int32) (0 : Int32)
set_option maxHeartbeats 4000000 in
set_option maxRecDepth 100000 in
theorem c_X8_coloursThere (l : Launch) (dC : Nat → ClassId) (dI : Nat → Nat → Nat) (ca : Nat → ClassId) (sa : Nat → Nat) (h_o : Nat) (h_o_plans : Nat) (h_o_makers : Nat) (h_o_halves : Nat) (h_o_all : Nat) (h_o_text : Nat) (h_o_saved : Nat) (h_o_undone : Nat) (h_o_told : Nat) (h_o_shift : Nat) (h_o_rootOf : Nat) (h_o_becomes : Nat) (h_o_comes : Nat) (h_o_next : Nat) (sz : Nat) (o_raised : Int32) (o_undos : Int32) (o_reached : Int32) (o_length : Int32) (o_begin : Int32) (o_letters : Int32) (o_sort : Int32) (o_word : Int64) (o_wrongAt : Int32) (o_badAt : Int32) (o_bad : Int32) (o_firstX : Int32) (o_firstY : Int32) (o_secondX : Int32) (o_secondY : Int32) (o_x : Int32) (o_all_r : Nat → Int32) (res : Int32) (hf : fX8_coloursThere o_all_r = some res) : Met l yX8_coloursThere (Cond.code yX8_coloursThere cX8_coloursThere 4 (some .int) :: ds_gw) { frames := 3, cells := 0, slots := 0, locals := 66 } (va_Pc [.ref h_o] (ds_Pre dC dI ca sa [(h_o, .inr (7, [.ref h_o_plans, .ref h_o_makers, .ref h_o_halves, .int o_raised, .ref h_o_all, .ref h_o_text, .ref h_o_saved, .ref h_o_undone, .int o_undos, .int o_reached, .int o_length, .int o_begin, .int o_letters, .int o_sort, .long o_word, .int o_wrongAt, .int o_badAt, .int o_bad, .ref h_o_told, .ref h_o_shift, .int o_firstX, .int o_firstY, .int o_secondX, .int o_secondY, .ref h_o_rootOf, .ref h_o_becomes, .ref h_o_comes, .ref h_o_next, .int o_x])), (h_o_all, .inl (ca 0, 350, .inl o_all_r))] sz)) (va_Qi (fun r (_ : Unit) => r = res) (ds_B dC dI (va_A [(h_o, .inr (7, [.ref h_o_plans, .ref h_o_makers, .ref h_o_halves, .int o_raised, .ref h_o_all, .ref h_o_text, .ref h_o_saved, .ref h_o_undone, .int o_undos, .int o_reached, .int o_length, .int o_begin, .int o_letters, .int o_sort, .long o_word, .int o_wrongAt, .int o_badAt, .int o_bad, .ref h_o_told, .ref h_o_shift, .int o_firstX, .int o_firstY, .int o_secondX, .int o_secondY, .ref h_o_rootOf, .ref h_o_becomes, .ref h_o_comes, .ref h_o_next, .int o_x])), (h_o_all, .inl (ca 0, 350, .inl o_all_r))] sz) [(h_o, .inr (7, [.ref h_o_plans, .ref h_o_makers, .ref h_o_halves, .int o_raised, .ref h_o_all, .ref h_o_text, .ref h_o_saved, .ref h_o_undone, .int o_undos, .int o_reached, .int o_length, .int o_begin, .int o_letters, .int o_sort, .long o_word, .int o_wrongAt, .int o_badAt, .int o_bad, .ref h_o_told, .ref h_o_shift, .int o_firstX, .int o_firstY, .int o_secondX, .int o_secondY, .ref h_o_rootOf, .ref h_o_becomes, .ref h_o_comes, .ref h_o_next, .int o_x])), (h_o_all, .inl (ca 0, 350, .inl o_all_r))]) (va_A [(h_o, .inr (7, [.ref h_o_plans, .ref h_o_makers, .ref h_o_halves, .int o_raised, .ref h_o_all, .ref h_o_text, .ref h_o_saved, .ref h_o_undone, .int o_undos, .int o_reached, .int o_length, .int o_begin, .int o_letters, .int o_sort, .long o_word, .int o_wrongAt, .int o_badAt, .int o_bad, .ref h_o_told, .ref h_o_shift, .int o_firstX, .int o_firstY, .int o_secondX, .int o_secondY, .ref h_o_rootOf, .ref h_o_becomes, .ref h_o_comes, .ref h_o_next, .int o_x])), (h_o_all, .inl (ca 0, 350, .inl o_all_r))] sz)) 0 0 (va_A [(h_o, .inr (7, [.ref h_o_plans, .ref h_o_makers, .ref h_o_halves, .int o_raised, .ref h_o_all, .ref h_o_text, .ref h_o_saved, .ref h_o_undone, .int o_undos, .int o_reached, .int o_length, .int o_begin, .int o_letters, .int o_sort, .long o_word, .int o_wrongAt, .int o_badAt, .int o_bad, .ref h_o_told, .ref h_o_shift, .int o_firstX, .int o_firstY, .int o_secondX, .int o_secondY, .ref h_o_rootOf, .ref h_o_becomes, .ref h_o_comes, .ref h_o_next, .int o_x])), (h_o_all, .inl (ca 0, 350, .inl o_all_r))] sz) := by
  refine Met.ofW (cc := cX8_coloursThere) (maxL := 4) (ret := (some .int)) (by decide) rfl ?_
  intro p e s m args below meth c s₁ B hml hv
  obtain ⟨rfl, hsz, hP, hK, hD0, hE⟩ := hv
  have hx := B.exec
  have hb := B.bytes
  have hr := B.returns
  have hts := atoms_spec (ws := Cond.code yX8_coloursThere cX8_coloursThere 4 (some .int) :: ds_gw) B.pre
  have hg : ∀ {w : Cond}, w ∈ ds_gw → w.before _ s = true := fun h => hts _ (List.mem_cons_of_mem _ h)
  have hown : s.vm.findClass RX8 = some m.cls := findClass_of_methodNamed B.named
  have hlocks := B.notSynchronized
  subst hsz
  have hD := hD0.self (sz := s.heap.size)
  generalize hAe : va_A [(h_o, .inr (7, [.ref h_o_plans, .ref h_o_makers, .ref h_o_halves, .int o_raised, .ref h_o_all, .ref h_o_text, .ref h_o_saved, .ref h_o_undone, .int o_undos, .int o_reached, .int o_length, .int o_begin, .int o_letters, .int o_sort, .long o_word, .int o_wrongAt, .int o_badAt, .int o_bad, .ref h_o_told, .ref h_o_shift, .int o_firstX, .int o_firstY, .int o_secondX, .int o_secondY, .ref h_o_rootOf, .ref h_o_becomes, .ref h_o_comes, .ref h_o_next, .int o_x])), (h_o_all, .inl (ca 0, 350, .inl o_all_r))] s.heap.size = A at hD hE ⊢
  have hA : ∀ q : Nat, s.heap.size ≤ q → A q := fun q h => by rw [← hAe]; exact Or.inr h
  have hS : va_S A s.heap s.heap [] := va_S.rf
  have hl := lv_entry ([.ref h_o]) (n := 4) (Nat.le_of_ble_eq_true rfl)
  rw [lg_entry_eq]
  generalize (lg_sl ([.ref h_o]) ++ List.replicate (4 - (lg_sl ([.ref h_o])).length) Slot.unset).toArray = ls at hl ⊢
  have hl : lv_has ls 4 [(0, .ref h_o)] := hl
  obtain ⟨G0, eG0⟩ : ∃ G : Int32 → Prop, G = (fun r => r = res) := ⟨_, rfl⟩
  obtain ⟨rr, hrr⟩ : ∃ z, z = res := ⟨_, rfl⟩
  rw [← hrr] at hf
  have hG : G0 rr := by subst eG0; exact hrr
  refine ds_cap (fun WW h1 h2 => ?_)
  have J_4 : ∀ (n : Nat) (v1 : Int32) (v2 : Int32) (rr : Int32) (hf : ds_it (fun s => fX8_coloursThere_4_b o_all_r s.1 s.2) n (v1, v2) = some rr) (hG : G0 rr) (H : Heap) (locs : List Loc) (hP : va_P (dC, dI) vwCl [(h_o, .inr (7, [.ref h_o_plans, .ref h_o_makers, .ref h_o_halves, .int o_raised, .ref h_o_all, .ref h_o_text, .ref h_o_saved, .ref h_o_undone, .int o_undos, .int o_reached, .int o_length, .int o_begin, .int o_letters, .int o_sort, .long o_word, .int o_wrongAt, .int o_badAt, .int o_bad, .ref h_o_told, .ref h_o_shift, .int o_firstX, .int o_firstY, .int o_secondX, .int o_secondY, .ref h_o_rootOf, .ref h_o_becomes, .ref h_o_comes, .ref h_o_next, .int o_x])), (h_o_all, .inl (ca 0, 350, .inl o_all_r))] H) (hD : va_D A [(h_o, .inr (7, [.ref h_o_plans, .ref h_o_makers, .ref h_o_halves, .int o_raised, .ref h_o_all, .ref h_o_text, .ref h_o_saved, .ref h_o_undone, .int o_undos, .int o_reached, .int o_length, .int o_begin, .int o_letters, .int o_sort, .long o_word, .int o_wrongAt, .int o_badAt, .int o_bad, .ref h_o_told, .ref h_o_shift, .int o_firstX, .int o_firstY, .int o_secondX, .int o_secondY, .ref h_o_rootOf, .ref h_o_becomes, .ref h_o_comes, .ref h_o_next, .int o_x])), (h_o_all, .inl (ca 0, 350, .inl o_all_r))]) (hS : va_S A s.heap H locs) (ls : Array Slot) (hl : lv_has ls 4 [(0, .ref h_o), (1, .int v1), (2, .int v2)]), WW H locs (F0 m 4 ls []) := by
    intro  n
    induction n with
    | zero => intro v1 v2 rr hf; exact (ds_it_zero hf).elim
    | succ n ih4 =>
      intro v1 v2 rr hf hG H locs hP hD hS ls hl
      refine h2 ?_
      obtain ⟨rr, hf, hG⟩ := ds_it_succ hf hG
      replace hf : fX8_coloursThere_4_b o_all_r v1 v2 = some rr := hf
      obtain ⟨G1, eG1⟩ : ∃ G : ((Int32 × Int32) ⊕ (Int32)) → Prop, G = ds_G (fun s' => ∃ r', ds_it (fun s => fX8_coloursThere_4_b o_all_r s.1 s.2) n s' = some r' ∧ G0 r') G0 := ⟨_, rfl⟩
      rw [← eG1] at hG
      have J_43 : ∀ (v1 : Int32) (v2 : Int32) (rr : (Int32 × Int32) ⊕ (Int32)) (hf : fX8_coloursThere_43 v1 v2 = some rr) (hG : G1 rr) (H : Heap) (locs : List Loc) (hP : va_P (dC, dI) vwCl [(h_o, .inr (7, [.ref h_o_plans, .ref h_o_makers, .ref h_o_halves, .int o_raised, .ref h_o_all, .ref h_o_text, .ref h_o_saved, .ref h_o_undone, .int o_undos, .int o_reached, .int o_length, .int o_begin, .int o_letters, .int o_sort, .long o_word, .int o_wrongAt, .int o_badAt, .int o_bad, .ref h_o_told, .ref h_o_shift, .int o_firstX, .int o_firstY, .int o_secondX, .int o_secondY, .ref h_o_rootOf, .ref h_o_becomes, .ref h_o_comes, .ref h_o_next, .int o_x])), (h_o_all, .inl (ca 0, 350, .inl o_all_r))] H) (hD : va_D A [(h_o, .inr (7, [.ref h_o_plans, .ref h_o_makers, .ref h_o_halves, .int o_raised, .ref h_o_all, .ref h_o_text, .ref h_o_saved, .ref h_o_undone, .int o_undos, .int o_reached, .int o_length, .int o_begin, .int o_letters, .int o_sort, .long o_word, .int o_wrongAt, .int o_badAt, .int o_bad, .ref h_o_told, .ref h_o_shift, .int o_firstX, .int o_firstY, .int o_secondX, .int o_secondY, .ref h_o_rootOf, .ref h_o_becomes, .ref h_o_comes, .ref h_o_next, .int o_x])), (h_o_all, .inl (ca 0, 350, .inl o_all_r))]) (hS : va_S A s.heap H locs) (ls : Array Slot) (hl : lv_has ls 4 [(0, .ref h_o), (1, .int v1), (2, .int v2)]), WW H locs (F0 m 43 ls []) := by
        intro v1 v2 rr hf hG H locs hP hD hS ls hl
        refine h2 ?_
        unfold fX8_coloursThere_43 at hf
        refine lv_iinc (v := (v2 + 1)) (lv' := [(2, .int (v2 + 1)), (0, .ref h_o), (1, .int v1)]) hx hb dX8_coloursThere_43 hl (k := 2) rfl rfl (by decide) rfl (fun ls hl => ?_)
        refine lv_goto (tgt := 4) hx hb dX8_coloursThere_46 (by decide) ?_
        have hf := Option.some.inj hf
        subst hf
        rw [eG1] at hG
        obtain ⟨rr, hf, hG⟩ := hG
        exact h1 (ih4 v1 (v2 + 1) rr hf hG _ _ hP hD hS _ (lv_sub hl [1, 2, 0] rfl))
      have J_16 : ∀ (v2 : Int32) (n : Nat) (v1 : Int32) (v3 : Int32) (rr : (Int32 × Int32) ⊕ (Int32)) (hf : ds_it (fun s => fX8_coloursThere_16_b o_all_r v2 s.1 s.2) n (v1, v3) = some rr) (hG : G1 rr) (H : Heap) (locs : List Loc) (hP : va_P (dC, dI) vwCl [(h_o, .inr (7, [.ref h_o_plans, .ref h_o_makers, .ref h_o_halves, .int o_raised, .ref h_o_all, .ref h_o_text, .ref h_o_saved, .ref h_o_undone, .int o_undos, .int o_reached, .int o_length, .int o_begin, .int o_letters, .int o_sort, .long o_word, .int o_wrongAt, .int o_badAt, .int o_bad, .ref h_o_told, .ref h_o_shift, .int o_firstX, .int o_firstY, .int o_secondX, .int o_secondY, .ref h_o_rootOf, .ref h_o_becomes, .ref h_o_comes, .ref h_o_next, .int o_x])), (h_o_all, .inl (ca 0, 350, .inl o_all_r))] H) (hD : va_D A [(h_o, .inr (7, [.ref h_o_plans, .ref h_o_makers, .ref h_o_halves, .int o_raised, .ref h_o_all, .ref h_o_text, .ref h_o_saved, .ref h_o_undone, .int o_undos, .int o_reached, .int o_length, .int o_begin, .int o_letters, .int o_sort, .long o_word, .int o_wrongAt, .int o_badAt, .int o_bad, .ref h_o_told, .ref h_o_shift, .int o_firstX, .int o_firstY, .int o_secondX, .int o_secondY, .ref h_o_rootOf, .ref h_o_becomes, .ref h_o_comes, .ref h_o_next, .int o_x])), (h_o_all, .inl (ca 0, 350, .inl o_all_r))]) (hS : va_S A s.heap H locs) (ls : Array Slot) (hl : lv_has ls 4 [(0, .ref h_o), (1, .int v1), (2, .int v2), (3, .int v3)]), WW H locs (F0 m 16 ls []) := by
        intro v2 n
        induction n with
        | zero => intro v1 v3 rr hf; exact (ds_it_zero hf).elim
        | succ n ih16 =>
          intro v1 v3 rr hf hG H locs hP hD hS ls hl
          refine h2 ?_
          obtain ⟨rr, hf, hG⟩ := ds_it_succ hf hG
          replace hf : fX8_coloursThere_16_b o_all_r v2 v1 v3 = some rr := hf
          obtain ⟨G2, eG2⟩ : ∃ G : ((Int32 × Int32) ⊕ ((Int32 × Int32) ⊕ (Int32))) → Prop, G = ds_G (fun s' => ∃ r', ds_it (fun s => fX8_coloursThere_16_b o_all_r v2 s.1 s.2) n s' = some r' ∧ G1 r') G1 := ⟨_, rfl⟩
          rw [← eG2] at hG
          unfold fX8_coloursThere_16_b at hf
          refine lv_iload_n hx hb dX8_coloursThere_16 rfl (lv_at hl 3 rfl) ?_
          refine lv_aload_n hx hb dX8_coloursThere_17 rfl (lv_at hl 0 rfl) ?_
          refine va_get (D := (dC, dI)) (ci := 7) (v := .ref h_o_all) (C := RX8) (T := TX8) (N := 29) hx hb hts (fun w h => List.mem_cons_of_mem _ (kc_X8 w h)) hown hK hP 0 rfl rfl 4 (by decide) (hg kw_594) (fun _ h9 => h9) rfl dX8_coloursThere_18 ?_
          refine lv_iconst (v := 0) hx hb dX8_coloursThere_21 (by decide) ?_
          refine va_iald hx hb hK hP 1 0 rfl rfl (ds_in_ok (i := 0) (n := 350) (by decide)) dX8_coloursThere_22 ?_
          refine lv_icmp_ge (tgt := 43) hx hb dX8_coloursThere_23 (by decide) (fun c_23 => ?_) (fun c_23 => ?_)
          · replace hf := ds_t c_23 hf
            obtain ⟨rr, hr_0, hf⟩ := ds_ob hf
            have hf := Option.some.inj hf
            subst hf
            rw [eG2] at hG
            replace hG : G1 rr := hG
            have hf := hr_0
            exact h1 (J_43 v1 v2 _ hf hG _ _ hP hD hS _ (lv_sub hl [0, 1, 2] rfl))
          · replace hf := ds_f c_23 hf
            refine lv_iload_n hx hb dX8_coloursThere_26 rfl (lv_at hl 1 rfl) ?_
            refine lv_iconst (v := 1) hx hb dX8_coloursThere_27 (by decide) ?_
            refine lv_aload_n hx hb dX8_coloursThere_28 rfl (lv_at hl 0 rfl) ?_
            refine lv_iload_n hx hb dX8_coloursThere_29 rfl (lv_at hl 3 rfl) ?_
            refine lv_iload_n hx hb dX8_coloursThere_30 rfl (lv_at hl 2 rfl) ?_
            obtain ⟨q31, hq31, hf⟩ := ds_ob hf
            refine ds_calli (wr := []) (va_runV (As := [.int v3, .int v2]) (rest := [.int (1 : Int32), .int v1]) ⟨hx, hb, hml, hown, hts⟩ (c_X8_colour l dC dI ca sa h_o h_o_plans h_o_makers h_o_halves h_o_all h_o_text h_o_saved h_o_undone h_o_told h_o_shift h_o_rootOf h_o_becomes h_o_comes h_o_next H.size o_raised o_undos o_reached o_length o_begin o_letters o_sort o_word o_wrongAt o_badAt o_bad o_firstX o_firstY o_secondX o_secondY o_x o_all_r v3 v2 q31 hq31) (cwV 2 hts (ds_gV kw_651 kw_652 kw_653 kw_597 kw_654) rfl rfl rfl (by decide +kernel) ⟨Nat.le_of_ble_eq_true rfl, Nat.le_of_ble_eq_true rfl⟩) ⟨ds_blind, va_recv hK hP (ci := 7) (q0 := 0) rfl rfl, ds_at hP hD hK hE hS hA [0, 1] rfl rfl _⟩ rfl rfl hl.1 rfl (lv_room (Nat.le_of_ble_eq_true rfl)) dX8_coloursThere_31 ⟨Nat.zero_le _, Nat.zero_le _⟩) hP hD hS hA [0, 1] [] rfl rfl rfl (by decide) (fun H locs hP hD hS => ?_)
            have hP : va_P (dC, dI) vwCl [(h_o, .inr (7, [.ref h_o_plans, .ref h_o_makers, .ref h_o_halves, .int o_raised, .ref h_o_all, .ref h_o_text, .ref h_o_saved, .ref h_o_undone, .int o_undos, .int o_reached, .int o_length, .int o_begin, .int o_letters, .int o_sort, .long o_word, .int o_wrongAt, .int o_badAt, .int o_bad, .ref h_o_told, .ref h_o_shift, .int o_firstX, .int o_firstY, .int o_secondX, .int o_secondY, .ref h_o_rootOf, .ref h_o_becomes, .ref h_o_comes, .ref h_o_next, .int o_x])), (h_o_all, .inl (ca 0, 350, .inl o_all_r))] H := hP
            have hD : va_D A [(h_o, .inr (7, [.ref h_o_plans, .ref h_o_makers, .ref h_o_halves, .int o_raised, .ref h_o_all, .ref h_o_text, .ref h_o_saved, .ref h_o_undone, .int o_undos, .int o_reached, .int o_length, .int o_begin, .int o_letters, .int o_sort, .long o_word, .int o_wrongAt, .int o_badAt, .int o_bad, .ref h_o_told, .ref h_o_shift, .int o_firstX, .int o_firstY, .int o_secondX, .int o_secondY, .ref h_o_rootOf, .ref h_o_becomes, .ref h_o_comes, .ref h_o_next, .int o_x])), (h_o_all, .inl (ca 0, 350, .inl o_all_r))] := hD
            refine lv_ishl hx hb dX8_coloursThere_34 ?_
            refine lv_ior hx hb dX8_coloursThere_35 ?_
            refine lv_istore_n (lv' := [(1, .int (v1 ||| ((1 : Int32) <<< (q31 &&& 31)))), (0, .ref h_o), (2, .int v2), (3, .int v3)]) hx hb dX8_coloursThere_36 rfl hl (by decide) rfl (fun ls hl => ?_)
            refine lv_iinc (v := (v3 + 1)) (lv' := [(3, .int (v3 + 1)), (1, .int (v1 ||| ((1 : Int32) <<< (q31 &&& 31)))), (0, .ref h_o), (2, .int v2)]) hx hb dX8_coloursThere_37 hl (k := 3) rfl rfl (by decide) rfl (fun ls hl => ?_)
            refine lv_goto (tgt := 16) hx hb dX8_coloursThere_40 (by decide) ?_
            have hf := Option.some.inj hf
            subst hf
            rw [eG2] at hG
            obtain ⟨rr, hf, hG⟩ := hG
            exact h1 (ih16 (v1 ||| ((1 : Int32) <<< (q31 &&& 31))) (v3 + 1) rr hf hG _ _ hP hD hS _ (lv_sub hl [2, 1, 3, 0] rfl))
      unfold fX8_coloursThere_4_b at hf
      refine lv_iload_n hx hb dX8_coloursThere_4 rfl (lv_at hl 2 rfl) ?_
      refine lv_aload_n hx hb dX8_coloursThere_5 rfl (lv_at hl 0 rfl) ?_
      refine va_get (D := (dC, dI)) (ci := 7) (v := .ref h_o_all) (C := RX8) (T := TX8) (N := 29) hx hb hts (fun w h => List.mem_cons_of_mem _ (kc_X8 w h)) hown hK hP 0 rfl rfl 4 (by decide) (hg kw_594) (fun _ h9 => h9) rfl dX8_coloursThere_6 ?_
      refine lv_iconst (v := 1) hx hb dX8_coloursThere_9 (by decide) ?_
      refine va_iald hx hb hK hP 1 0 rfl rfl (ds_in_ok (i := 1) (n := 350) (by decide)) dX8_coloursThere_10 ?_
      refine lv_icmp_ge (tgt := 49) hx hb dX8_coloursThere_11 (by decide) (fun c_11 => ?_) (fun c_11 => ?_)
      · replace hf := ds_t c_11 hf
        refine lv_iload_n hx hb dX8_coloursThere_49 rfl (lv_at hl 1 rfl) ?_
        have hf := Option.some.inj hf
        subst hf
        rw [eG1] at hG
        replace hG : G0 _ := hG
        rw [eG0] at hG
        have hG : _ = res := hG
        subst hG
        exact W.iret (v := v1) hx hb hr (fun t ht hW => ⟨⟨v1, (), rfl, rfl, by rw [ht]; exact hP, hD⟩, hS.F ht⟩) hS.2.2 dX8_coloursThere_50
      · replace hf := ds_f c_11 hf
        refine lv_iconst (v := 0) hx hb dX8_coloursThere_14 (by decide) ?_
        refine lv_istore_n (lv' := [(3, .int (0 : Int32)), (0, .ref h_o), (1, .int v1), (2, .int v2)]) hx hb dX8_coloursThere_15 rfl hl (by decide) rfl (fun ls hl => ?_)
        exact h1 (J_16 v2 1000 v1 (0 : Int32) _ hf hG _ _ hP hD hS _ (lv_sub hl [1, 2, 3, 0] rfl))
  unfold fX8_coloursThere at hf
  refine lv_iconst (v := 0) hx hb dX8_coloursThere_0 (by decide) ?_
  refine lv_istore_n (lv' := [(1, .int (0 : Int32)), (0, .ref h_o)]) hx hb dX8_coloursThere_1 rfl hl (by decide) rfl (fun ls hl => ?_)
  refine lv_iconst (v := 0) hx hb dX8_coloursThere_2 (by decide) ?_
  refine lv_istore_n (lv' := [(2, .int (0 : Int32)), (1, .int (0 : Int32)), (0, .ref h_o)]) hx hb dX8_coloursThere_3 rfl hl (by decide) rfl (fun ls hl => ?_)
  exact h1 (J_4  1000 (0 : Int32) (0 : Int32) _ hf hG _ _ hP hD hS _ (lv_sub hl [2, 1, 0] rfl))
theorem dX8_cellsOf_0 : decode cX8_cellsOf 0 = .ok (.iconst 0, 1) := by decide +kernel
theorem dX8_cellsOf_1 : decode cX8_cellsOf 1 = .ok (.istore_n 2, 1) := by decide +kernel
theorem dX8_cellsOf_2 : decode cX8_cellsOf 2 = .ok (.iconst 0, 1) := by decide +kernel
theorem dX8_cellsOf_3 : decode cX8_cellsOf 3 = .ok (.istore_n 3, 1) := by decide +kernel
theorem dX8_cellsOf_4 : decode cX8_cellsOf 4 = .ok (.iload_n 3, 1) := by decide +kernel
theorem dX8_cellsOf_5 : decode cX8_cellsOf 5 = .ok (.aload_n 0, 1) := by decide +kernel
theorem dX8_cellsOf_6 : decode cX8_cellsOf 6 = .ok (.getfield 19, 3) := by decide +kernel
theorem dX8_cellsOf_9 : decode cX8_cellsOf 9 = .ok (.iconst 1, 1) := by decide +kernel
theorem dX8_cellsOf_10 : decode cX8_cellsOf 10 = .ok (.iaload, 1) := by decide +kernel
theorem dX8_cellsOf_11 : decode cX8_cellsOf 11 = .ok (.if_icmp .ge 48, 3) := by decide +kernel
theorem dX8_cellsOf_14 : decode cX8_cellsOf 14 = .ok (.iconst 0, 1) := by decide +kernel
theorem dX8_cellsOf_15 : decode cX8_cellsOf 15 = .ok (.istore 4, 2) := by decide +kernel
theorem dX8_cellsOf_17 : decode cX8_cellsOf 17 = .ok (.iload 4, 2) := by decide +kernel
theorem dX8_cellsOf_19 : decode cX8_cellsOf 19 = .ok (.aload_n 0, 1) := by decide +kernel
theorem dX8_cellsOf_20 : decode cX8_cellsOf 20 = .ok (.getfield 19, 3) := by decide +kernel
theorem dX8_cellsOf_23 : decode cX8_cellsOf 23 = .ok (.iconst 0, 1) := by decide +kernel
theorem dX8_cellsOf_24 : decode cX8_cellsOf 24 = .ok (.iaload, 1) := by decide +kernel
theorem dX8_cellsOf_25 : decode cX8_cellsOf 25 = .ok (.if_icmp .ge 28, 3) := by decide +kernel
theorem dX8_cellsOf_28 : decode cX8_cellsOf 28 = .ok (.iload_n 2, 1) := by decide +kernel
theorem dX8_cellsOf_29 : decode cX8_cellsOf 29 = .ok (.aload_n 0, 1) := by decide +kernel
theorem dX8_cellsOf_30 : decode cX8_cellsOf 30 = .ok (.iload 4, 2) := by decide +kernel
theorem dX8_cellsOf_32 : decode cX8_cellsOf 32 = .ok (.iload_n 3, 1) := by decide +kernel
theorem dX8_cellsOf_33 : decode cX8_cellsOf 33 = .ok (.invokevirtual 127, 3) := by decide +kernel
theorem dX8_cellsOf_36 : decode cX8_cellsOf 36 = .ok (.iload_n 1, 1) := by decide +kernel
theorem dX8_cellsOf_37 : decode cX8_cellsOf 37 = .ok (.if_icmp .ne 7, 3) := by decide +kernel
theorem dX8_cellsOf_40 : decode cX8_cellsOf 40 = .ok (.iconst 1, 1) := by decide +kernel
theorem dX8_cellsOf_41 : decode cX8_cellsOf 41 = .ok (.goto 4, 3) := by decide +kernel
theorem dX8_cellsOf_44 : decode cX8_cellsOf 44 = .ok (.iconst 0, 1) := by decide +kernel
theorem dX8_cellsOf_45 : decode cX8_cellsOf 45 = .ok (.iadd, 1) := by decide +kernel
theorem dX8_cellsOf_46 : decode cX8_cellsOf 46 = .ok (.istore_n 2, 1) := by decide +kernel
theorem dX8_cellsOf_47 : decode cX8_cellsOf 47 = .ok (.iinc 4 1, 3) := by decide +kernel
theorem dX8_cellsOf_50 : decode cX8_cellsOf 50 = .ok (.goto (-33), 3) := by decide +kernel
theorem dX8_cellsOf_53 : decode cX8_cellsOf 53 = .ok (.iinc 3 1, 3) := by decide +kernel
theorem dX8_cellsOf_56 : decode cX8_cellsOf 56 = .ok (.goto (-52), 3) := by decide +kernel
theorem dX8_cellsOf_59 : decode cX8_cellsOf 59 = .ok (.iload_n 2, 1) := by decide +kernel
theorem dX8_cellsOf_60 : decode cX8_cellsOf 60 = .ok (.ireturn, 1) := by decide +kernel
def fX8_cellsOf_53 (v2 : Int32) (v3 : Int32) : Option ((Int32 × Int32) ⊕ (Int32)) :=
  some (.inl (v2, (v3 + 1)))
def fX8_cellsOf_45 (v4 : Int32) (s0 : Int32) (s1 : Int32) : Option ((Int32 × Int32) ⊕ ((Int32 × Int32) ⊕ (Int32))) :=
  some (.inl ((s1 + s0), (v4 + 1)))
def fX8_cellsOf_17_b (o_all_r : Nat → Int32) (p1 : Int32) (v3 : Int32) (v2 : Int32) (v4 : Int32) : Option ((Int32 × Int32) ⊕ ((Int32 × Int32) ⊕ (Int32))) :=
  if (o_all_r (0 : Int32).toNatClampNeg) ≤ v4 then Option.bind (fX8_cellsOf_53 v2 v3) fun z => some (.inr z) else Option.bind (fX8_colour o_all_r v4 v3) fun q33 => if q33 = p1 then fX8_cellsOf_45 v4 (1 : Int32) v2 else fX8_cellsOf_45 v4 (0 : Int32) v2
def fX8_cellsOf_17 (o_all_r : Nat → Int32) (p1 : Int32) (v3 : Int32) (v2 : Int32) (v4 : Int32) : Option ((Int32 × Int32) ⊕ (Int32)) := ds_it (fun s => fX8_cellsOf_17_b o_all_r p1 v3 s.1 s.2) 1000 (v2, v4)
def fX8_cellsOf_4_b (o_all_r : Nat → Int32) (p1 : Int32) (v2 : Int32) (v3 : Int32) : Option ((Int32 × Int32) ⊕ (Int32)) :=
  if (o_all_r (1 : Int32).toNatClampNeg) ≤ v3 then some (.inr v2) else fX8_cellsOf_17 o_all_r p1 v3 v2 (0 : Int32)
def fX8_cellsOf_4 (o_all_r : Nat → Int32) (p1 : Int32) (v2 : Int32) (v3 : Int32) : Option (Int32) := ds_it (fun s => fX8_cellsOf_4_b o_all_r p1 s.1 s.2) 1000 (v2, v3)
def fX8_cellsOf (o_all_r : Nat → Int32) (p1 : Int32) : Option (Int32) :=
  fX8_cellsOf_4 o_all_r p1 (0 : Int32) (0 : Int32)
set_option maxHeartbeats 4000000 in
set_option maxRecDepth 100000 in
theorem c_X8_cellsOf (l : Launch) (dC : Nat → ClassId) (dI : Nat → Nat → Nat) (ca : Nat → ClassId) (sa : Nat → Nat) (h_o : Nat) (h_o_plans : Nat) (h_o_makers : Nat) (h_o_halves : Nat) (h_o_all : Nat) (h_o_text : Nat) (h_o_saved : Nat) (h_o_undone : Nat) (h_o_told : Nat) (h_o_shift : Nat) (h_o_rootOf : Nat) (h_o_becomes : Nat) (h_o_comes : Nat) (h_o_next : Nat) (sz : Nat) (o_raised : Int32) (o_undos : Int32) (o_reached : Int32) (o_length : Int32) (o_begin : Int32) (o_letters : Int32) (o_sort : Int32) (o_word : Int64) (o_wrongAt : Int32) (o_badAt : Int32) (o_bad : Int32) (o_firstX : Int32) (o_firstY : Int32) (o_secondX : Int32) (o_secondY : Int32) (o_x : Int32) (o_all_r : Nat → Int32) (p1 : Int32) (res : Int32) (hf : fX8_cellsOf o_all_r p1 = some res) : Met l yX8_cellsOf (Cond.code yX8_cellsOf cX8_cellsOf 5 (some .int) :: ds_gw) { frames := 3, cells := 0, slots := 0, locals := 66 } (va_Pc [.ref h_o, .int p1] (ds_Pre dC dI ca sa [(h_o, .inr (7, [.ref h_o_plans, .ref h_o_makers, .ref h_o_halves, .int o_raised, .ref h_o_all, .ref h_o_text, .ref h_o_saved, .ref h_o_undone, .int o_undos, .int o_reached, .int o_length, .int o_begin, .int o_letters, .int o_sort, .long o_word, .int o_wrongAt, .int o_badAt, .int o_bad, .ref h_o_told, .ref h_o_shift, .int o_firstX, .int o_firstY, .int o_secondX, .int o_secondY, .ref h_o_rootOf, .ref h_o_becomes, .ref h_o_comes, .ref h_o_next, .int o_x])), (h_o_all, .inl (ca 0, 350, .inl o_all_r))] sz)) (va_Qi (fun r (_ : Unit) => r = res) (ds_B dC dI (va_A [(h_o, .inr (7, [.ref h_o_plans, .ref h_o_makers, .ref h_o_halves, .int o_raised, .ref h_o_all, .ref h_o_text, .ref h_o_saved, .ref h_o_undone, .int o_undos, .int o_reached, .int o_length, .int o_begin, .int o_letters, .int o_sort, .long o_word, .int o_wrongAt, .int o_badAt, .int o_bad, .ref h_o_told, .ref h_o_shift, .int o_firstX, .int o_firstY, .int o_secondX, .int o_secondY, .ref h_o_rootOf, .ref h_o_becomes, .ref h_o_comes, .ref h_o_next, .int o_x])), (h_o_all, .inl (ca 0, 350, .inl o_all_r))] sz) [(h_o, .inr (7, [.ref h_o_plans, .ref h_o_makers, .ref h_o_halves, .int o_raised, .ref h_o_all, .ref h_o_text, .ref h_o_saved, .ref h_o_undone, .int o_undos, .int o_reached, .int o_length, .int o_begin, .int o_letters, .int o_sort, .long o_word, .int o_wrongAt, .int o_badAt, .int o_bad, .ref h_o_told, .ref h_o_shift, .int o_firstX, .int o_firstY, .int o_secondX, .int o_secondY, .ref h_o_rootOf, .ref h_o_becomes, .ref h_o_comes, .ref h_o_next, .int o_x])), (h_o_all, .inl (ca 0, 350, .inl o_all_r))]) (va_A [(h_o, .inr (7, [.ref h_o_plans, .ref h_o_makers, .ref h_o_halves, .int o_raised, .ref h_o_all, .ref h_o_text, .ref h_o_saved, .ref h_o_undone, .int o_undos, .int o_reached, .int o_length, .int o_begin, .int o_letters, .int o_sort, .long o_word, .int o_wrongAt, .int o_badAt, .int o_bad, .ref h_o_told, .ref h_o_shift, .int o_firstX, .int o_firstY, .int o_secondX, .int o_secondY, .ref h_o_rootOf, .ref h_o_becomes, .ref h_o_comes, .ref h_o_next, .int o_x])), (h_o_all, .inl (ca 0, 350, .inl o_all_r))] sz)) 0 0 (va_A [(h_o, .inr (7, [.ref h_o_plans, .ref h_o_makers, .ref h_o_halves, .int o_raised, .ref h_o_all, .ref h_o_text, .ref h_o_saved, .ref h_o_undone, .int o_undos, .int o_reached, .int o_length, .int o_begin, .int o_letters, .int o_sort, .long o_word, .int o_wrongAt, .int o_badAt, .int o_bad, .ref h_o_told, .ref h_o_shift, .int o_firstX, .int o_firstY, .int o_secondX, .int o_secondY, .ref h_o_rootOf, .ref h_o_becomes, .ref h_o_comes, .ref h_o_next, .int o_x])), (h_o_all, .inl (ca 0, 350, .inl o_all_r))] sz) := by
  refine Met.ofW (cc := cX8_cellsOf) (maxL := 5) (ret := (some .int)) (by decide) rfl ?_
  intro p e s m args below meth c s₁ B hml hv
  obtain ⟨rfl, hsz, hP, hK, hD0, hE⟩ := hv
  have hx := B.exec
  have hb := B.bytes
  have hr := B.returns
  have hts := atoms_spec (ws := Cond.code yX8_cellsOf cX8_cellsOf 5 (some .int) :: ds_gw) B.pre
  have hg : ∀ {w : Cond}, w ∈ ds_gw → w.before _ s = true := fun h => hts _ (List.mem_cons_of_mem _ h)
  have hown : s.vm.findClass RX8 = some m.cls := findClass_of_methodNamed B.named
  have hlocks := B.notSynchronized
  subst hsz
  have hD := hD0.self (sz := s.heap.size)
  generalize hAe : va_A [(h_o, .inr (7, [.ref h_o_plans, .ref h_o_makers, .ref h_o_halves, .int o_raised, .ref h_o_all, .ref h_o_text, .ref h_o_saved, .ref h_o_undone, .int o_undos, .int o_reached, .int o_length, .int o_begin, .int o_letters, .int o_sort, .long o_word, .int o_wrongAt, .int o_badAt, .int o_bad, .ref h_o_told, .ref h_o_shift, .int o_firstX, .int o_firstY, .int o_secondX, .int o_secondY, .ref h_o_rootOf, .ref h_o_becomes, .ref h_o_comes, .ref h_o_next, .int o_x])), (h_o_all, .inl (ca 0, 350, .inl o_all_r))] s.heap.size = A at hD hE ⊢
  have hA : ∀ q : Nat, s.heap.size ≤ q → A q := fun q h => by rw [← hAe]; exact Or.inr h
  have hS : va_S A s.heap s.heap [] := va_S.rf
  have hl := lv_entry ([.ref h_o, .int p1]) (n := 5) (Nat.le_of_ble_eq_true rfl)
  rw [lg_entry_eq]
  generalize (lg_sl ([.ref h_o, .int p1]) ++ List.replicate (5 - (lg_sl ([.ref h_o, .int p1])).length) Slot.unset).toArray = ls at hl ⊢
  have hl : lv_has ls 5 [(0, .ref h_o), (1, .int p1)] := hl
  obtain ⟨G0, eG0⟩ : ∃ G : Int32 → Prop, G = (fun r => r = res) := ⟨_, rfl⟩
  obtain ⟨rr, hrr⟩ : ∃ z, z = res := ⟨_, rfl⟩
  rw [← hrr] at hf
  have hG : G0 rr := by subst eG0; exact hrr
  refine ds_cap (fun WW h1 h2 => ?_)
  have J_4 : ∀ (n : Nat) (v2 : Int32) (v3 : Int32) (rr : Int32) (hf : ds_it (fun s => fX8_cellsOf_4_b o_all_r p1 s.1 s.2) n (v2, v3) = some rr) (hG : G0 rr) (H : Heap) (locs : List Loc) (hP : va_P (dC, dI) vwCl [(h_o, .inr (7, [.ref h_o_plans, .ref h_o_makers, .ref h_o_halves, .int o_raised, .ref h_o_all, .ref h_o_text, .ref h_o_saved, .ref h_o_undone, .int o_undos, .int o_reached, .int o_length, .int o_begin, .int o_letters, .int o_sort, .long o_word, .int o_wrongAt, .int o_badAt, .int o_bad, .ref h_o_told, .ref h_o_shift, .int o_firstX, .int o_firstY, .int o_secondX, .int o_secondY, .ref h_o_rootOf, .ref h_o_becomes, .ref h_o_comes, .ref h_o_next, .int o_x])), (h_o_all, .inl (ca 0, 350, .inl o_all_r))] H) (hD : va_D A [(h_o, .inr (7, [.ref h_o_plans, .ref h_o_makers, .ref h_o_halves, .int o_raised, .ref h_o_all, .ref h_o_text, .ref h_o_saved, .ref h_o_undone, .int o_undos, .int o_reached, .int o_length, .int o_begin, .int o_letters, .int o_sort, .long o_word, .int o_wrongAt, .int o_badAt, .int o_bad, .ref h_o_told, .ref h_o_shift, .int o_firstX, .int o_firstY, .int o_secondX, .int o_secondY, .ref h_o_rootOf, .ref h_o_becomes, .ref h_o_comes, .ref h_o_next, .int o_x])), (h_o_all, .inl (ca 0, 350, .inl o_all_r))]) (hS : va_S A s.heap H locs) (ls : Array Slot) (hl : lv_has ls 5 [(0, .ref h_o), (1, .int p1), (2, .int v2), (3, .int v3)]), WW H locs (F0 m 4 ls []) := by
    intro  n
    induction n with
    | zero => intro v2 v3 rr hf; exact (ds_it_zero hf).elim
    | succ n ih4 =>
      intro v2 v3 rr hf hG H locs hP hD hS ls hl
      refine h2 ?_
      obtain ⟨rr, hf, hG⟩ := ds_it_succ hf hG
      replace hf : fX8_cellsOf_4_b o_all_r p1 v2 v3 = some rr := hf
      obtain ⟨G1, eG1⟩ : ∃ G : ((Int32 × Int32) ⊕ (Int32)) → Prop, G = ds_G (fun s' => ∃ r', ds_it (fun s => fX8_cellsOf_4_b o_all_r p1 s.1 s.2) n s' = some r' ∧ G0 r') G0 := ⟨_, rfl⟩
      rw [← eG1] at hG
      have J_53 : ∀ (v2 : Int32) (v3 : Int32) (rr : (Int32 × Int32) ⊕ (Int32)) (hf : fX8_cellsOf_53 v2 v3 = some rr) (hG : G1 rr) (H : Heap) (locs : List Loc) (hP : va_P (dC, dI) vwCl [(h_o, .inr (7, [.ref h_o_plans, .ref h_o_makers, .ref h_o_halves, .int o_raised, .ref h_o_all, .ref h_o_text, .ref h_o_saved, .ref h_o_undone, .int o_undos, .int o_reached, .int o_length, .int o_begin, .int o_letters, .int o_sort, .long o_word, .int o_wrongAt, .int o_badAt, .int o_bad, .ref h_o_told, .ref h_o_shift, .int o_firstX, .int o_firstY, .int o_secondX, .int o_secondY, .ref h_o_rootOf, .ref h_o_becomes, .ref h_o_comes, .ref h_o_next, .int o_x])), (h_o_all, .inl (ca 0, 350, .inl o_all_r))] H) (hD : va_D A [(h_o, .inr (7, [.ref h_o_plans, .ref h_o_makers, .ref h_o_halves, .int o_raised, .ref h_o_all, .ref h_o_text, .ref h_o_saved, .ref h_o_undone, .int o_undos, .int o_reached, .int o_length, .int o_begin, .int o_letters, .int o_sort, .long o_word, .int o_wrongAt, .int o_badAt, .int o_bad, .ref h_o_told, .ref h_o_shift, .int o_firstX, .int o_firstY, .int o_secondX, .int o_secondY, .ref h_o_rootOf, .ref h_o_becomes, .ref h_o_comes, .ref h_o_next, .int o_x])), (h_o_all, .inl (ca 0, 350, .inl o_all_r))]) (hS : va_S A s.heap H locs) (ls : Array Slot) (hl : lv_has ls 5 [(0, .ref h_o), (1, .int p1), (2, .int v2), (3, .int v3)]), WW H locs (F0 m 53 ls []) := by
        intro v2 v3 rr hf hG H locs hP hD hS ls hl
        refine h2 ?_
        unfold fX8_cellsOf_53 at hf
        refine lv_iinc (v := (v3 + 1)) (lv' := [(3, .int (v3 + 1)), (0, .ref h_o), (1, .int p1), (2, .int v2)]) hx hb dX8_cellsOf_53 hl (k := 3) rfl rfl (by decide) rfl (fun ls hl => ?_)
        refine lv_goto (tgt := 4) hx hb dX8_cellsOf_56 (by decide) ?_
        have hf := Option.some.inj hf
        subst hf
        rw [eG1] at hG
        obtain ⟨rr, hf, hG⟩ := hG
        exact h1 (ih4 v2 (v3 + 1) rr hf hG _ _ hP hD hS _ (lv_sub hl [1, 2, 3, 0] rfl))
      have J_17 : ∀ (v3 : Int32) (n : Nat) (v2 : Int32) (v4 : Int32) (rr : (Int32 × Int32) ⊕ (Int32)) (hf : ds_it (fun s => fX8_cellsOf_17_b o_all_r p1 v3 s.1 s.2) n (v2, v4) = some rr) (hG : G1 rr) (H : Heap) (locs : List Loc) (hP : va_P (dC, dI) vwCl [(h_o, .inr (7, [.ref h_o_plans, .ref h_o_makers, .ref h_o_halves, .int o_raised, .ref h_o_all, .ref h_o_text, .ref h_o_saved, .ref h_o_undone, .int o_undos, .int o_reached, .int o_length, .int o_begin, .int o_letters, .int o_sort, .long o_word, .int o_wrongAt, .int o_badAt, .int o_bad, .ref h_o_told, .ref h_o_shift, .int o_firstX, .int o_firstY, .int o_secondX, .int o_secondY, .ref h_o_rootOf, .ref h_o_becomes, .ref h_o_comes, .ref h_o_next, .int o_x])), (h_o_all, .inl (ca 0, 350, .inl o_all_r))] H) (hD : va_D A [(h_o, .inr (7, [.ref h_o_plans, .ref h_o_makers, .ref h_o_halves, .int o_raised, .ref h_o_all, .ref h_o_text, .ref h_o_saved, .ref h_o_undone, .int o_undos, .int o_reached, .int o_length, .int o_begin, .int o_letters, .int o_sort, .long o_word, .int o_wrongAt, .int o_badAt, .int o_bad, .ref h_o_told, .ref h_o_shift, .int o_firstX, .int o_firstY, .int o_secondX, .int o_secondY, .ref h_o_rootOf, .ref h_o_becomes, .ref h_o_comes, .ref h_o_next, .int o_x])), (h_o_all, .inl (ca 0, 350, .inl o_all_r))]) (hS : va_S A s.heap H locs) (ls : Array Slot) (hl : lv_has ls 5 [(0, .ref h_o), (1, .int p1), (2, .int v2), (3, .int v3), (4, .int v4)]), WW H locs (F0 m 17 ls []) := by
        intro v3 n
        induction n with
        | zero => intro v2 v4 rr hf; exact (ds_it_zero hf).elim
        | succ n ih17 =>
          intro v2 v4 rr hf hG H locs hP hD hS ls hl
          refine h2 ?_
          obtain ⟨rr, hf, hG⟩ := ds_it_succ hf hG
          replace hf : fX8_cellsOf_17_b o_all_r p1 v3 v2 v4 = some rr := hf
          obtain ⟨G2, eG2⟩ : ∃ G : ((Int32 × Int32) ⊕ ((Int32 × Int32) ⊕ (Int32))) → Prop, G = ds_G (fun s' => ∃ r', ds_it (fun s => fX8_cellsOf_17_b o_all_r p1 v3 s.1 s.2) n s' = some r' ∧ G1 r') G1 := ⟨_, rfl⟩
          rw [← eG2] at hG
          have J_45 : ∀ (v4 : Int32) (s0 : Int32) (s1 : Int32) (rr : (Int32 × Int32) ⊕ ((Int32 × Int32) ⊕ (Int32))) (hf : fX8_cellsOf_45 v4 s0 s1 = some rr) (hG : G2 rr) (H : Heap) (locs : List Loc) (hP : va_P (dC, dI) vwCl [(h_o, .inr (7, [.ref h_o_plans, .ref h_o_makers, .ref h_o_halves, .int o_raised, .ref h_o_all, .ref h_o_text, .ref h_o_saved, .ref h_o_undone, .int o_undos, .int o_reached, .int o_length, .int o_begin, .int o_letters, .int o_sort, .long o_word, .int o_wrongAt, .int o_badAt, .int o_bad, .ref h_o_told, .ref h_o_shift, .int o_firstX, .int o_firstY, .int o_secondX, .int o_secondY, .ref h_o_rootOf, .ref h_o_becomes, .ref h_o_comes, .ref h_o_next, .int o_x])), (h_o_all, .inl (ca 0, 350, .inl o_all_r))] H) (hD : va_D A [(h_o, .inr (7, [.ref h_o_plans, .ref h_o_makers, .ref h_o_halves, .int o_raised, .ref h_o_all, .ref h_o_text, .ref h_o_saved, .ref h_o_undone, .int o_undos, .int o_reached, .int o_length, .int o_begin, .int o_letters, .int o_sort, .long o_word, .int o_wrongAt, .int o_badAt, .int o_bad, .ref h_o_told, .ref h_o_shift, .int o_firstX, .int o_firstY, .int o_secondX, .int o_secondY, .ref h_o_rootOf, .ref h_o_becomes, .ref h_o_comes, .ref h_o_next, .int o_x])), (h_o_all, .inl (ca 0, 350, .inl o_all_r))]) (hS : va_S A s.heap H locs) (ls : Array Slot) (hl : lv_has ls 5 [(0, .ref h_o), (1, .int p1), (3, .int v3), (4, .int v4)]), WW H locs (F0 m 45 ls [.int s0, .int s1]) := by
            intro v4 s0 s1 rr hf hG H locs hP hD hS ls hl
            refine h2 ?_
            unfold fX8_cellsOf_45 at hf
            refine lv_iadd hx hb dX8_cellsOf_45 ?_
            refine lv_istore_n (lv' := [(2, .int (s1 + s0)), (0, .ref h_o), (1, .int p1), (3, .int v3), (4, .int v4)]) hx hb dX8_cellsOf_46 rfl hl (by decide) rfl (fun ls hl => ?_)
            refine lv_iinc (v := (v4 + 1)) (lv' := [(4, .int (v4 + 1)), (2, .int (s1 + s0)), (0, .ref h_o), (1, .int p1), (3, .int v3)]) hx hb dX8_cellsOf_47 hl (k := 4) rfl rfl (by decide) rfl (fun ls hl => ?_)
            refine lv_goto (tgt := 17) hx hb dX8_cellsOf_50 (by decide) ?_
            have hf := Option.some.inj hf
            subst hf
            rw [eG2] at hG
            obtain ⟨rr, hf, hG⟩ := hG
            exact h1 (ih17 (s1 + s0) (v4 + 1) rr hf hG _ _ hP hD hS _ (lv_sub hl [2, 3, 1, 4, 0] rfl))
          unfold fX8_cellsOf_17_b at hf
          refine lv_iload hx hb dX8_cellsOf_17 (lv_at hl 4 rfl) ?_
          refine lv_aload_n hx hb dX8_cellsOf_19 rfl (lv_at hl 0 rfl) ?_
          refine va_get (D := (dC, dI)) (ci := 7) (v := .ref h_o_all) (C := RX8) (T := TX8) (N := 29) hx hb hts (fun w h => List.mem_cons_of_mem _ (kc_X8 w h)) hown hK hP 0 rfl rfl 4 (by decide) (hg kw_594) (fun _ h9 => h9) rfl dX8_cellsOf_20 ?_
          refine lv_iconst (v := 0) hx hb dX8_cellsOf_23 (by decide) ?_
          refine va_iald hx hb hK hP 1 0 rfl rfl (ds_in_ok (i := 0) (n := 350) (by decide)) dX8_cellsOf_24 ?_
          refine lv_icmp_ge (tgt := 53) hx hb dX8_cellsOf_25 (by decide) (fun c_25 => ?_) (fun c_25 => ?_)
          · replace hf := ds_t c_25 hf
            obtain ⟨rr, hr_0, hf⟩ := ds_ob hf
            have hf := Option.some.inj hf
            subst hf
            rw [eG2] at hG
            replace hG : G1 rr := hG
            have hf := hr_0
            exact h1 (J_53 v2 v3 _ hf hG _ _ hP hD hS _ (lv_sub hl [0, 1, 2, 3] rfl))
          · replace hf := ds_f c_25 hf
            refine lv_iload_n hx hb dX8_cellsOf_28 rfl (lv_at hl 2 rfl) ?_
            refine lv_aload_n hx hb dX8_cellsOf_29 rfl (lv_at hl 0 rfl) ?_
            refine lv_iload hx hb dX8_cellsOf_30 (lv_at hl 4 rfl) ?_
            refine lv_iload_n hx hb dX8_cellsOf_32 rfl (lv_at hl 3 rfl) ?_
            obtain ⟨q33, hq33, hf⟩ := ds_ob hf
            refine ds_calli (wr := []) (va_runV (As := [.int v4, .int v3]) (rest := [.int v2]) ⟨hx, hb, hml, hown, hts⟩ (c_X8_colour l dC dI ca sa h_o h_o_plans h_o_makers h_o_halves h_o_all h_o_text h_o_saved h_o_undone h_o_told h_o_shift h_o_rootOf h_o_becomes h_o_comes h_o_next H.size o_raised o_undos o_reached o_length o_begin o_letters o_sort o_word o_wrongAt o_badAt o_bad o_firstX o_firstY o_secondX o_secondY o_x o_all_r v4 v3 q33 hq33) (cwV 2 hts (ds_gV kw_651 kw_652 kw_653 kw_597 kw_654) rfl rfl rfl (by decide +kernel) ⟨Nat.le_of_ble_eq_true rfl, Nat.le_of_ble_eq_true rfl⟩) ⟨ds_blind, va_recv hK hP (ci := 7) (q0 := 0) rfl rfl, ds_at hP hD hK hE hS hA [0, 1] rfl rfl _⟩ rfl rfl hl.1 rfl (lv_room (Nat.le_of_ble_eq_true rfl)) dX8_cellsOf_33 ⟨Nat.zero_le _, Nat.zero_le _⟩) hP hD hS hA [0, 1] [] rfl rfl rfl (by decide) (fun H locs hP hD hS => ?_)
            have hP : va_P (dC, dI) vwCl [(h_o, .inr (7, [.ref h_o_plans, .ref h_o_makers, .ref h_o_halves, .int o_raised, .ref h_o_all, .ref h_o_text, .ref h_o_saved, .ref h_o_undone, .int o_undos, .int o_reached, .int o_length, .int o_begin, .int o_letters, .int o_sort, .long o_word, .int o_wrongAt, .int o_badAt, .int o_bad, .ref h_o_told, .ref h_o_shift, .int o_firstX, .int o_firstY, .int o_secondX, .int o_secondY, .ref h_o_rootOf, .ref h_o_becomes, .ref h_o_comes, .ref h_o_next, .int o_x])), (h_o_all, .inl (ca 0, 350, .inl o_all_r))] H := hP
            have hD : va_D A [(h_o, .inr (7, [.ref h_o_plans, .ref h_o_makers, .ref h_o_halves, .int o_raised, .ref h_o_all, .ref h_o_text, .ref h_o_saved, .ref h_o_undone, .int o_undos, .int o_reached, .int o_length, .int o_begin, .int o_letters, .int o_sort, .long o_word, .int o_wrongAt, .int o_badAt, .int o_bad, .ref h_o_told, .ref h_o_shift, .int o_firstX, .int o_firstY, .int o_secondX, .int o_secondY, .ref h_o_rootOf, .ref h_o_becomes, .ref h_o_comes, .ref h_o_next, .int o_x])), (h_o_all, .inl (ca 0, 350, .inl o_all_r))] := hD
            refine lv_iload_n hx hb dX8_cellsOf_36 rfl (lv_at hl 1 rfl) ?_
            refine lv_icmp_ne (tgt := 44) hx hb dX8_cellsOf_37 (by decide) (fun c_37 => ?_) (fun c_37 => ?_)
            · replace hf := ds_f c_37 hf
              refine lv_iconst (v := 0) hx hb dX8_cellsOf_44 (by decide) ?_
              exact h1 (J_45 v4 (0 : Int32) v2 _ hf hG _ _ hP hD hS _ (lv_sub hl [0, 1, 3, 4] rfl))
            · replace hf := ds_t c_37 hf
              refine lv_iconst (v := 1) hx hb dX8_cellsOf_40 (by decide) ?_
              refine lv_goto (tgt := 45) hx hb dX8_cellsOf_41 (by decide) ?_
              exact h1 (J_45 v4 (1 : Int32) v2 _ hf hG _ _ hP hD hS _ (lv_sub hl [0, 1, 3, 4] rfl))
      unfold fX8_cellsOf_4_b at hf
      refine lv_iload_n hx hb dX8_cellsOf_4 rfl (lv_at hl 3 rfl) ?_
      refine lv_aload_n hx hb dX8_cellsOf_5 rfl (lv_at hl 0 rfl) ?_
      refine va_get (D := (dC, dI)) (ci := 7) (v := .ref h_o_all) (C := RX8) (T := TX8) (N := 29) hx hb hts (fun w h => List.mem_cons_of_mem _ (kc_X8 w h)) hown hK hP 0 rfl rfl 4 (by decide) (hg kw_594) (fun _ h9 => h9) rfl dX8_cellsOf_6 ?_
      refine lv_iconst (v := 1) hx hb dX8_cellsOf_9 (by decide) ?_
      refine va_iald hx hb hK hP 1 0 rfl rfl (ds_in_ok (i := 1) (n := 350) (by decide)) dX8_cellsOf_10 ?_
      refine lv_icmp_ge (tgt := 59) hx hb dX8_cellsOf_11 (by decide) (fun c_11 => ?_) (fun c_11 => ?_)
      · replace hf := ds_t c_11 hf
        refine lv_iload_n hx hb dX8_cellsOf_59 rfl (lv_at hl 2 rfl) ?_
        have hf := Option.some.inj hf
        subst hf
        rw [eG1] at hG
        replace hG : G0 _ := hG
        rw [eG0] at hG
        have hG : _ = res := hG
        subst hG
        exact W.iret (v := v2) hx hb hr (fun t ht hW => ⟨⟨v2, (), rfl, rfl, by rw [ht]; exact hP, hD⟩, hS.F ht⟩) hS.2.2 dX8_cellsOf_60
      · replace hf := ds_f c_11 hf
        refine lv_iconst (v := 0) hx hb dX8_cellsOf_14 (by decide) ?_
        refine lv_istore (lv' := [(4, .int (0 : Int32)), (0, .ref h_o), (1, .int p1), (2, .int v2), (3, .int v3)]) hx hb dX8_cellsOf_15 hl (by decide) rfl (fun ls hl => ?_)
        exact h1 (J_17 v3 1000 v2 (0 : Int32) _ hf hG _ _ hP hD hS _ (lv_sub hl [1, 2, 3, 4, 0] rfl))
  unfold fX8_cellsOf at hf
  refine lv_iconst (v := 0) hx hb dX8_cellsOf_0 (by decide) ?_
  refine lv_istore_n (lv' := [(2, .int (0 : Int32)), (0, .ref h_o), (1, .int p1)]) hx hb dX8_cellsOf_1 rfl hl (by decide) rfl (fun ls hl => ?_)
  refine lv_iconst (v := 0) hx hb dX8_cellsOf_2 (by decide) ?_
  refine lv_istore_n (lv' := [(3, .int (0 : Int32)), (2, .int (0 : Int32)), (0, .ref h_o), (1, .int p1)]) hx hb dX8_cellsOf_3 rfl hl (by decide) rfl (fun ls hl => ?_)
  exact h1 (J_4  1000 (0 : Int32) (0 : Int32) _ hf hG _ _ hP hD hS _ (lv_sub hl [2, 3, 1, 0] rfl))
theorem dX8_ones_0 : decode cX8_ones 0 = .ok (.iconst 0, 1) := by decide +kernel
theorem dX8_ones_1 : decode cX8_ones 1 = .ok (.istore_n 1, 1) := by decide +kernel
theorem dX8_ones_2 : decode cX8_ones 2 = .ok (.iconst 0, 1) := by decide +kernel
theorem dX8_ones_3 : decode cX8_ones 3 = .ok (.istore_n 2, 1) := by decide +kernel
theorem dX8_ones_4 : decode cX8_ones 4 = .ok (.iload_n 2, 1) := by decide +kernel
theorem dX8_ones_5 : decode cX8_ones 5 = .ok (.bipush 12, 2) := by decide +kernel
theorem dX8_ones_7 : decode cX8_ones 7 = .ok (.if_icmp .ge 17, 3) := by decide +kernel
theorem dX8_ones_10 : decode cX8_ones 10 = .ok (.iload_n 1, 1) := by decide +kernel
theorem dX8_ones_11 : decode cX8_ones 11 = .ok (.iload_n 0, 1) := by decide +kernel
theorem dX8_ones_12 : decode cX8_ones 12 = .ok (.iload_n 2, 1) := by decide +kernel
theorem dX8_ones_13 : decode cX8_ones 13 = .ok (.ishr, 1) := by decide +kernel
theorem dX8_ones_14 : decode cX8_ones 14 = .ok (.iconst 1, 1) := by decide +kernel
theorem dX8_ones_15 : decode cX8_ones 15 = .ok (.iand, 1) := by decide +kernel
theorem dX8_ones_16 : decode cX8_ones 16 = .ok (.iadd, 1) := by decide +kernel
theorem dX8_ones_17 : decode cX8_ones 17 = .ok (.istore_n 1, 1) := by decide +kernel
theorem dX8_ones_18 : decode cX8_ones 18 = .ok (.iinc 2 1, 3) := by decide +kernel
theorem dX8_ones_21 : decode cX8_ones 21 = .ok (.goto (-17), 3) := by decide +kernel
theorem dX8_ones_24 : decode cX8_ones 24 = .ok (.iload_n 1, 1) := by decide +kernel
theorem dX8_ones_25 : decode cX8_ones 25 = .ok (.ireturn, 1) := by decide +kernel
def fX8_ones_4_b (p1 : Int32) (v1 : Int32) (v2 : Int32) : Option ((Int32 × Int32) ⊕ (Int32)) :=
  if (12 : Int32) ≤ v2 then some (.inr v1) else Option.bind (some ((v1 + ((p1 >>> (v2 &&& 31)) &&& (1 : Int32))))) fun x17 => some (.inl (x17, (v2 + 1)))
def fX8_ones_4 (p1 : Int32) (v1 : Int32) (v2 : Int32) : Option (Int32) := ds_it (fun s => fX8_ones_4_b p1 s.1 s.2) 1000 (v1, v2)
def fX8_ones (p1 : Int32) : Option (Int32) :=
  fX8_ones_4 p1 (0 : Int32) (0 : Int32)
set_option maxHeartbeats 4000000 in
set_option maxRecDepth 100000 in
theorem c_X8_ones (l : Launch) (dC : Nat → ClassId) (dI : Nat → Nat → Nat) (ca : Nat → ClassId) (sa : Nat → Nat) (sz : Nat) (p1 : Int32) (res : Int32) (hf : fX8_ones p1 = some res) : Met l yX8_ones (Cond.code yX8_ones cX8_ones 3 (some .int) :: ds_gw) { frames := 0, cells := 0, slots := 0, locals := 0 } (va_Pc [.int p1] (ds_Pre dC dI ca sa [] sz)) (va_Qi (fun r (_ : Unit) => r = res) (ds_B dC dI (va_A [] sz) []) (va_A [] sz)) 0 0 (va_A [] sz) := by
  refine Met.ofW (cc := cX8_ones) (maxL := 3) (ret := (some .int)) (by decide) rfl ?_
  intro p e s m args below meth c s₁ B hml hv
  obtain ⟨rfl, hsz, hP, hK, hD0, hE⟩ := hv
  have hx := B.exec
  have hb := B.bytes
  have hr := B.returns
  have hts := atoms_spec (ws := Cond.code yX8_ones cX8_ones 3 (some .int) :: ds_gw) B.pre
  have hg : ∀ {w : Cond}, w ∈ ds_gw → w.before _ s = true := fun h => hts _ (List.mem_cons_of_mem _ h)
  have hown : s.vm.findClass RX8 = some m.cls := findClass_of_methodNamed B.named
  have hlocks := B.notSynchronized
  subst hsz
  have hD := hD0.self (sz := s.heap.size)
  generalize hAe : va_A [] s.heap.size = A at hD hE ⊢
  have hA : ∀ q : Nat, s.heap.size ≤ q → A q := fun q h => by rw [← hAe]; exact Or.inr h
  have hS : va_S A s.heap s.heap [] := va_S.rf
  have hl := lv_entry ([.int p1]) (n := 3) (Nat.le_of_ble_eq_true rfl)
  rw [lg_entry_eq]
  generalize (lg_sl ([.int p1]) ++ List.replicate (3 - (lg_sl ([.int p1])).length) Slot.unset).toArray = ls at hl ⊢
  have hl : lv_has ls 3 [(0, .int p1)] := hl
  obtain ⟨G0, eG0⟩ : ∃ G : Int32 → Prop, G = (fun r => r = res) := ⟨_, rfl⟩
  obtain ⟨rr, hrr⟩ : ∃ z, z = res := ⟨_, rfl⟩
  rw [← hrr] at hf
  have hG : G0 rr := by subst eG0; exact hrr
  refine ds_cap (fun WW h1 h2 => ?_)
  have J_4 : ∀ (n : Nat) (v1 : Int32) (v2 : Int32) (rr : Int32) (hf : ds_it (fun s => fX8_ones_4_b p1 s.1 s.2) n (v1, v2) = some rr) (hG : G0 rr) (H : Heap) (locs : List Loc) (hP : va_P (dC, dI) vwCl [] H) (hD : va_D A []) (hS : va_S A s.heap H locs) (ls : Array Slot) (hl : lv_has ls 3 [(0, .int p1), (1, .int v1), (2, .int v2)]), WW H locs (F0 m 4 ls []) := by
    intro  n
    induction n with
    | zero => intro v1 v2 rr hf; exact (ds_it_zero hf).elim
    | succ n ih4 =>
      intro v1 v2 rr hf hG H locs hP hD hS ls hl
      refine h2 ?_
      obtain ⟨rr, hf, hG⟩ := ds_it_succ hf hG
      replace hf : fX8_ones_4_b p1 v1 v2 = some rr := hf
      obtain ⟨G1, eG1⟩ : ∃ G : ((Int32 × Int32) ⊕ (Int32)) → Prop, G = ds_G (fun s' => ∃ r', ds_it (fun s => fX8_ones_4_b p1 s.1 s.2) n s' = some r' ∧ G0 r') G0 := ⟨_, rfl⟩
      rw [← eG1] at hG
      unfold fX8_ones_4_b at hf
      refine lv_iload_n hx hb dX8_ones_4 rfl (lv_at hl 2 rfl) ?_
      refine lv_bipush (v := 12) hx hb dX8_ones_5 (by decide) ?_
      refine lv_icmp_ge (tgt := 24) hx hb dX8_ones_7 (by decide) (fun c_7 => ?_) (fun c_7 => ?_)
      · replace hf := ds_t c_7 hf
        refine lv_iload_n hx hb dX8_ones_24 rfl (lv_at hl 1 rfl) ?_
        have hf := Option.some.inj hf
        subst hf
        rw [eG1] at hG
        replace hG : G0 _ := hG
        rw [eG0] at hG
        have hG : _ = res := hG
        subst hG
        exact W.iret (v := v1) hx hb hr (fun t ht hW => ⟨⟨v1, (), rfl, rfl, by rw [ht]; exact hP, hD⟩, hS.F ht⟩) hS.2.2 dX8_ones_25
      · replace hf := ds_f c_7 hf
        refine lv_iload_n hx hb dX8_ones_10 rfl (lv_at hl 1 rfl) ?_
        refine lv_iload_n hx hb dX8_ones_11 rfl (lv_at hl 0 rfl) ?_
        refine lv_iload_n hx hb dX8_ones_12 rfl (lv_at hl 2 rfl) ?_
        refine lv_ishr hx hb dX8_ones_13 ?_
        refine lv_iconst (v := 1) hx hb dX8_ones_14 (by decide) ?_
        refine lv_iand hx hb dX8_ones_15 ?_
        refine lv_iadd hx hb dX8_ones_16 ?_
        obtain ⟨x17, hx_17, hf⟩ := ds_ob hf
        refine ds_nmi hx_17 ?_
        refine lv_istore_n (lv' := [(1, .int x17), (0, .int p1), (2, .int v2)]) hx hb dX8_ones_17 rfl hl (by decide) rfl (fun ls hl => ?_)
        refine lv_iinc (v := (v2 + 1)) (lv' := [(2, .int (v2 + 1)), (1, .int x17), (0, .int p1)]) hx hb dX8_ones_18 hl (k := 2) rfl rfl (by decide) rfl (fun ls hl => ?_)
        refine lv_goto (tgt := 4) hx hb dX8_ones_21 (by decide) ?_
        have hf := Option.some.inj hf
        subst hf
        rw [eG1] at hG
        obtain ⟨rr, hf, hG⟩ := hG
        exact h1 (ih4 x17 (v2 + 1) rr hf hG _ _ hP hD hS _ (lv_sub hl [2, 1, 0] rfl))
  unfold fX8_ones at hf
  refine lv_iconst (v := 0) hx hb dX8_ones_0 (by decide) ?_
  refine lv_istore_n (lv' := [(1, .int (0 : Int32)), (0, .int p1)]) hx hb dX8_ones_1 rfl hl (by decide) rfl (fun ls hl => ?_)
  refine lv_iconst (v := 0) hx hb dX8_ones_2 (by decide) ?_
  refine lv_istore_n (lv' := [(2, .int (0 : Int32)), (1, .int (0 : Int32)), (0, .int p1)]) hx hb dX8_ones_3 rfl hl (by decide) rfl (fun ls hl => ?_)
  exact h1 (J_4  1000 (0 : Int32) (0 : Int32) _ hf hG _ _ hP hD hS _ (lv_sub hl [2, 1, 0] rfl))
theorem dX8_turnBits_0 : decode cX8_turnBits 0 = .ok (.iconst 0, 1) := by decide +kernel
theorem dX8_turnBits_1 : decode cX8_turnBits 1 = .ok (.istore_n 1, 1) := by decide +kernel
theorem dX8_turnBits_2 : decode cX8_turnBits 2 = .ok (.iconst 0, 1) := by decide +kernel
theorem dX8_turnBits_3 : decode cX8_turnBits 3 = .ok (.istore_n 2, 1) := by decide +kernel
theorem dX8_turnBits_4 : decode cX8_turnBits 4 = .ok (.iload_n 2, 1) := by decide +kernel
theorem dX8_turnBits_5 : decode cX8_turnBits 5 = .ok (.aload_n 0, 1) := by decide +kernel
theorem dX8_turnBits_6 : decode cX8_turnBits 6 = .ok (.invokevirtual 62, 3) := by decide +kernel
theorem dX8_turnBits_9 : decode cX8_turnBits 9 = .ok (.if_icmp .ge 27, 3) := by decide +kernel
theorem dX8_turnBits_12 : decode cX8_turnBits 12 = .ok (.iload_n 1, 1) := by decide +kernel
theorem dX8_turnBits_13 : decode cX8_turnBits 13 = .ok (.aload_n 0, 1) := by decide +kernel
theorem dX8_turnBits_14 : decode cX8_turnBits 14 = .ok (.iload_n 2, 1) := by decide +kernel
theorem dX8_turnBits_15 : decode cX8_turnBits 15 = .ok (.invokevirtual 167, 3) := by decide +kernel
theorem dX8_turnBits_18 : decode cX8_turnBits 18 = .ok (.ifCond .le 9, 3) := by decide +kernel
theorem dX8_turnBits_21 : decode cX8_turnBits 21 = .ok (.iconst 1, 1) := by decide +kernel
theorem dX8_turnBits_22 : decode cX8_turnBits 22 = .ok (.iload_n 2, 1) := by decide +kernel
theorem dX8_turnBits_23 : decode cX8_turnBits 23 = .ok (.ishl, 1) := by decide +kernel
theorem dX8_turnBits_24 : decode cX8_turnBits 24 = .ok (.goto 4, 3) := by decide +kernel
theorem dX8_turnBits_27 : decode cX8_turnBits 27 = .ok (.iconst 0, 1) := by decide +kernel
theorem dX8_turnBits_28 : decode cX8_turnBits 28 = .ok (.ior, 1) := by decide +kernel
theorem dX8_turnBits_29 : decode cX8_turnBits 29 = .ok (.istore_n 1, 1) := by decide +kernel
theorem dX8_turnBits_30 : decode cX8_turnBits 30 = .ok (.iinc 2 1, 3) := by decide +kernel
theorem dX8_turnBits_33 : decode cX8_turnBits 33 = .ok (.goto (-29), 3) := by decide +kernel
theorem dX8_turnBits_36 : decode cX8_turnBits 36 = .ok (.iload_n 1, 1) := by decide +kernel
theorem dX8_turnBits_37 : decode cX8_turnBits 37 = .ok (.ireturn, 1) := by decide +kernel
def fX8_turnBits_28 (v2 : Int32) (s0 : Int32) (s1 : Int32) : Option ((Int32 × Int32) ⊕ (Int32)) :=
  some (.inl ((s1 ||| s0), (v2 + 1)))
def fX8_turnBits_4_b (o_all_r : Nat → Int32) (o_shift_r : Nat → Int32) (v1 : Int32) (v2 : Int32) : Option ((Int32 × Int32) ⊕ (Int32)) :=
  Option.bind (fX8_turnings o_all_r) fun q6 => if q6 ≤ v2 then some (.inr v1) else Option.bind (fX8_shiftsOf o_all_r o_shift_r v2) fun q15 => if q15 ≤ 0 then fX8_turnBits_28 v2 (0 : Int32) v1 else fX8_turnBits_28 v2 ((1 : Int32) <<< (v2 &&& 31)) v1
def fX8_turnBits_4 (o_all_r : Nat → Int32) (o_shift_r : Nat → Int32) (v1 : Int32) (v2 : Int32) : Option (Int32) := ds_it (fun s => fX8_turnBits_4_b o_all_r o_shift_r s.1 s.2) 1000 (v1, v2)
def fX8_turnBits (o_all_r : Nat → Int32) (o_shift_r : Nat → Int32) : Option (Int32) :=
  fX8_turnBits_4 o_all_r o_shift_r (0 : Int32) (0 : Int32)
set_option maxHeartbeats 4000000 in
set_option maxRecDepth 100000 in
theorem c_X8_turnBits (l : Launch) (dC : Nat → ClassId) (dI : Nat → Nat → Nat) (ca : Nat → ClassId) (sa : Nat → Nat) (h_o : Nat) (h_o_plans : Nat) (h_o_makers : Nat) (h_o_halves : Nat) (h_o_all : Nat) (h_o_text : Nat) (h_o_saved : Nat) (h_o_undone : Nat) (h_o_told : Nat) (h_o_shift : Nat) (h_o_rootOf : Nat) (h_o_becomes : Nat) (h_o_comes : Nat) (h_o_next : Nat) (sz : Nat) (o_raised : Int32) (o_undos : Int32) (o_reached : Int32) (o_length : Int32) (o_begin : Int32) (o_letters : Int32) (o_sort : Int32) (o_word : Int64) (o_wrongAt : Int32) (o_badAt : Int32) (o_bad : Int32) (o_firstX : Int32) (o_firstY : Int32) (o_secondX : Int32) (o_secondY : Int32) (o_x : Int32) (o_all_r : Nat → Int32) (o_shift_r : Nat → Int32) (res : Int32) (hf : fX8_turnBits o_all_r o_shift_r = some res) : Met l yX8_turnBits (Cond.code yX8_turnBits cX8_turnBits 3 (some .int) :: ds_gw) { frames := 1, cells := 0, slots := 0, locals := 24 } (va_Pc [.ref h_o] (ds_Pre dC dI ca sa [(h_o, .inr (7, [.ref h_o_plans, .ref h_o_makers, .ref h_o_halves, .int o_raised, .ref h_o_all, .ref h_o_text, .ref h_o_saved, .ref h_o_undone, .int o_undos, .int o_reached, .int o_length, .int o_begin, .int o_letters, .int o_sort, .long o_word, .int o_wrongAt, .int o_badAt, .int o_bad, .ref h_o_told, .ref h_o_shift, .int o_firstX, .int o_firstY, .int o_secondX, .int o_secondY, .ref h_o_rootOf, .ref h_o_becomes, .ref h_o_comes, .ref h_o_next, .int o_x])), (h_o_all, .inl (ca 0, 350, .inl o_all_r)), (h_o_shift, .inl (ca 3, 768, .inl o_shift_r))] sz)) (va_Qi (fun r (_ : Unit) => r = res) (ds_B dC dI (va_A [(h_o, .inr (7, [.ref h_o_plans, .ref h_o_makers, .ref h_o_halves, .int o_raised, .ref h_o_all, .ref h_o_text, .ref h_o_saved, .ref h_o_undone, .int o_undos, .int o_reached, .int o_length, .int o_begin, .int o_letters, .int o_sort, .long o_word, .int o_wrongAt, .int o_badAt, .int o_bad, .ref h_o_told, .ref h_o_shift, .int o_firstX, .int o_firstY, .int o_secondX, .int o_secondY, .ref h_o_rootOf, .ref h_o_becomes, .ref h_o_comes, .ref h_o_next, .int o_x])), (h_o_all, .inl (ca 0, 350, .inl o_all_r)), (h_o_shift, .inl (ca 3, 768, .inl o_shift_r))] sz) [(h_o, .inr (7, [.ref h_o_plans, .ref h_o_makers, .ref h_o_halves, .int o_raised, .ref h_o_all, .ref h_o_text, .ref h_o_saved, .ref h_o_undone, .int o_undos, .int o_reached, .int o_length, .int o_begin, .int o_letters, .int o_sort, .long o_word, .int o_wrongAt, .int o_badAt, .int o_bad, .ref h_o_told, .ref h_o_shift, .int o_firstX, .int o_firstY, .int o_secondX, .int o_secondY, .ref h_o_rootOf, .ref h_o_becomes, .ref h_o_comes, .ref h_o_next, .int o_x])), (h_o_all, .inl (ca 0, 350, .inl o_all_r)), (h_o_shift, .inl (ca 3, 768, .inl o_shift_r))]) (va_A [(h_o, .inr (7, [.ref h_o_plans, .ref h_o_makers, .ref h_o_halves, .int o_raised, .ref h_o_all, .ref h_o_text, .ref h_o_saved, .ref h_o_undone, .int o_undos, .int o_reached, .int o_length, .int o_begin, .int o_letters, .int o_sort, .long o_word, .int o_wrongAt, .int o_badAt, .int o_bad, .ref h_o_told, .ref h_o_shift, .int o_firstX, .int o_firstY, .int o_secondX, .int o_secondY, .ref h_o_rootOf, .ref h_o_becomes, .ref h_o_comes, .ref h_o_next, .int o_x])), (h_o_all, .inl (ca 0, 350, .inl o_all_r)), (h_o_shift, .inl (ca 3, 768, .inl o_shift_r))] sz)) 0 0 (va_A [(h_o, .inr (7, [.ref h_o_plans, .ref h_o_makers, .ref h_o_halves, .int o_raised, .ref h_o_all, .ref h_o_text, .ref h_o_saved, .ref h_o_undone, .int o_undos, .int o_reached, .int o_length, .int o_begin, .int o_letters, .int o_sort, .long o_word, .int o_wrongAt, .int o_badAt, .int o_bad, .ref h_o_told, .ref h_o_shift, .int o_firstX, .int o_firstY, .int o_secondX, .int o_secondY, .ref h_o_rootOf, .ref h_o_becomes, .ref h_o_comes, .ref h_o_next, .int o_x])), (h_o_all, .inl (ca 0, 350, .inl o_all_r)), (h_o_shift, .inl (ca 3, 768, .inl o_shift_r))] sz) := by
  refine Met.ofW (cc := cX8_turnBits) (maxL := 3) (ret := (some .int)) (by decide) rfl ?_
  intro p e s m args below meth c s₁ B hml hv
  obtain ⟨rfl, hsz, hP, hK, hD0, hE⟩ := hv
  have hx := B.exec
  have hb := B.bytes
  have hr := B.returns
  have hts := atoms_spec (ws := Cond.code yX8_turnBits cX8_turnBits 3 (some .int) :: ds_gw) B.pre
  have hg : ∀ {w : Cond}, w ∈ ds_gw → w.before _ s = true := fun h => hts _ (List.mem_cons_of_mem _ h)
  have hown : s.vm.findClass RX8 = some m.cls := findClass_of_methodNamed B.named
  have hlocks := B.notSynchronized
  subst hsz
  have hD := hD0.self (sz := s.heap.size)
  generalize hAe : va_A [(h_o, .inr (7, [.ref h_o_plans, .ref h_o_makers, .ref h_o_halves, .int o_raised, .ref h_o_all, .ref h_o_text, .ref h_o_saved, .ref h_o_undone, .int o_undos, .int o_reached, .int o_length, .int o_begin, .int o_letters, .int o_sort, .long o_word, .int o_wrongAt, .int o_badAt, .int o_bad, .ref h_o_told, .ref h_o_shift, .int o_firstX, .int o_firstY, .int o_secondX, .int o_secondY, .ref h_o_rootOf, .ref h_o_becomes, .ref h_o_comes, .ref h_o_next, .int o_x])), (h_o_all, .inl (ca 0, 350, .inl o_all_r)), (h_o_shift, .inl (ca 3, 768, .inl o_shift_r))] s.heap.size = A at hD hE ⊢
  have hA : ∀ q : Nat, s.heap.size ≤ q → A q := fun q h => by rw [← hAe]; exact Or.inr h
  have hS : va_S A s.heap s.heap [] := va_S.rf
  have hl := lv_entry ([.ref h_o]) (n := 3) (Nat.le_of_ble_eq_true rfl)
  rw [lg_entry_eq]
  generalize (lg_sl ([.ref h_o]) ++ List.replicate (3 - (lg_sl ([.ref h_o])).length) Slot.unset).toArray = ls at hl ⊢
  have hl : lv_has ls 3 [(0, .ref h_o)] := hl
  obtain ⟨G0, eG0⟩ : ∃ G : Int32 → Prop, G = (fun r => r = res) := ⟨_, rfl⟩
  obtain ⟨rr, hrr⟩ : ∃ z, z = res := ⟨_, rfl⟩
  rw [← hrr] at hf
  have hG : G0 rr := by subst eG0; exact hrr
  refine ds_cap (fun WW h1 h2 => ?_)
  have J_4 : ∀ (n : Nat) (v1 : Int32) (v2 : Int32) (rr : Int32) (hf : ds_it (fun s => fX8_turnBits_4_b o_all_r o_shift_r s.1 s.2) n (v1, v2) = some rr) (hG : G0 rr) (H : Heap) (locs : List Loc) (hP : va_P (dC, dI) vwCl [(h_o, .inr (7, [.ref h_o_plans, .ref h_o_makers, .ref h_o_halves, .int o_raised, .ref h_o_all, .ref h_o_text, .ref h_o_saved, .ref h_o_undone, .int o_undos, .int o_reached, .int o_length, .int o_begin, .int o_letters, .int o_sort, .long o_word, .int o_wrongAt, .int o_badAt, .int o_bad, .ref h_o_told, .ref h_o_shift, .int o_firstX, .int o_firstY, .int o_secondX, .int o_secondY, .ref h_o_rootOf, .ref h_o_becomes, .ref h_o_comes, .ref h_o_next, .int o_x])), (h_o_all, .inl (ca 0, 350, .inl o_all_r)), (h_o_shift, .inl (ca 3, 768, .inl o_shift_r))] H) (hD : va_D A [(h_o, .inr (7, [.ref h_o_plans, .ref h_o_makers, .ref h_o_halves, .int o_raised, .ref h_o_all, .ref h_o_text, .ref h_o_saved, .ref h_o_undone, .int o_undos, .int o_reached, .int o_length, .int o_begin, .int o_letters, .int o_sort, .long o_word, .int o_wrongAt, .int o_badAt, .int o_bad, .ref h_o_told, .ref h_o_shift, .int o_firstX, .int o_firstY, .int o_secondX, .int o_secondY, .ref h_o_rootOf, .ref h_o_becomes, .ref h_o_comes, .ref h_o_next, .int o_x])), (h_o_all, .inl (ca 0, 350, .inl o_all_r)), (h_o_shift, .inl (ca 3, 768, .inl o_shift_r))]) (hS : va_S A s.heap H locs) (ls : Array Slot) (hl : lv_has ls 3 [(0, .ref h_o), (1, .int v1), (2, .int v2)]), WW H locs (F0 m 4 ls []) := by
    intro  n
    induction n with
    | zero => intro v1 v2 rr hf; exact (ds_it_zero hf).elim
    | succ n ih4 =>
      intro v1 v2 rr hf hG H locs hP hD hS ls hl
      refine h2 ?_
      obtain ⟨rr, hf, hG⟩ := ds_it_succ hf hG
      replace hf : fX8_turnBits_4_b o_all_r o_shift_r v1 v2 = some rr := hf
      obtain ⟨G1, eG1⟩ : ∃ G : ((Int32 × Int32) ⊕ (Int32)) → Prop, G = ds_G (fun s' => ∃ r', ds_it (fun s => fX8_turnBits_4_b o_all_r o_shift_r s.1 s.2) n s' = some r' ∧ G0 r') G0 := ⟨_, rfl⟩
      rw [← eG1] at hG
      have J_28 : ∀ (v2 : Int32) (s0 : Int32) (s1 : Int32) (rr : (Int32 × Int32) ⊕ (Int32)) (hf : fX8_turnBits_28 v2 s0 s1 = some rr) (hG : G1 rr) (H : Heap) (locs : List Loc) (hP : va_P (dC, dI) vwCl [(h_o, .inr (7, [.ref h_o_plans, .ref h_o_makers, .ref h_o_halves, .int o_raised, .ref h_o_all, .ref h_o_text, .ref h_o_saved, .ref h_o_undone, .int o_undos, .int o_reached, .int o_length, .int o_begin, .int o_letters, .int o_sort, .long o_word, .int o_wrongAt, .int o_badAt, .int o_bad, .ref h_o_told, .ref h_o_shift, .int o_firstX, .int o_firstY, .int o_secondX, .int o_secondY, .ref h_o_rootOf, .ref h_o_becomes, .ref h_o_comes, .ref h_o_next, .int o_x])), (h_o_all, .inl (ca 0, 350, .inl o_all_r)), (h_o_shift, .inl (ca 3, 768, .inl o_shift_r))] H) (hD : va_D A [(h_o, .inr (7, [.ref h_o_plans, .ref h_o_makers, .ref h_o_halves, .int o_raised, .ref h_o_all, .ref h_o_text, .ref h_o_saved, .ref h_o_undone, .int o_undos, .int o_reached, .int o_length, .int o_begin, .int o_letters, .int o_sort, .long o_word, .int o_wrongAt, .int o_badAt, .int o_bad, .ref h_o_told, .ref h_o_shift, .int o_firstX, .int o_firstY, .int o_secondX, .int o_secondY, .ref h_o_rootOf, .ref h_o_becomes, .ref h_o_comes, .ref h_o_next, .int o_x])), (h_o_all, .inl (ca 0, 350, .inl o_all_r)), (h_o_shift, .inl (ca 3, 768, .inl o_shift_r))]) (hS : va_S A s.heap H locs) (ls : Array Slot) (hl : lv_has ls 3 [(0, .ref h_o), (2, .int v2)]), WW H locs (F0 m 28 ls [.int s0, .int s1]) := by
        intro v2 s0 s1 rr hf hG H locs hP hD hS ls hl
        refine h2 ?_
        unfold fX8_turnBits_28 at hf
        refine lv_ior hx hb dX8_turnBits_28 ?_
        refine lv_istore_n (lv' := [(1, .int (s1 ||| s0)), (0, .ref h_o), (2, .int v2)]) hx hb dX8_turnBits_29 rfl hl (by decide) rfl (fun ls hl => ?_)
        refine lv_iinc (v := (v2 + 1)) (lv' := [(2, .int (v2 + 1)), (1, .int (s1 ||| s0)), (0, .ref h_o)]) hx hb dX8_turnBits_30 hl (k := 2) rfl rfl (by decide) rfl (fun ls hl => ?_)
        refine lv_goto (tgt := 4) hx hb dX8_turnBits_33 (by decide) ?_
        have hf := Option.some.inj hf
        subst hf
        rw [eG1] at hG
        obtain ⟨rr, hf, hG⟩ := hG
        exact h1 (ih4 (s1 ||| s0) (v2 + 1) rr hf hG _ _ hP hD hS _ (lv_sub hl [2, 1, 0] rfl))
      unfold fX8_turnBits_4_b at hf
      refine lv_iload_n hx hb dX8_turnBits_4 rfl (lv_at hl 2 rfl) ?_
      refine lv_aload_n hx hb dX8_turnBits_5 rfl (lv_at hl 0 rfl) ?_
      obtain ⟨q6, hq6, hf⟩ := ds_ob hf
      refine ds_calli (wr := [(h_o_shift, .inl (ca 3, 768, .inl o_shift_r))]) (va_runV (As := []) (rest := [.int v2]) ⟨hx, hb, hml, hown, hts⟩ (c_X8_turnings l dC dI ca sa h_o h_o_plans h_o_makers h_o_halves h_o_all h_o_text h_o_saved h_o_undone h_o_told h_o_shift h_o_rootOf h_o_becomes h_o_comes h_o_next H.size o_raised o_undos o_reached o_length o_begin o_letters o_sort o_word o_wrongAt o_badAt o_bad o_firstX o_firstY o_secondX o_secondY o_x o_all_r  q6 hq6) (cwV 0 hts (ds_gV kw_604 kw_605 kw_606 kw_597 kw_607) rfl rfl rfl (by decide +kernel) ⟨Nat.le_of_ble_eq_true rfl, Nat.le_of_ble_eq_true rfl⟩) ⟨ds_blind, va_recv hK hP (ci := 7) (q0 := 0) rfl rfl, ds_at hP hD hK hE hS hA [0, 1] rfl rfl _⟩ rfl rfl hl.1 rfl (lv_room (Nat.le_of_ble_eq_true rfl)) dX8_turnBits_6 ⟨Nat.zero_le _, Nat.zero_le _⟩) hP hD hS hA [0, 1] [2] rfl rfl rfl (by decide) (fun H locs hP hD hS => ?_)
      have hP : va_P (dC, dI) vwCl [(h_o_shift, .inl (ca 3, 768, .inl o_shift_r)), (h_o, .inr (7, [.ref h_o_plans, .ref h_o_makers, .ref h_o_halves, .int o_raised, .ref h_o_all, .ref h_o_text, .ref h_o_saved, .ref h_o_undone, .int o_undos, .int o_reached, .int o_length, .int o_begin, .int o_letters, .int o_sort, .long o_word, .int o_wrongAt, .int o_badAt, .int o_bad, .ref h_o_told, .ref h_o_shift, .int o_firstX, .int o_firstY, .int o_secondX, .int o_secondY, .ref h_o_rootOf, .ref h_o_becomes, .ref h_o_comes, .ref h_o_next, .int o_x])), (h_o_all, .inl (ca 0, 350, .inl o_all_r))] H := hP
      have hD : va_D A [(h_o_shift, .inl (ca 3, 768, .inl o_shift_r)), (h_o, .inr (7, [.ref h_o_plans, .ref h_o_makers, .ref h_o_halves, .int o_raised, .ref h_o_all, .ref h_o_text, .ref h_o_saved, .ref h_o_undone, .int o_undos, .int o_reached, .int o_length, .int o_begin, .int o_letters, .int o_sort, .long o_word, .int o_wrongAt, .int o_badAt, .int o_bad, .ref h_o_told, .ref h_o_shift, .int o_firstX, .int o_firstY, .int o_secondX, .int o_secondY, .ref h_o_rootOf, .ref h_o_becomes, .ref h_o_comes, .ref h_o_next, .int o_x])), (h_o_all, .inl (ca 0, 350, .inl o_all_r))] := hD
      refine lv_icmp_ge (tgt := 36) hx hb dX8_turnBits_9 (by decide) (fun c_9 => ?_) (fun c_9 => ?_)
      · replace hf := ds_t c_9 hf
        refine lv_iload_n hx hb dX8_turnBits_36 rfl (lv_at hl 1 rfl) ?_
        have hf := Option.some.inj hf
        subst hf
        rw [eG1] at hG
        replace hG : G0 _ := hG
        rw [eG0] at hG
        have hG : _ = res := hG
        subst hG
        exact W.iret (v := v1) hx hb hr (fun t ht hW => ⟨⟨v1, (), rfl, rfl, by rw [ht]; exact (hP.sub [1, 2, 0] rfl), (hD.sub [1, 2, 0] rfl rfl)⟩, hS.F ht⟩) hS.2.2 dX8_turnBits_37
      · replace hf := ds_f c_9 hf
        refine lv_iload_n hx hb dX8_turnBits_12 rfl (lv_at hl 1 rfl) ?_
        refine lv_aload_n hx hb dX8_turnBits_13 rfl (lv_at hl 0 rfl) ?_
        refine lv_iload_n hx hb dX8_turnBits_14 rfl (lv_at hl 2 rfl) ?_
        obtain ⟨q15, hq15, hf⟩ := ds_ob hf
        refine ds_calli (wr := []) (va_runV (As := [.int v2]) (rest := [.int v1]) ⟨hx, hb, hml, hown, hts⟩ (c_X8_shiftsOf l dC dI ca sa h_o h_o_plans h_o_makers h_o_halves h_o_all h_o_text h_o_saved h_o_undone h_o_told h_o_shift h_o_rootOf h_o_becomes h_o_comes h_o_next H.size o_raised o_undos o_reached o_length o_begin o_letters o_sort o_word o_wrongAt o_badAt o_bad o_firstX o_firstY o_secondX o_secondY o_x o_all_r o_shift_r v2 q15 hq15) (cwV 1 hts (ds_gV kw_687 kw_688 kw_689 kw_597 kw_690) rfl rfl rfl (by decide +kernel) ⟨Nat.le_of_ble_eq_true rfl, Nat.le_of_ble_eq_true rfl⟩) ⟨ds_blind, va_recv hK hP (ci := 7) (q0 := 1) rfl rfl, ds_at hP hD hK hE hS hA [1, 2, 0] rfl rfl _⟩ rfl rfl hl.1 rfl (lv_room (Nat.le_of_ble_eq_true rfl)) dX8_turnBits_15 ⟨Nat.zero_le _, Nat.zero_le _⟩) hP hD hS hA [1, 2, 0] [] rfl rfl rfl (by decide) (fun H locs hP hD hS => ?_)
        have hP : va_P (dC, dI) vwCl [(h_o, .inr (7, [.ref h_o_plans, .ref h_o_makers, .ref h_o_halves, .int o_raised, .ref h_o_all, .ref h_o_text, .ref h_o_saved, .ref h_o_undone, .int o_undos, .int o_reached, .int o_length, .int o_begin, .int o_letters, .int o_sort, .long o_word, .int o_wrongAt, .int o_badAt, .int o_bad, .ref h_o_told, .ref h_o_shift, .int o_firstX, .int o_firstY, .int o_secondX, .int o_secondY, .ref h_o_rootOf, .ref h_o_becomes, .ref h_o_comes, .ref h_o_next, .int o_x])), (h_o_all, .inl (ca 0, 350, .inl o_all_r)), (h_o_shift, .inl (ca 3, 768, .inl o_shift_r))] H := hP
        have hD : va_D A [(h_o, .inr (7, [.ref h_o_plans, .ref h_o_makers, .ref h_o_halves, .int o_raised, .ref h_o_all, .ref h_o_text, .ref h_o_saved, .ref h_o_undone, .int o_undos, .int o_reached, .int o_length, .int o_begin, .int o_letters, .int o_sort, .long o_word, .int o_wrongAt, .int o_badAt, .int o_bad, .ref h_o_told, .ref h_o_shift, .int o_firstX, .int o_firstY, .int o_secondX, .int o_secondY, .ref h_o_rootOf, .ref h_o_becomes, .ref h_o_comes, .ref h_o_next, .int o_x])), (h_o_all, .inl (ca 0, 350, .inl o_all_r)), (h_o_shift, .inl (ca 3, 768, .inl o_shift_r))] := hD
        refine lv_if_le (tgt := 27) hx hb dX8_turnBits_18 (by decide) (fun c_18 => ?_) (fun c_18 => ?_)
        · replace hf := ds_t c_18 hf
          refine lv_iconst (v := 0) hx hb dX8_turnBits_27 (by decide) ?_
          exact h1 (J_28 v2 (0 : Int32) v1 _ hf hG _ _ hP hD hS _ (lv_sub hl [0, 2] rfl))
        · replace hf := ds_f c_18 hf
          refine lv_iconst (v := 1) hx hb dX8_turnBits_21 (by decide) ?_
          refine lv_iload_n hx hb dX8_turnBits_22 rfl (lv_at hl 2 rfl) ?_
          refine lv_ishl hx hb dX8_turnBits_23 ?_
          refine lv_goto (tgt := 28) hx hb dX8_turnBits_24 (by decide) ?_
          exact h1 (J_28 v2 ((1 : Int32) <<< (v2 &&& 31)) v1 _ hf hG _ _ hP hD hS _ (lv_sub hl [0, 2] rfl))
  unfold fX8_turnBits at hf
  refine lv_iconst (v := 0) hx hb dX8_turnBits_0 (by decide) ?_
  refine lv_istore_n (lv' := [(1, .int (0 : Int32)), (0, .ref h_o)]) hx hb dX8_turnBits_1 rfl hl (by decide) rfl (fun ls hl => ?_)
  refine lv_iconst (v := 0) hx hb dX8_turnBits_2 (by decide) ?_
  refine lv_istore_n (lv' := [(2, .int (0 : Int32)), (1, .int (0 : Int32)), (0, .ref h_o)]) hx hb dX8_turnBits_3 rfl hl (by decide) rfl (fun ls hl => ?_)
  exact h1 (J_4  1000 (0 : Int32) (0 : Int32) _ hf hG _ _ hP hD hS _ (lv_sub hl [2, 1, 0] rfl))
theorem dX8_count_0 : decode cX8_count 0 = .ok (.aload_n 0, 1) := by decide +kernel
theorem dX8_count_1 : decode cX8_count 1 = .ok (.iconst 0, 1) := by decide +kernel
theorem dX8_count_2 : decode cX8_count 2 = .ok (.putfield 51, 3) := by decide +kernel
theorem dX8_count_5 : decode cX8_count 5 = .ok (.aload_n 0, 1) := by decide +kernel
theorem dX8_count_6 : decode cX8_count 6 = .ok (.invokevirtual 227, 3) := by decide +kernel
theorem dX8_count_9 : decode cX8_count 9 = .ok (.iload_n 1, 1) := by decide +kernel
theorem dX8_count_10 : decode cX8_count 10 = .ok (.tableswitch 157 0 14 #[74, 74, 74, 81, 87, 107, 112, 117, 117, 117, 126, 131, 139, 144, 152], 74) := by decide +kernel
theorem dX8_count_84 : decode cX8_count 84 = .ok (.aload_n 0, 1) := by decide +kernel
theorem dX8_count_85 : decode cX8_count 85 = .ok (.getfield 19, 3) := by decide +kernel
theorem dX8_count_88 : decode cX8_count 88 = .ok (.iload_n 1, 1) := by decide +kernel
theorem dX8_count_89 : decode cX8_count 89 = .ok (.iaload, 1) := by decide +kernel
theorem dX8_count_90 : decode cX8_count 90 = .ok (.ireturn, 1) := by decide +kernel
theorem dX8_count_91 : decode cX8_count 91 = .ok (.aload_n 0, 1) := by decide +kernel
theorem dX8_count_92 : decode cX8_count 92 = .ok (.iconst 0, 1) := by decide +kernel
theorem dX8_count_93 : decode cX8_count 93 = .ok (.invokevirtual 167, 3) := by decide +kernel
theorem dX8_count_96 : decode cX8_count 96 = .ok (.ireturn, 1) := by decide +kernel
theorem dX8_count_97 : decode cX8_count 97 = .ok (.aload_n 0, 1) := by decide +kernel
theorem dX8_count_98 : decode cX8_count 98 = .ok (.getfield 19, 3) := by decide +kernel
theorem dX8_count_101 : decode cX8_count 101 = .ok (.iconst 0, 1) := by decide +kernel
theorem dX8_count_102 : decode cX8_count 102 = .ok (.iaload, 1) := by decide +kernel
theorem dX8_count_103 : decode cX8_count 103 = .ok (.aload_n 0, 1) := by decide +kernel
theorem dX8_count_104 : decode cX8_count 104 = .ok (.getfield 19, 3) := by decide +kernel
theorem dX8_count_107 : decode cX8_count 107 = .ok (.iconst 1, 1) := by decide +kernel
theorem dX8_count_108 : decode cX8_count 108 = .ok (.iaload, 1) := by decide +kernel
theorem dX8_count_109 : decode cX8_count 109 = .ok (.imul, 1) := by decide +kernel
theorem dX8_count_110 : decode cX8_count 110 = .ok (.aload_n 0, 1) := by decide +kernel
theorem dX8_count_111 : decode cX8_count 111 = .ok (.iconst 0, 1) := by decide +kernel
theorem dX8_count_112 : decode cX8_count 112 = .ok (.invokevirtual 167, 3) := by decide +kernel
theorem dX8_count_115 : decode cX8_count 115 = .ok (.idiv, 1) := by decide +kernel
theorem dX8_count_116 : decode cX8_count 116 = .ok (.ireturn, 1) := by decide +kernel
theorem dX8_count_117 : decode cX8_count 117 = .ok (.aload_n 0, 1) := by decide +kernel
theorem dX8_count_118 : decode cX8_count 118 = .ok (.invokevirtual 195, 3) := by decide +kernel
theorem dX8_count_121 : decode cX8_count 121 = .ok (.ireturn, 1) := by decide +kernel
theorem dX8_count_122 : decode cX8_count 122 = .ok (.aload_n 0, 1) := by decide +kernel
theorem dX8_count_123 : decode cX8_count 123 = .ok (.invokevirtual 230, 3) := by decide +kernel
theorem dX8_count_126 : decode cX8_count 126 = .ok (.ireturn, 1) := by decide +kernel
theorem dX8_count_127 : decode cX8_count 127 = .ok (.aload_n 0, 1) := by decide +kernel
theorem dX8_count_128 : decode cX8_count 128 = .ok (.iload_n 1, 1) := by decide +kernel
theorem dX8_count_129 : decode cX8_count 129 = .ok (.bipush 6, 2) := by decide +kernel
theorem dX8_count_131 : decode cX8_count 131 = .ok (.isub, 1) := by decide +kernel
theorem dX8_count_132 : decode cX8_count 132 = .ok (.invokevirtual 198, 3) := by decide +kernel
theorem dX8_count_135 : decode cX8_count 135 = .ok (.ireturn, 1) := by decide +kernel
theorem dX8_count_136 : decode cX8_count 136 = .ok (.aload_n 0, 1) := by decide +kernel
theorem dX8_count_137 : decode cX8_count 137 = .ok (.invokevirtual 233, 3) := by decide +kernel
theorem dX8_count_140 : decode cX8_count 140 = .ok (.ireturn, 1) := by decide +kernel
theorem dX8_count_141 : decode cX8_count 141 = .ok (.aload_n 0, 1) := by decide +kernel
theorem dX8_count_142 : decode cX8_count 142 = .ok (.invokevirtual 236, 3) := by decide +kernel
theorem dX8_count_145 : decode cX8_count 145 = .ok (.invokestatic 239, 3) := by decide +kernel
theorem dX8_count_148 : decode cX8_count 148 = .ok (.ireturn, 1) := by decide +kernel
theorem dX8_count_149 : decode cX8_count 149 = .ok (.aload_n 0, 1) := by decide +kernel
theorem dX8_count_150 : decode cX8_count 150 = .ok (.getfield 124, 3) := by decide +kernel
theorem dX8_count_153 : decode cX8_count 153 = .ok (.ireturn, 1) := by decide +kernel
theorem dX8_count_154 : decode cX8_count 154 = .ok (.aload_n 0, 1) := by decide +kernel
theorem dX8_count_155 : decode cX8_count 155 = .ok (.getfield 19, 3) := by decide +kernel
theorem dX8_count_158 : decode cX8_count 158 = .ok (.bipush 67, 2) := by decide +kernel
theorem dX8_count_160 : decode cX8_count 160 = .ok (.iaload, 1) := by decide +kernel
theorem dX8_count_161 : decode cX8_count 161 = .ok (.ireturn, 1) := by decide +kernel
theorem dX8_count_162 : decode cX8_count 162 = .ok (.aload_n 0, 1) := by decide +kernel
theorem dX8_count_163 : decode cX8_count 163 = .ok (.invokevirtual 242, 3) := by decide +kernel
theorem dX8_count_166 : decode cX8_count 166 = .ok (.ireturn, 1) := by decide +kernel
theorem dX8_count_167 : decode cX8_count 167 = .ok (.iload_n 1, 1) := by decide +kernel
theorem dX8_count_168 : decode cX8_count 168 = .ok (.bipush 20, 2) := by decide +kernel
theorem dX8_count_170 : decode cX8_count 170 = .ok (.bipush 23, 2) := by decide +kernel
theorem dX8_count_172 : decode cX8_count 172 = .ok (.invokestatic 90, 3) := by decide +kernel
theorem dX8_count_175 : decode cX8_count 175 = .ok (.ifCond .eq 14, 3) := by decide +kernel
theorem dX8_count_178 : decode cX8_count 178 = .ok (.aload_n 0, 1) := by decide +kernel
theorem dX8_count_179 : decode cX8_count 179 = .ok (.iload_n 1, 1) := by decide +kernel
theorem dX8_count_180 : decode cX8_count 180 = .ok (.bipush 20, 2) := by decide +kernel
theorem dX8_count_182 : decode cX8_count 182 = .ok (.isub, 1) := by decide +kernel
theorem dX8_count_183 : decode cX8_count 183 = .ok (.invokevirtual 245, 3) := by decide +kernel
theorem dX8_count_186 : decode cX8_count 186 = .ok (.goto 4, 3) := by decide +kernel
theorem dX8_count_189 : decode cX8_count 189 = .ok (.iconst (-1), 1) := by decide +kernel
theorem dX8_count_190 : decode cX8_count 190 = .ok (.ireturn, 1) := by decide +kernel
def fX8_count_127 (o_raised : Int32) (o_firstX : Int32) (o_firstY : Int32) (o_secondX : Int32) (o_secondY : Int32) (o_all_r : Nat → Int32) (o_plans_r : Nat → Int32) (o_shift_r : Nat → Int32) (o_rootOf_r : Nat → Int32) (p1 : Int32) : Option (Int32 × Int32 × Int32 × Int32 × Int32 × Int32 × (Nat → Int32) × (Nat → Int32)) :=
  Option.bind (fX8_flips o_all_r o_shift_r o_plans_r (p1 - (6 : Int32))) fun q132 => some (q132, o_raised, o_firstX, o_firstY, o_secondX, o_secondY, o_shift_r, o_rootOf_r)
def fX8_count_84 (o_raised : Int32) (o_firstX : Int32) (o_firstY : Int32) (o_secondX : Int32) (o_secondY : Int32) (o_all_r : Nat → Int32) (o_shift_r : Nat → Int32) (o_rootOf_r : Nat → Int32) (p1 : Int32) : Option (Int32 × Int32 × Int32 × Int32 × Int32 × Int32 × (Nat → Int32) × (Nat → Int32)) :=
  if ds_in p1 350 = true then some ((o_all_r p1.toNatClampNeg), o_raised, o_firstX, o_firstY, o_secondX, o_secondY, o_shift_r, o_rootOf_r) else none
def fX8_count (o_undos : Int32) (o_firstX : Int32) (o_firstY : Int32) (o_secondX : Int32) (o_secondY : Int32) (o_all_r : Nat → Int32) (o_plans_r : Nat → Int32) (o_shift_r : Nat → Int32) (o_rootOf_r : Nat → Int32) (p1 : Int32) : Option (Int32 × Int32 × Int32 × Int32 × Int32 × Int32 × (Nat → Int32) × (Nat → Int32)) :=
  Option.bind (fX8_laysShifts o_all_r o_plans_r o_shift_r) fun q6 => if p1 = 0 then fX8_count_84 (0 : Int32) o_firstX o_firstY o_secondX o_secondY o_all_r q6 o_rootOf_r p1 else if p1 = 1 then fX8_count_84 (0 : Int32) o_firstX o_firstY o_secondX o_secondY o_all_r q6 o_rootOf_r p1 else if p1 = 2 then fX8_count_84 (0 : Int32) o_firstX o_firstY o_secondX o_secondY o_all_r q6 o_rootOf_r p1 else if p1 = 3 then Option.bind (fX8_shiftsOf o_all_r q6 (0 : Int32)) fun q93 => some (q93, (0 : Int32), o_firstX, o_firstY, o_secondX, o_secondY, q6, o_rootOf_r) else if p1 = 4 then Option.bind (fX8_shiftsOf o_all_r q6 (0 : Int32)) fun q112 => if q112 = 0 then none else some ((((o_all_r (0 : Int32).toNatClampNeg) * (o_all_r (1 : Int32).toNatClampNeg)) / q112), (0 : Int32), o_firstX, o_firstY, o_secondX, o_secondY, q6, o_rootOf_r) else if p1 = 5 then Option.bind (fX8_order o_all_r q6) fun q118 => some (q118, (0 : Int32), o_firstX, o_firstY, o_secondX, o_secondY, q6, o_rootOf_r) else if p1 = 6 then Option.bind (fX8_cls o_all_r q6 o_plans_r) fun q123 => some (q123.1, (0 : Int32), q123.2.1, q123.2.2.1, q123.2.2.2.1, q123.2.2.2.2, q6, o_rootOf_r) else if p1 = 7 then fX8_count_127 (0 : Int32) o_firstX o_firstY o_secondX o_secondY o_all_r o_plans_r q6 o_rootOf_r p1 else if p1 = 8 then fX8_count_127 (0 : Int32) o_firstX o_firstY o_secondX o_secondY o_all_r o_plans_r q6 o_rootOf_r p1 else if p1 = 9 then fX8_count_127 (0 : Int32) o_firstX o_firstY o_secondX o_secondY o_all_r o_plans_r q6 o_rootOf_r p1 else if p1 = 10 then Option.bind (fX8_kinds o_rootOf_r o_all_r q6 o_plans_r) fun q137 => some (q137.1, (0 : Int32), o_firstX, o_firstY, o_secondX, o_secondY, q6, q137.2) else if p1 = 11 then Option.bind (fX8_coloursThere o_all_r) fun q142 => Option.bind (fX8_ones q142) fun q145 => some (q145, (0 : Int32), o_firstX, o_firstY, o_secondX, o_secondY, q6, o_rootOf_r) else if p1 = 12 then some (o_undos, (0 : Int32), o_firstX, o_firstY, o_secondX, o_secondY, q6, o_rootOf_r) else if p1 = 13 then some ((o_all_r (67 : Int32).toNatClampNeg), (0 : Int32), o_firstX, o_firstY, o_secondX, o_secondY, q6, o_rootOf_r) else if p1 = 14 then Option.bind (fX8_turnBits o_all_r q6) fun q163 => some (q163, (0 : Int32), o_firstX, o_firstY, o_secondX, o_secondY, q6, o_rootOf_r) else Option.bind (fX8_in p1 (20 : Int32) (23 : Int32)) fun q172 => if q172 = 0 then some ((-1 : Int32), (0 : Int32), o_firstX, o_firstY, o_secondX, o_secondY, q6, o_rootOf_r) else Option.bind (fX8_cellsOf o_all_r (p1 - (20 : Int32))) fun q183 => some (q183, (0 : Int32), o_firstX, o_firstY, o_secondX, o_secondY, q6, o_rootOf_r)
set_option maxHeartbeats 4000000 in
set_option maxRecDepth 100000 in
theorem c_X8_count (l : Launch) (dC : Nat → ClassId) (dI : Nat → Nat → Nat) (ca : Nat → ClassId) (sa : Nat → Nat) (h_o : Nat) (h_o_plans : Nat) (h_o_makers : Nat) (h_o_halves : Nat) (h_o_all : Nat) (h_o_text : Nat) (h_o_saved : Nat) (h_o_undone : Nat) (h_o_told : Nat) (h_o_shift : Nat) (h_o_rootOf : Nat) (h_o_becomes : Nat) (h_o_comes : Nat) (h_o_next : Nat) (sz : Nat) (o_raised : Int32) (o_undos : Int32) (o_reached : Int32) (o_length : Int32) (o_begin : Int32) (o_letters : Int32) (o_sort : Int32) (o_word : Int64) (o_wrongAt : Int32) (o_badAt : Int32) (o_bad : Int32) (o_firstX : Int32) (o_firstY : Int32) (o_secondX : Int32) (o_secondY : Int32) (o_x : Int32) (o_all_r : Nat → Int32) (o_plans_r : Nat → Int32) (o_shift_r : Nat → Int32) (o_rootOf_r : Nat → Int32) (p1 : Int32) (res : Int32 × Int32 × Int32 × Int32 × Int32 × Int32 × (Nat → Int32) × (Nat → Int32)) (hf : fX8_count o_undos o_firstX o_firstY o_secondX o_secondY o_all_r o_plans_r o_shift_r o_rootOf_r p1 = some res) : Met l yX8_count (Cond.code yX8_count cX8_count 2 (some .int) :: ds_gw) { frames := 7, cells := 0, slots := 0, locals := 162 } (va_Pc [.ref h_o, .int p1] (ds_Pre dC dI ca sa [(h_o, .inr (7, [.ref h_o_plans, .ref h_o_makers, .ref h_o_halves, .int o_raised, .ref h_o_all, .ref h_o_text, .ref h_o_saved, .ref h_o_undone, .int o_undos, .int o_reached, .int o_length, .int o_begin, .int o_letters, .int o_sort, .long o_word, .int o_wrongAt, .int o_badAt, .int o_bad, .ref h_o_told, .ref h_o_shift, .int o_firstX, .int o_firstY, .int o_secondX, .int o_secondY, .ref h_o_rootOf, .ref h_o_becomes, .ref h_o_comes, .ref h_o_next, .int o_x])), (h_o_all, .inl (ca 0, 350, .inl o_all_r)), (h_o_plans, .inl (ca 0, 80, .inl o_plans_r)), (h_o_shift, .inl (ca 3, 768, .inl o_shift_r)), (h_o_rootOf, .inl (ca 0, 64, .inl o_rootOf_r))] sz)) (va_Qi (fun r (_ : Unit) => r = res.1) (ds_B dC dI (va_A [(h_o, .inr (7, [.ref h_o_plans, .ref h_o_makers, .ref h_o_halves, .int o_raised, .ref h_o_all, .ref h_o_text, .ref h_o_saved, .ref h_o_undone, .int o_undos, .int o_reached, .int o_length, .int o_begin, .int o_letters, .int o_sort, .long o_word, .int o_wrongAt, .int o_badAt, .int o_bad, .ref h_o_told, .ref h_o_shift, .int o_firstX, .int o_firstY, .int o_secondX, .int o_secondY, .ref h_o_rootOf, .ref h_o_becomes, .ref h_o_comes, .ref h_o_next, .int o_x])), (h_o_all, .inl (ca 0, 350, .inl o_all_r)), (h_o_plans, .inl (ca 0, 80, .inl o_plans_r)), (h_o_shift, .inl (ca 3, 768, .inl o_shift_r)), (h_o_rootOf, .inl (ca 0, 64, .inl o_rootOf_r))] sz) [(h_o, .inr (7, [.ref h_o_plans, .ref h_o_makers, .ref h_o_halves, .int res.2.1, .ref h_o_all, .ref h_o_text, .ref h_o_saved, .ref h_o_undone, .int o_undos, .int o_reached, .int o_length, .int o_begin, .int o_letters, .int o_sort, .long o_word, .int o_wrongAt, .int o_badAt, .int o_bad, .ref h_o_told, .ref h_o_shift, .int res.2.2.1, .int res.2.2.2.1, .int res.2.2.2.2.1, .int res.2.2.2.2.2.1, .ref h_o_rootOf, .ref h_o_becomes, .ref h_o_comes, .ref h_o_next, .int o_x])), (h_o_all, .inl (ca 0, 350, .inl o_all_r)), (h_o_plans, .inl (ca 0, 80, .inl o_plans_r)), (h_o_shift, .inl (ca 3, 768, .inl res.2.2.2.2.2.2.1)), (h_o_rootOf, .inl (ca 0, 64, .inl res.2.2.2.2.2.2.2))]) (va_A [(h_o, .inr (7, [.ref h_o_plans, .ref h_o_makers, .ref h_o_halves, .int o_raised, .ref h_o_all, .ref h_o_text, .ref h_o_saved, .ref h_o_undone, .int o_undos, .int o_reached, .int o_length, .int o_begin, .int o_letters, .int o_sort, .long o_word, .int o_wrongAt, .int o_badAt, .int o_bad, .ref h_o_told, .ref h_o_shift, .int o_firstX, .int o_firstY, .int o_secondX, .int o_secondY, .ref h_o_rootOf, .ref h_o_becomes, .ref h_o_comes, .ref h_o_next, .int o_x])), (h_o_all, .inl (ca 0, 350, .inl o_all_r)), (h_o_plans, .inl (ca 0, 80, .inl o_plans_r)), (h_o_shift, .inl (ca 3, 768, .inl o_shift_r)), (h_o_rootOf, .inl (ca 0, 64, .inl o_rootOf_r))] sz)) 0 0 (va_A [(h_o, .inr (7, [.ref h_o_plans, .ref h_o_makers, .ref h_o_halves, .int o_raised, .ref h_o_all, .ref h_o_text, .ref h_o_saved, .ref h_o_undone, .int o_undos, .int o_reached, .int o_length, .int o_begin, .int o_letters, .int o_sort, .long o_word, .int o_wrongAt, .int o_badAt, .int o_bad, .ref h_o_told, .ref h_o_shift, .int o_firstX, .int o_firstY, .int o_secondX, .int o_secondY, .ref h_o_rootOf, .ref h_o_becomes, .ref h_o_comes, .ref h_o_next, .int o_x])), (h_o_all, .inl (ca 0, 350, .inl o_all_r)), (h_o_plans, .inl (ca 0, 80, .inl o_plans_r)), (h_o_shift, .inl (ca 3, 768, .inl o_shift_r)), (h_o_rootOf, .inl (ca 0, 64, .inl o_rootOf_r))] sz) := by
  refine Met.ofW (cc := cX8_count) (maxL := 2) (ret := (some .int)) (by decide) rfl ?_
  intro p e s m args below meth c s₁ B hml hv
  obtain ⟨rfl, hsz, hP, hK, hD0, hE⟩ := hv
  have hx := B.exec
  have hb := B.bytes
  have hr := B.returns
  have hts := atoms_spec (ws := Cond.code yX8_count cX8_count 2 (some .int) :: ds_gw) B.pre
  have hg : ∀ {w : Cond}, w ∈ ds_gw → w.before _ s = true := fun h => hts _ (List.mem_cons_of_mem _ h)
  have hown : s.vm.findClass RX8 = some m.cls := findClass_of_methodNamed B.named
  have hlocks := B.notSynchronized
  subst hsz
  have hD := hD0.self (sz := s.heap.size)
  generalize hAe : va_A [(h_o, .inr (7, [.ref h_o_plans, .ref h_o_makers, .ref h_o_halves, .int o_raised, .ref h_o_all, .ref h_o_text, .ref h_o_saved, .ref h_o_undone, .int o_undos, .int o_reached, .int o_length, .int o_begin, .int o_letters, .int o_sort, .long o_word, .int o_wrongAt, .int o_badAt, .int o_bad, .ref h_o_told, .ref h_o_shift, .int o_firstX, .int o_firstY, .int o_secondX, .int o_secondY, .ref h_o_rootOf, .ref h_o_becomes, .ref h_o_comes, .ref h_o_next, .int o_x])), (h_o_all, .inl (ca 0, 350, .inl o_all_r)), (h_o_plans, .inl (ca 0, 80, .inl o_plans_r)), (h_o_shift, .inl (ca 3, 768, .inl o_shift_r)), (h_o_rootOf, .inl (ca 0, 64, .inl o_rootOf_r))] s.heap.size = A at hD hE ⊢
  have hA : ∀ q : Nat, s.heap.size ≤ q → A q := fun q h => by rw [← hAe]; exact Or.inr h
  have hS : va_S A s.heap s.heap [] := va_S.rf
  have hl := lv_entry ([.ref h_o, .int p1]) (n := 2) (Nat.le_of_ble_eq_true rfl)
  rw [lg_entry_eq]
  generalize (lg_sl ([.ref h_o, .int p1]) ++ List.replicate (2 - (lg_sl ([.ref h_o, .int p1])).length) Slot.unset).toArray = ls at hl ⊢
  have hl : lv_has ls 2 [(0, .ref h_o), (1, .int p1)] := hl
  obtain ⟨G0, eG0⟩ : ∃ G : (Int32 × Int32 × Int32 × Int32 × Int32 × Int32 × (Nat → Int32) × (Nat → Int32)) → Prop, G = (fun r => r = res) := ⟨_, rfl⟩
  obtain ⟨rr, hrr⟩ : ∃ z, z = res := ⟨_, rfl⟩
  rw [← hrr] at hf
  have hG : G0 rr := by subst eG0; exact hrr
  refine ds_cap (fun WW h1 h2 => ?_)
  have J_127 : ∀ (o_raised : Int32) (o_firstX : Int32) (o_firstY : Int32) (o_secondX : Int32) (o_secondY : Int32) (o_shift_r : Nat → Int32) (o_rootOf_r : Nat → Int32) (rr : Int32 × Int32 × Int32 × Int32 × Int32 × Int32 × (Nat → Int32) × (Nat → Int32)) (hf : fX8_count_127 o_raised o_firstX o_firstY o_secondX o_secondY o_all_r o_plans_r o_shift_r o_rootOf_r p1 = some rr) (hG : G0 rr) (H : Heap) (locs : List Loc) (hP : va_P (dC, dI) vwCl [(h_o, .inr (7, [.ref h_o_plans, .ref h_o_makers, .ref h_o_halves, .int o_raised, .ref h_o_all, .ref h_o_text, .ref h_o_saved, .ref h_o_undone, .int o_undos, .int o_reached, .int o_length, .int o_begin, .int o_letters, .int o_sort, .long o_word, .int o_wrongAt, .int o_badAt, .int o_bad, .ref h_o_told, .ref h_o_shift, .int o_firstX, .int o_firstY, .int o_secondX, .int o_secondY, .ref h_o_rootOf, .ref h_o_becomes, .ref h_o_comes, .ref h_o_next, .int o_x])), (h_o_all, .inl (ca 0, 350, .inl o_all_r)), (h_o_plans, .inl (ca 0, 80, .inl o_plans_r)), (h_o_shift, .inl (ca 3, 768, .inl o_shift_r)), (h_o_rootOf, .inl (ca 0, 64, .inl o_rootOf_r))] H) (hD : va_D A [(h_o, .inr (7, [.ref h_o_plans, .ref h_o_makers, .ref h_o_halves, .int o_raised, .ref h_o_all, .ref h_o_text, .ref h_o_saved, .ref h_o_undone, .int o_undos, .int o_reached, .int o_length, .int o_begin, .int o_letters, .int o_sort, .long o_word, .int o_wrongAt, .int o_badAt, .int o_bad, .ref h_o_told, .ref h_o_shift, .int o_firstX, .int o_firstY, .int o_secondX, .int o_secondY, .ref h_o_rootOf, .ref h_o_becomes, .ref h_o_comes, .ref h_o_next, .int o_x])), (h_o_all, .inl (ca 0, 350, .inl o_all_r)), (h_o_plans, .inl (ca 0, 80, .inl o_plans_r)), (h_o_shift, .inl (ca 3, 768, .inl o_shift_r)), (h_o_rootOf, .inl (ca 0, 64, .inl o_rootOf_r))]) (hS : va_S A s.heap H locs) (ls : Array Slot) (hl : lv_has ls 2 [(0, .ref h_o), (1, .int p1)]), WW H locs (F0 m 127 ls []) := by
    intro o_raised o_firstX o_firstY o_secondX o_secondY o_shift_r o_rootOf_r rr hf hG H locs hP hD hS ls hl
    refine h2 ?_
    unfold fX8_count_127 at hf
    refine lv_aload_n hx hb dX8_count_127 rfl (lv_at hl 0 rfl) ?_
    refine lv_iload_n hx hb dX8_count_128 rfl (lv_at hl 1 rfl) ?_
    refine lv_bipush (v := 6) hx hb dX8_count_129 (by decide) ?_
    refine lv_isub hx hb dX8_count_131 ?_
    obtain ⟨q132, hq132, hf⟩ := ds_ob hf
    refine ds_calli (wr := [(h_o_rootOf, .inl (ca 0, 64, .inl o_rootOf_r))]) (va_runV (As := [.int (p1 - (6 : Int32))]) (rest := []) ⟨hx, hb, hml, hown, hts⟩ (c_X8_flips l dC dI ca sa h_o h_o_plans h_o_makers h_o_halves h_o_all h_o_text h_o_saved h_o_undone h_o_told h_o_shift h_o_rootOf h_o_becomes h_o_comes h_o_next H.size o_raised o_undos o_reached o_length o_begin o_letters o_sort o_word o_wrongAt o_badAt o_bad o_firstX o_firstY o_secondX o_secondY o_x o_all_r o_shift_r o_plans_r (p1 - (6 : Int32)) q132 hq132) (cwV 1 hts (ds_gV kw_727 kw_728 kw_729 kw_597 kw_730) rfl rfl rfl (by decide +kernel) ⟨Nat.le_of_ble_eq_true rfl, Nat.le_of_ble_eq_true rfl⟩) ⟨ds_blind, va_recv hK hP (ci := 7) (q0 := 0) rfl rfl, ds_at hP hD hK hE hS hA [0, 1, 3, 2] rfl rfl _⟩ rfl rfl hl.1 rfl (lv_room (Nat.le_of_ble_eq_true rfl)) dX8_count_132 ⟨Nat.zero_le _, Nat.zero_le _⟩) hP hD hS hA [0, 1, 3, 2] [4] rfl rfl rfl (by decide) (fun H locs hP hD hS => ?_)
    have hP : va_P (dC, dI) vwCl [(h_o_rootOf, .inl (ca 0, 64, .inl o_rootOf_r)), (h_o, .inr (7, [.ref h_o_plans, .ref h_o_makers, .ref h_o_halves, .int o_raised, .ref h_o_all, .ref h_o_text, .ref h_o_saved, .ref h_o_undone, .int o_undos, .int o_reached, .int o_length, .int o_begin, .int o_letters, .int o_sort, .long o_word, .int o_wrongAt, .int o_badAt, .int o_bad, .ref h_o_told, .ref h_o_shift, .int o_firstX, .int o_firstY, .int o_secondX, .int o_secondY, .ref h_o_rootOf, .ref h_o_becomes, .ref h_o_comes, .ref h_o_next, .int o_x])), (h_o_all, .inl (ca 0, 350, .inl o_all_r)), (h_o_shift, .inl (ca 3, 768, .inl o_shift_r)), (h_o_plans, .inl (ca 0, 80, .inl o_plans_r))] H := hP
    have hD : va_D A [(h_o_rootOf, .inl (ca 0, 64, .inl o_rootOf_r)), (h_o, .inr (7, [.ref h_o_plans, .ref h_o_makers, .ref h_o_halves, .int o_raised, .ref h_o_all, .ref h_o_text, .ref h_o_saved, .ref h_o_undone, .int o_undos, .int o_reached, .int o_length, .int o_begin, .int o_letters, .int o_sort, .long o_word, .int o_wrongAt, .int o_badAt, .int o_bad, .ref h_o_told, .ref h_o_shift, .int o_firstX, .int o_firstY, .int o_secondX, .int o_secondY, .ref h_o_rootOf, .ref h_o_becomes, .ref h_o_comes, .ref h_o_next, .int o_x])), (h_o_all, .inl (ca 0, 350, .inl o_all_r)), (h_o_shift, .inl (ca 3, 768, .inl o_shift_r)), (h_o_plans, .inl (ca 0, 80, .inl o_plans_r))] := hD
    have hf := Option.some.inj hf
    subst hf
    rw [eG0] at hG
    have hG : _ = res := hG
    subst hG
    exact W.iret (v := q132) hx hb hr (fun t ht hW => ⟨⟨q132, (), rfl, rfl, by rw [ht]; exact (hP.sub [1, 2, 4, 3, 0] rfl), (hD.sub [1, 2, 4, 3, 0] rfl rfl)⟩, hS.F ht⟩) hS.2.2 dX8_count_135
  have J_84 : ∀ (o_raised : Int32) (o_firstX : Int32) (o_firstY : Int32) (o_secondX : Int32) (o_secondY : Int32) (o_shift_r : Nat → Int32) (o_rootOf_r : Nat → Int32) (rr : Int32 × Int32 × Int32 × Int32 × Int32 × Int32 × (Nat → Int32) × (Nat → Int32)) (hf : fX8_count_84 o_raised o_firstX o_firstY o_secondX o_secondY o_all_r o_shift_r o_rootOf_r p1 = some rr) (hG : G0 rr) (H : Heap) (locs : List Loc) (hP : va_P (dC, dI) vwCl [(h_o, .inr (7, [.ref h_o_plans, .ref h_o_makers, .ref h_o_halves, .int o_raised, .ref h_o_all, .ref h_o_text, .ref h_o_saved, .ref h_o_undone, .int o_undos, .int o_reached, .int o_length, .int o_begin, .int o_letters, .int o_sort, .long o_word, .int o_wrongAt, .int o_badAt, .int o_bad, .ref h_o_told, .ref h_o_shift, .int o_firstX, .int o_firstY, .int o_secondX, .int o_secondY, .ref h_o_rootOf, .ref h_o_becomes, .ref h_o_comes, .ref h_o_next, .int o_x])), (h_o_all, .inl (ca 0, 350, .inl o_all_r)), (h_o_plans, .inl (ca 0, 80, .inl o_plans_r)), (h_o_shift, .inl (ca 3, 768, .inl o_shift_r)), (h_o_rootOf, .inl (ca 0, 64, .inl o_rootOf_r))] H) (hD : va_D A [(h_o, .inr (7, [.ref h_o_plans, .ref h_o_makers, .ref h_o_halves, .int o_raised, .ref h_o_all, .ref h_o_text, .ref h_o_saved, .ref h_o_undone, .int o_undos, .int o_reached, .int o_length, .int o_begin, .int o_letters, .int o_sort, .long o_word, .int o_wrongAt, .int o_badAt, .int o_bad, .ref h_o_told, .ref h_o_shift, .int o_firstX, .int o_firstY, .int o_secondX, .int o_secondY, .ref h_o_rootOf, .ref h_o_becomes, .ref h_o_comes, .ref h_o_next, .int o_x])), (h_o_all, .inl (ca 0, 350, .inl o_all_r)), (h_o_plans, .inl (ca 0, 80, .inl o_plans_r)), (h_o_shift, .inl (ca 3, 768, .inl o_shift_r)), (h_o_rootOf, .inl (ca 0, 64, .inl o_rootOf_r))]) (hS : va_S A s.heap H locs) (ls : Array Slot) (hl : lv_has ls 2 [(0, .ref h_o), (1, .int p1)]), WW H locs (F0 m 84 ls []) := by
    intro o_raised o_firstX o_firstY o_secondX o_secondY o_shift_r o_rootOf_r rr hf hG H locs hP hD hS ls hl
    refine h2 ?_
    unfold fX8_count_84 at hf
    refine lv_aload_n hx hb dX8_count_84 rfl (lv_at hl 0 rfl) ?_
    refine va_get (D := (dC, dI)) (ci := 7) (v := .ref h_o_all) (C := RX8) (T := TX8) (N := 29) hx hb hts (fun w h => List.mem_cons_of_mem _ (kc_X8 w h)) hown hK hP 0 rfl rfl 4 (by decide) (hg kw_594) (fun _ h9 => h9) rfl dX8_count_85 ?_
    refine lv_iload_n hx hb dX8_count_88 rfl (lv_at hl 1 rfl) ?_
    obtain ⟨i_89, hf⟩ := ds_ci hf
    refine va_iald hx hb hK hP 1 0 rfl rfl i_89 dX8_count_89 ?_
    have hf := Option.some.inj hf
    subst hf
    rw [eG0] at hG
    have hG : _ = res := hG
    subst hG
    exact W.iret (v := (o_all_r p1.toNatClampNeg)) hx hb hr (fun t ht hW => ⟨⟨(o_all_r p1.toNatClampNeg), (), rfl, rfl, by rw [ht]; exact hP, hD⟩, hS.F ht⟩) hS.2.2 dX8_count_90
  unfold fX8_count at hf
  refine lv_aload_n hx hb dX8_count_0 rfl (lv_at hl 0 rfl) ?_
  refine lv_iconst (v := 0) hx hb dX8_count_1 (by decide) ?_
  refine va_put (D := (dC, dI)) (ci := 7) (v := .int (0 : Int32)) (ty := tyX8 3) (C := RX8) (T := TX8) (N := 29) hx hb hts (fun w h => List.mem_cons_of_mem _ (kc_X8 w h)) tyX8 tyX8_ok nmX8 hown hK hP hD hS 0 rfl rfl 3 (by decide) (hg kw_564) (fun _ h9 => h9) rfl (by decide +kernel) rfl rfl (Nat.le_of_ble_eq_true rfl) dX8_count_2 (fun H locs hP hD hS => ?_)
  have hP : va_P (dC, dI) vwCl [(h_o, .inr (7, [.ref h_o_plans, .ref h_o_makers, .ref h_o_halves, .int (0 : Int32), .ref h_o_all, .ref h_o_text, .ref h_o_saved, .ref h_o_undone, .int o_undos, .int o_reached, .int o_length, .int o_begin, .int o_letters, .int o_sort, .long o_word, .int o_wrongAt, .int o_badAt, .int o_bad, .ref h_o_told, .ref h_o_shift, .int o_firstX, .int o_firstY, .int o_secondX, .int o_secondY, .ref h_o_rootOf, .ref h_o_becomes, .ref h_o_comes, .ref h_o_next, .int o_x])), (h_o_all, .inl (ca 0, 350, .inl o_all_r)), (h_o_plans, .inl (ca 0, 80, .inl o_plans_r)), (h_o_shift, .inl (ca 3, 768, .inl o_shift_r)), (h_o_rootOf, .inl (ca 0, 64, .inl o_rootOf_r))] H := hP
  have hD : va_D A [(h_o, .inr (7, [.ref h_o_plans, .ref h_o_makers, .ref h_o_halves, .int (0 : Int32), .ref h_o_all, .ref h_o_text, .ref h_o_saved, .ref h_o_undone, .int o_undos, .int o_reached, .int o_length, .int o_begin, .int o_letters, .int o_sort, .long o_word, .int o_wrongAt, .int o_badAt, .int o_bad, .ref h_o_told, .ref h_o_shift, .int o_firstX, .int o_firstY, .int o_secondX, .int o_secondY, .ref h_o_rootOf, .ref h_o_becomes, .ref h_o_comes, .ref h_o_next, .int o_x])), (h_o_all, .inl (ca 0, 350, .inl o_all_r)), (h_o_plans, .inl (ca 0, 80, .inl o_plans_r)), (h_o_shift, .inl (ca 3, 768, .inl o_shift_r)), (h_o_rootOf, .inl (ca 0, 64, .inl o_rootOf_r))] := hD
  refine lv_aload_n hx hb dX8_count_5 rfl (lv_at hl 0 rfl) ?_
  obtain ⟨q6, hq6, hf⟩ := ds_ob hf
  refine ds_callv (wr := [(h_o_rootOf, .inl (ca 0, 64, .inl o_rootOf_r))]) (va_runV (As := []) (rest := []) ⟨hx, hb, hml, hown, hts⟩ (c_X8_laysShifts l dC dI ca sa h_o h_o_plans h_o_makers h_o_halves h_o_all h_o_text h_o_saved h_o_undone h_o_told h_o_shift h_o_rootOf h_o_becomes h_o_comes h_o_next H.size (0 : Int32) o_undos o_reached o_length o_begin o_letters o_sort o_word o_wrongAt o_badAt o_bad o_firstX o_firstY o_secondX o_secondY o_x o_all_r o_plans_r o_shift_r  q6 hq6) (cwV 0 hts (ds_gV kw_764 kw_765 kw_766 kw_597 kw_767) rfl rfl rfl (by decide +kernel) ⟨Nat.le_of_ble_eq_true rfl, Nat.le_of_ble_eq_true rfl⟩) ⟨ds_blind, va_recv hK hP (ci := 7) (q0 := 0) rfl rfl, ds_at hP hD hK hE hS hA [0, 1, 2, 3] rfl rfl _⟩ rfl rfl hl.1 rfl (lv_room (Nat.le_of_ble_eq_true rfl)) dX8_count_6 ⟨Nat.zero_le _, Nat.zero_le _⟩) hP hD hS hA [0, 1, 2, 3] [4] rfl rfl rfl (by decide) (fun H locs hP hD hS => ?_)
  have hP : va_P (dC, dI) vwCl [(h_o_rootOf, .inl (ca 0, 64, .inl o_rootOf_r)), (h_o, .inr (7, [.ref h_o_plans, .ref h_o_makers, .ref h_o_halves, .int (0 : Int32), .ref h_o_all, .ref h_o_text, .ref h_o_saved, .ref h_o_undone, .int o_undos, .int o_reached, .int o_length, .int o_begin, .int o_letters, .int o_sort, .long o_word, .int o_wrongAt, .int o_badAt, .int o_bad, .ref h_o_told, .ref h_o_shift, .int o_firstX, .int o_firstY, .int o_secondX, .int o_secondY, .ref h_o_rootOf, .ref h_o_becomes, .ref h_o_comes, .ref h_o_next, .int o_x])), (h_o_all, .inl (ca 0, 350, .inl o_all_r)), (h_o_plans, .inl (ca 0, 80, .inl o_plans_r)), (h_o_shift, .inl (ca 3, 768, .inl q6))] H := hP
  have hD : va_D A [(h_o_rootOf, .inl (ca 0, 64, .inl o_rootOf_r)), (h_o, .inr (7, [.ref h_o_plans, .ref h_o_makers, .ref h_o_halves, .int (0 : Int32), .ref h_o_all, .ref h_o_text, .ref h_o_saved, .ref h_o_undone, .int o_undos, .int o_reached, .int o_length, .int o_begin, .int o_letters, .int o_sort, .long o_word, .int o_wrongAt, .int o_badAt, .int o_bad, .ref h_o_told, .ref h_o_shift, .int o_firstX, .int o_firstY, .int o_secondX, .int o_secondY, .ref h_o_rootOf, .ref h_o_becomes, .ref h_o_comes, .ref h_o_next, .int o_x])), (h_o_all, .inl (ca 0, 350, .inl o_all_r)), (h_o_plans, .inl (ca 0, 80, .inl o_plans_r)), (h_o_shift, .inl (ca 3, 768, .inl q6))] := hD
  refine lv_iload_n hx hb dX8_count_9 rfl (lv_at hl 1 rfl) ?_
  by_cases c_10_0 : p1 = 0
  · replace hf := ds_t c_10_0 hf
    refine lv_tableIn (off := 74) (tgt := 84) hx hb dX8_count_10 (by rw [c_10_0]; decide) (by rw [c_10_0]; decide) (by rw [c_10_0]; decide) (by decide) ?_
    exact h1 (J_84 (0 : Int32) o_firstX o_firstY o_secondX o_secondY q6 o_rootOf_r _ hf hG _ _ (hP.sub [1, 2, 3, 4, 0] rfl) (hD.sub [1, 2, 3, 4, 0] rfl rfl) hS _ (lv_sub hl [0, 1] rfl))
  replace hf := ds_f c_10_0 hf
  by_cases c_10_1 : p1 = 1
  · replace hf := ds_t c_10_1 hf
    refine lv_tableIn (off := 74) (tgt := 84) hx hb dX8_count_10 (by rw [c_10_1]; decide) (by rw [c_10_1]; decide) (by rw [c_10_1]; decide) (by decide) ?_
    exact h1 (J_84 (0 : Int32) o_firstX o_firstY o_secondX o_secondY q6 o_rootOf_r _ hf hG _ _ (hP.sub [1, 2, 3, 4, 0] rfl) (hD.sub [1, 2, 3, 4, 0] rfl rfl) hS _ (lv_sub hl [0, 1] rfl))
  replace hf := ds_f c_10_1 hf
  by_cases c_10_2 : p1 = 2
  · replace hf := ds_t c_10_2 hf
    refine lv_tableIn (off := 74) (tgt := 84) hx hb dX8_count_10 (by rw [c_10_2]; decide) (by rw [c_10_2]; decide) (by rw [c_10_2]; decide) (by decide) ?_
    exact h1 (J_84 (0 : Int32) o_firstX o_firstY o_secondX o_secondY q6 o_rootOf_r _ hf hG _ _ (hP.sub [1, 2, 3, 4, 0] rfl) (hD.sub [1, 2, 3, 4, 0] rfl rfl) hS _ (lv_sub hl [0, 1] rfl))
  replace hf := ds_f c_10_2 hf
  by_cases c_10_3 : p1 = 3
  · replace hf := ds_t c_10_3 hf
    refine lv_tableIn (off := 81) (tgt := 91) hx hb dX8_count_10 (by rw [c_10_3]; decide) (by rw [c_10_3]; decide) (by rw [c_10_3]; decide) (by decide) ?_
    refine lv_aload_n hx hb dX8_count_91 rfl (lv_at hl 0 rfl) ?_
    refine lv_iconst (v := 0) hx hb dX8_count_92 (by decide) ?_
    obtain ⟨q93, hq93, hf⟩ := ds_ob hf
    refine ds_calli (wr := [(h_o_rootOf, .inl (ca 0, 64, .inl o_rootOf_r)), (h_o_plans, .inl (ca 0, 80, .inl o_plans_r))]) (va_runV (As := [.int (0 : Int32)]) (rest := []) ⟨hx, hb, hml, hown, hts⟩ (c_X8_shiftsOf l dC dI ca sa h_o h_o_plans h_o_makers h_o_halves h_o_all h_o_text h_o_saved h_o_undone h_o_told h_o_shift h_o_rootOf h_o_becomes h_o_comes h_o_next H.size (0 : Int32) o_undos o_reached o_length o_begin o_letters o_sort o_word o_wrongAt o_badAt o_bad o_firstX o_firstY o_secondX o_secondY o_x o_all_r q6 (0 : Int32) q93 hq93) (cwV 1 hts (ds_gV kw_687 kw_688 kw_689 kw_597 kw_690) rfl rfl rfl (by decide +kernel) ⟨Nat.le_of_ble_eq_true rfl, Nat.le_of_ble_eq_true rfl⟩) ⟨ds_blind, va_recv hK hP (ci := 7) (q0 := 1) rfl rfl, ds_at hP hD hK hE hS hA [1, 2, 4] rfl rfl _⟩ rfl rfl hl.1 rfl (lv_room (Nat.le_of_ble_eq_true rfl)) dX8_count_93 ⟨Nat.zero_le _, Nat.zero_le _⟩) hP hD hS hA [1, 2, 4] [0, 3] rfl rfl rfl (by decide) (fun H locs hP hD hS => ?_)
    have hP : va_P (dC, dI) vwCl [(h_o_rootOf, .inl (ca 0, 64, .inl o_rootOf_r)), (h_o_plans, .inl (ca 0, 80, .inl o_plans_r)), (h_o, .inr (7, [.ref h_o_plans, .ref h_o_makers, .ref h_o_halves, .int (0 : Int32), .ref h_o_all, .ref h_o_text, .ref h_o_saved, .ref h_o_undone, .int o_undos, .int o_reached, .int o_length, .int o_begin, .int o_letters, .int o_sort, .long o_word, .int o_wrongAt, .int o_badAt, .int o_bad, .ref h_o_told, .ref h_o_shift, .int o_firstX, .int o_firstY, .int o_secondX, .int o_secondY, .ref h_o_rootOf, .ref h_o_becomes, .ref h_o_comes, .ref h_o_next, .int o_x])), (h_o_all, .inl (ca 0, 350, .inl o_all_r)), (h_o_shift, .inl (ca 3, 768, .inl q6))] H := hP
    have hD : va_D A [(h_o_rootOf, .inl (ca 0, 64, .inl o_rootOf_r)), (h_o_plans, .inl (ca 0, 80, .inl o_plans_r)), (h_o, .inr (7, [.ref h_o_plans, .ref h_o_makers, .ref h_o_halves, .int (0 : Int32), .ref h_o_all, .ref h_o_text, .ref h_o_saved, .ref h_o_undone, .int o_undos, .int o_reached, .int o_length, .int o_begin, .int o_letters, .int o_sort, .long o_word, .int o_wrongAt, .int o_badAt, .int o_bad, .ref h_o_told, .ref h_o_shift, .int o_firstX, .int o_firstY, .int o_secondX, .int o_secondY, .ref h_o_rootOf, .ref h_o_becomes, .ref h_o_comes, .ref h_o_next, .int o_x])), (h_o_all, .inl (ca 0, 350, .inl o_all_r)), (h_o_shift, .inl (ca 3, 768, .inl q6))] := hD
    have hf := Option.some.inj hf
    subst hf
    rw [eG0] at hG
    have hG : _ = res := hG
    subst hG
    exact W.iret (v := q93) hx hb hr (fun t ht hW => ⟨⟨q93, (), rfl, rfl, by rw [ht]; exact (hP.sub [2, 3, 1, 4, 0] rfl), (hD.sub [2, 3, 1, 4, 0] rfl rfl)⟩, hS.F ht⟩) hS.2.2 dX8_count_96
  replace hf := ds_f c_10_3 hf
  by_cases c_10_4 : p1 = 4
  · replace hf := ds_t c_10_4 hf
    refine lv_tableIn (off := 87) (tgt := 97) hx hb dX8_count_10 (by rw [c_10_4]; decide) (by rw [c_10_4]; decide) (by rw [c_10_4]; decide) (by decide) ?_
    refine lv_aload_n hx hb dX8_count_97 rfl (lv_at hl 0 rfl) ?_
    refine va_get (D := (dC, dI)) (ci := 7) (v := .ref h_o_all) (C := RX8) (T := TX8) (N := 29) hx hb hts (fun w h => List.mem_cons_of_mem _ (kc_X8 w h)) hown hK hP 1 rfl rfl 4 (by decide) (hg kw_594) (fun _ h9 => h9) rfl dX8_count_98 ?_
    refine lv_iconst (v := 0) hx hb dX8_count_101 (by decide) ?_
    refine va_iald hx hb hK hP 2 0 rfl rfl (ds_in_ok (i := 0) (n := 350) (by decide)) dX8_count_102 ?_
    refine lv_aload_n hx hb dX8_count_103 rfl (lv_at hl 0 rfl) ?_
    refine va_get (D := (dC, dI)) (ci := 7) (v := .ref h_o_all) (C := RX8) (T := TX8) (N := 29) hx hb hts (fun w h => List.mem_cons_of_mem _ (kc_X8 w h)) hown hK hP 1 rfl rfl 4 (by decide) (hg kw_594) (fun _ h9 => h9) rfl dX8_count_104 ?_
    refine lv_iconst (v := 1) hx hb dX8_count_107 (by decide) ?_
    refine va_iald hx hb hK hP 2 0 rfl rfl (ds_in_ok (i := 1) (n := 350) (by decide)) dX8_count_108 ?_
    refine lv_imul hx hb dX8_count_109 ?_
    refine lv_aload_n hx hb dX8_count_110 rfl (lv_at hl 0 rfl) ?_
    refine lv_iconst (v := 0) hx hb dX8_count_111 (by decide) ?_
    obtain ⟨q112, hq112, hf⟩ := ds_ob hf
    refine ds_calli (wr := [(h_o_rootOf, .inl (ca 0, 64, .inl o_rootOf_r)), (h_o_plans, .inl (ca 0, 80, .inl o_plans_r))]) (va_runV (As := [.int (0 : Int32)]) (rest := [.int ((o_all_r (0 : Int32).toNatClampNeg) * (o_all_r (1 : Int32).toNatClampNeg))]) ⟨hx, hb, hml, hown, hts⟩ (c_X8_shiftsOf l dC dI ca sa h_o h_o_plans h_o_makers h_o_halves h_o_all h_o_text h_o_saved h_o_undone h_o_told h_o_shift h_o_rootOf h_o_becomes h_o_comes h_o_next H.size (0 : Int32) o_undos o_reached o_length o_begin o_letters o_sort o_word o_wrongAt o_badAt o_bad o_firstX o_firstY o_secondX o_secondY o_x o_all_r q6 (0 : Int32) q112 hq112) (cwV 1 hts (ds_gV kw_687 kw_688 kw_689 kw_597 kw_690) rfl rfl rfl (by decide +kernel) ⟨Nat.le_of_ble_eq_true rfl, Nat.le_of_ble_eq_true rfl⟩) ⟨ds_blind, va_recv hK hP (ci := 7) (q0 := 1) rfl rfl, ds_at hP hD hK hE hS hA [1, 2, 4] rfl rfl _⟩ rfl rfl hl.1 rfl (lv_room (Nat.le_of_ble_eq_true rfl)) dX8_count_112 ⟨Nat.zero_le _, Nat.zero_le _⟩) hP hD hS hA [1, 2, 4] [0, 3] rfl rfl rfl (by decide) (fun H locs hP hD hS => ?_)
    have hP : va_P (dC, dI) vwCl [(h_o_rootOf, .inl (ca 0, 64, .inl o_rootOf_r)), (h_o_plans, .inl (ca 0, 80, .inl o_plans_r)), (h_o, .inr (7, [.ref h_o_plans, .ref h_o_makers, .ref h_o_halves, .int (0 : Int32), .ref h_o_all, .ref h_o_text, .ref h_o_saved, .ref h_o_undone, .int o_undos, .int o_reached, .int o_length, .int o_begin, .int o_letters, .int o_sort, .long o_word, .int o_wrongAt, .int o_badAt, .int o_bad, .ref h_o_told, .ref h_o_shift, .int o_firstX, .int o_firstY, .int o_secondX, .int o_secondY, .ref h_o_rootOf, .ref h_o_becomes, .ref h_o_comes, .ref h_o_next, .int o_x])), (h_o_all, .inl (ca 0, 350, .inl o_all_r)), (h_o_shift, .inl (ca 3, 768, .inl q6))] H := hP
    have hD : va_D A [(h_o_rootOf, .inl (ca 0, 64, .inl o_rootOf_r)), (h_o_plans, .inl (ca 0, 80, .inl o_plans_r)), (h_o, .inr (7, [.ref h_o_plans, .ref h_o_makers, .ref h_o_halves, .int (0 : Int32), .ref h_o_all, .ref h_o_text, .ref h_o_saved, .ref h_o_undone, .int o_undos, .int o_reached, .int o_length, .int o_begin, .int o_letters, .int o_sort, .long o_word, .int o_wrongAt, .int o_badAt, .int o_bad, .ref h_o_told, .ref h_o_shift, .int o_firstX, .int o_firstY, .int o_secondX, .int o_secondY, .ref h_o_rootOf, .ref h_o_becomes, .ref h_o_comes, .ref h_o_next, .int o_x])), (h_o_all, .inl (ca 0, 350, .inl o_all_r)), (h_o_shift, .inl (ca 3, 768, .inl q6))] := hD
    obtain ⟨n_115, hf⟩ := ds_cn hf
    refine lv_idiv hx hb dX8_count_115 n_115 ?_
    have hf := Option.some.inj hf
    subst hf
    rw [eG0] at hG
    have hG : _ = res := hG
    subst hG
    exact W.iret (v := (((o_all_r (0 : Int32).toNatClampNeg) * (o_all_r (1 : Int32).toNatClampNeg)) / q112)) hx hb hr (fun t ht hW => ⟨⟨(((o_all_r (0 : Int32).toNatClampNeg) * (o_all_r (1 : Int32).toNatClampNeg)) / q112), (), rfl, rfl, by rw [ht]; exact (hP.sub [2, 3, 1, 4, 0] rfl), (hD.sub [2, 3, 1, 4, 0] rfl rfl)⟩, hS.F ht⟩) hS.2.2 dX8_count_116
  replace hf := ds_f c_10_4 hf
  by_cases c_10_5 : p1 = 5
  · replace hf := ds_t c_10_5 hf
    refine lv_tableIn (off := 107) (tgt := 117) hx hb dX8_count_10 (by rw [c_10_5]; decide) (by rw [c_10_5]; decide) (by rw [c_10_5]; decide) (by decide) ?_
    refine lv_aload_n hx hb dX8_count_117 rfl (lv_at hl 0 rfl) ?_
    obtain ⟨q118, hq118, hf⟩ := ds_ob hf
    refine ds_calli (wr := [(h_o_rootOf, .inl (ca 0, 64, .inl o_rootOf_r)), (h_o_plans, .inl (ca 0, 80, .inl o_plans_r))]) (va_runV (As := []) (rest := []) ⟨hx, hb, hml, hown, hts⟩ (c_X8_order l dC dI ca sa h_o h_o_plans h_o_makers h_o_halves h_o_all h_o_text h_o_saved h_o_undone h_o_told h_o_shift h_o_rootOf h_o_becomes h_o_comes h_o_next H.size (0 : Int32) o_undos o_reached o_length o_begin o_letters o_sort o_word o_wrongAt o_badAt o_bad o_firstX o_firstY o_secondX o_secondY o_x o_all_r q6  q118 hq118) (cwV 0 hts (ds_gV kw_723 kw_724 kw_725 kw_597 kw_726) rfl rfl rfl (by decide +kernel) ⟨Nat.le_of_ble_eq_true rfl, Nat.le_of_ble_eq_true rfl⟩) ⟨ds_blind, va_recv hK hP (ci := 7) (q0 := 1) rfl rfl, ds_at hP hD hK hE hS hA [1, 2, 4] rfl rfl _⟩ rfl rfl hl.1 rfl (lv_room (Nat.le_of_ble_eq_true rfl)) dX8_count_118 ⟨Nat.zero_le _, Nat.zero_le _⟩) hP hD hS hA [1, 2, 4] [0, 3] rfl rfl rfl (by decide) (fun H locs hP hD hS => ?_)
    have hP : va_P (dC, dI) vwCl [(h_o_rootOf, .inl (ca 0, 64, .inl o_rootOf_r)), (h_o_plans, .inl (ca 0, 80, .inl o_plans_r)), (h_o, .inr (7, [.ref h_o_plans, .ref h_o_makers, .ref h_o_halves, .int (0 : Int32), .ref h_o_all, .ref h_o_text, .ref h_o_saved, .ref h_o_undone, .int o_undos, .int o_reached, .int o_length, .int o_begin, .int o_letters, .int o_sort, .long o_word, .int o_wrongAt, .int o_badAt, .int o_bad, .ref h_o_told, .ref h_o_shift, .int o_firstX, .int o_firstY, .int o_secondX, .int o_secondY, .ref h_o_rootOf, .ref h_o_becomes, .ref h_o_comes, .ref h_o_next, .int o_x])), (h_o_all, .inl (ca 0, 350, .inl o_all_r)), (h_o_shift, .inl (ca 3, 768, .inl q6))] H := hP
    have hD : va_D A [(h_o_rootOf, .inl (ca 0, 64, .inl o_rootOf_r)), (h_o_plans, .inl (ca 0, 80, .inl o_plans_r)), (h_o, .inr (7, [.ref h_o_plans, .ref h_o_makers, .ref h_o_halves, .int (0 : Int32), .ref h_o_all, .ref h_o_text, .ref h_o_saved, .ref h_o_undone, .int o_undos, .int o_reached, .int o_length, .int o_begin, .int o_letters, .int o_sort, .long o_word, .int o_wrongAt, .int o_badAt, .int o_bad, .ref h_o_told, .ref h_o_shift, .int o_firstX, .int o_firstY, .int o_secondX, .int o_secondY, .ref h_o_rootOf, .ref h_o_becomes, .ref h_o_comes, .ref h_o_next, .int o_x])), (h_o_all, .inl (ca 0, 350, .inl o_all_r)), (h_o_shift, .inl (ca 3, 768, .inl q6))] := hD
    have hf := Option.some.inj hf
    subst hf
    rw [eG0] at hG
    have hG : _ = res := hG
    subst hG
    exact W.iret (v := q118) hx hb hr (fun t ht hW => ⟨⟨q118, (), rfl, rfl, by rw [ht]; exact (hP.sub [2, 3, 1, 4, 0] rfl), (hD.sub [2, 3, 1, 4, 0] rfl rfl)⟩, hS.F ht⟩) hS.2.2 dX8_count_121
  replace hf := ds_f c_10_5 hf
  by_cases c_10_6 : p1 = 6
  · replace hf := ds_t c_10_6 hf
    refine lv_tableIn (off := 112) (tgt := 122) hx hb dX8_count_10 (by rw [c_10_6]; decide) (by rw [c_10_6]; decide) (by rw [c_10_6]; decide) (by decide) ?_
    refine lv_aload_n hx hb dX8_count_122 rfl (lv_at hl 0 rfl) ?_
    obtain ⟨q123, hq123, hf⟩ := ds_ob hf
    refine ds_calli (wr := [(h_o_rootOf, .inl (ca 0, 64, .inl o_rootOf_r))]) (va_runV (As := []) (rest := []) ⟨hx, hb, hml, hown, hts⟩ (c_X8_cls l dC dI ca sa h_o h_o_plans h_o_makers h_o_halves h_o_all h_o_text h_o_saved h_o_undone h_o_told h_o_shift h_o_rootOf h_o_becomes h_o_comes h_o_next H.size (0 : Int32) o_undos o_reached o_length o_begin o_letters o_sort o_word o_wrongAt o_badAt o_bad o_firstX o_firstY o_secondX o_secondY o_x o_all_r q6 o_plans_r  q123 hq123) (cwV 0 hts (ds_gV kw_768 kw_769 kw_770 kw_597 kw_771) rfl rfl rfl (by decide +kernel) ⟨Nat.le_of_ble_eq_true rfl, Nat.le_of_ble_eq_true rfl⟩) ⟨ds_blind, va_recv hK hP (ci := 7) (q0 := 1) rfl rfl, ds_at hP hD hK hE hS hA [1, 2, 4, 3] rfl rfl _⟩ rfl rfl hl.1 rfl (lv_room (Nat.le_of_ble_eq_true rfl)) dX8_count_123 ⟨Nat.zero_le _, Nat.zero_le _⟩) hP hD hS hA [1, 2, 4, 3] [0] rfl rfl rfl (by decide) (fun H locs hP hD hS => ?_)
    have hP : va_P (dC, dI) vwCl [(h_o_rootOf, .inl (ca 0, 64, .inl o_rootOf_r)), (h_o, .inr (7, [.ref h_o_plans, .ref h_o_makers, .ref h_o_halves, .int (0 : Int32), .ref h_o_all, .ref h_o_text, .ref h_o_saved, .ref h_o_undone, .int o_undos, .int o_reached, .int o_length, .int o_begin, .int o_letters, .int o_sort, .long o_word, .int o_wrongAt, .int o_badAt, .int o_bad, .ref h_o_told, .ref h_o_shift, .int q123.2.1, .int q123.2.2.1, .int q123.2.2.2.1, .int q123.2.2.2.2, .ref h_o_rootOf, .ref h_o_becomes, .ref h_o_comes, .ref h_o_next, .int o_x])), (h_o_all, .inl (ca 0, 350, .inl o_all_r)), (h_o_shift, .inl (ca 3, 768, .inl q6)), (h_o_plans, .inl (ca 0, 80, .inl o_plans_r))] H := hP
    have hD : va_D A [(h_o_rootOf, .inl (ca 0, 64, .inl o_rootOf_r)), (h_o, .inr (7, [.ref h_o_plans, .ref h_o_makers, .ref h_o_halves, .int (0 : Int32), .ref h_o_all, .ref h_o_text, .ref h_o_saved, .ref h_o_undone, .int o_undos, .int o_reached, .int o_length, .int o_begin, .int o_letters, .int o_sort, .long o_word, .int o_wrongAt, .int o_badAt, .int o_bad, .ref h_o_told, .ref h_o_shift, .int q123.2.1, .int q123.2.2.1, .int q123.2.2.2.1, .int q123.2.2.2.2, .ref h_o_rootOf, .ref h_o_becomes, .ref h_o_comes, .ref h_o_next, .int o_x])), (h_o_all, .inl (ca 0, 350, .inl o_all_r)), (h_o_shift, .inl (ca 3, 768, .inl q6)), (h_o_plans, .inl (ca 0, 80, .inl o_plans_r))] := hD
    have hf := Option.some.inj hf
    subst hf
    rw [eG0] at hG
    have hG : _ = res := hG
    subst hG
    exact W.iret (v := q123.1) hx hb hr (fun t ht hW => ⟨⟨q123.1, (), rfl, rfl, by rw [ht]; exact (hP.sub [1, 2, 4, 3, 0] rfl), (hD.sub [1, 2, 4, 3, 0] rfl rfl)⟩, hS.F ht⟩) hS.2.2 dX8_count_126
  replace hf := ds_f c_10_6 hf
  by_cases c_10_7 : p1 = 7
  · replace hf := ds_t c_10_7 hf
    refine lv_tableIn (off := 117) (tgt := 127) hx hb dX8_count_10 (by rw [c_10_7]; decide) (by rw [c_10_7]; decide) (by rw [c_10_7]; decide) (by decide) ?_
    exact h1 (J_127 (0 : Int32) o_firstX o_firstY o_secondX o_secondY q6 o_rootOf_r _ hf hG _ _ (hP.sub [1, 2, 3, 4, 0] rfl) (hD.sub [1, 2, 3, 4, 0] rfl rfl) hS _ (lv_sub hl [0, 1] rfl))
  replace hf := ds_f c_10_7 hf
  by_cases c_10_8 : p1 = 8
  · replace hf := ds_t c_10_8 hf
    refine lv_tableIn (off := 117) (tgt := 127) hx hb dX8_count_10 (by rw [c_10_8]; decide) (by rw [c_10_8]; decide) (by rw [c_10_8]; decide) (by decide) ?_
    exact h1 (J_127 (0 : Int32) o_firstX o_firstY o_secondX o_secondY q6 o_rootOf_r _ hf hG _ _ (hP.sub [1, 2, 3, 4, 0] rfl) (hD.sub [1, 2, 3, 4, 0] rfl rfl) hS _ (lv_sub hl [0, 1] rfl))
  replace hf := ds_f c_10_8 hf
  by_cases c_10_9 : p1 = 9
  · replace hf := ds_t c_10_9 hf
    refine lv_tableIn (off := 117) (tgt := 127) hx hb dX8_count_10 (by rw [c_10_9]; decide) (by rw [c_10_9]; decide) (by rw [c_10_9]; decide) (by decide) ?_
    exact h1 (J_127 (0 : Int32) o_firstX o_firstY o_secondX o_secondY q6 o_rootOf_r _ hf hG _ _ (hP.sub [1, 2, 3, 4, 0] rfl) (hD.sub [1, 2, 3, 4, 0] rfl rfl) hS _ (lv_sub hl [0, 1] rfl))
  replace hf := ds_f c_10_9 hf
  by_cases c_10_10 : p1 = 10
  · replace hf := ds_t c_10_10 hf
    refine lv_tableIn (off := 126) (tgt := 136) hx hb dX8_count_10 (by rw [c_10_10]; decide) (by rw [c_10_10]; decide) (by rw [c_10_10]; decide) (by decide) ?_
    refine lv_aload_n hx hb dX8_count_136 rfl (lv_at hl 0 rfl) ?_
    obtain ⟨q137, hq137, hf⟩ := ds_ob hf
    refine ds_calli (wr := []) (va_runV (As := []) (rest := []) ⟨hx, hb, hml, hown, hts⟩ (c_X8_kinds l dC dI ca sa h_o h_o_plans h_o_makers h_o_halves h_o_all h_o_text h_o_saved h_o_undone h_o_told h_o_shift h_o_rootOf h_o_becomes h_o_comes h_o_next H.size (0 : Int32) o_undos o_reached o_length o_begin o_letters o_sort o_word o_wrongAt o_badAt o_bad o_firstX o_firstY o_secondX o_secondY o_x o_rootOf_r o_all_r q6 o_plans_r  q137 hq137) (cwV 0 hts (ds_gV kw_772 kw_773 kw_774 kw_597 kw_775) rfl rfl rfl (by decide +kernel) ⟨Nat.le_of_ble_eq_true rfl, Nat.le_of_ble_eq_true rfl⟩) ⟨ds_blind, va_recv hK hP (ci := 7) (q0 := 1) rfl rfl, ds_at hP hD hK hE hS hA [1, 0, 2, 4, 3] rfl rfl _⟩ rfl rfl hl.1 rfl (lv_room (Nat.le_of_ble_eq_true rfl)) dX8_count_137 ⟨Nat.zero_le _, Nat.zero_le _⟩) hP hD hS hA [1, 0, 2, 4, 3] [] rfl rfl rfl (by decide) (fun H locs hP hD hS => ?_)
    have hP : va_P (dC, dI) vwCl [(h_o, .inr (7, [.ref h_o_plans, .ref h_o_makers, .ref h_o_halves, .int (0 : Int32), .ref h_o_all, .ref h_o_text, .ref h_o_saved, .ref h_o_undone, .int o_undos, .int o_reached, .int o_length, .int o_begin, .int o_letters, .int o_sort, .long o_word, .int o_wrongAt, .int o_badAt, .int o_bad, .ref h_o_told, .ref h_o_shift, .int o_firstX, .int o_firstY, .int o_secondX, .int o_secondY, .ref h_o_rootOf, .ref h_o_becomes, .ref h_o_comes, .ref h_o_next, .int o_x])), (h_o_rootOf, .inl (ca 0, 64, .inl q137.2)), (h_o_all, .inl (ca 0, 350, .inl o_all_r)), (h_o_shift, .inl (ca 3, 768, .inl q6)), (h_o_plans, .inl (ca 0, 80, .inl o_plans_r))] H := hP
    have hD : va_D A [(h_o, .inr (7, [.ref h_o_plans, .ref h_o_makers, .ref h_o_halves, .int (0 : Int32), .ref h_o_all, .ref h_o_text, .ref h_o_saved, .ref h_o_undone, .int o_undos, .int o_reached, .int o_length, .int o_begin, .int o_letters, .int o_sort, .long o_word, .int o_wrongAt, .int o_badAt, .int o_bad, .ref h_o_told, .ref h_o_shift, .int o_firstX, .int o_firstY, .int o_secondX, .int o_secondY, .ref h_o_rootOf, .ref h_o_becomes, .ref h_o_comes, .ref h_o_next, .int o_x])), (h_o_rootOf, .inl (ca 0, 64, .inl q137.2)), (h_o_all, .inl (ca 0, 350, .inl o_all_r)), (h_o_shift, .inl (ca 3, 768, .inl q6)), (h_o_plans, .inl (ca 0, 80, .inl o_plans_r))] := hD
    have hf := Option.some.inj hf
    subst hf
    rw [eG0] at hG
    have hG : _ = res := hG
    subst hG
    exact W.iret (v := q137.1) hx hb hr (fun t ht hW => ⟨⟨q137.1, (), rfl, rfl, by rw [ht]; exact (hP.sub [0, 2, 4, 3, 1] rfl), (hD.sub [0, 2, 4, 3, 1] rfl rfl)⟩, hS.F ht⟩) hS.2.2 dX8_count_140
  replace hf := ds_f c_10_10 hf
  by_cases c_10_11 : p1 = 11
  · replace hf := ds_t c_10_11 hf
    refine lv_tableIn (off := 131) (tgt := 141) hx hb dX8_count_10 (by rw [c_10_11]; decide) (by rw [c_10_11]; decide) (by rw [c_10_11]; decide) (by decide) ?_
    refine lv_aload_n hx hb dX8_count_141 rfl (lv_at hl 0 rfl) ?_
    obtain ⟨q142, hq142, hf⟩ := ds_ob hf
    refine ds_calli (wr := [(h_o_rootOf, .inl (ca 0, 64, .inl o_rootOf_r)), (h_o_plans, .inl (ca 0, 80, .inl o_plans_r)), (h_o_shift, .inl (ca 3, 768, .inl q6))]) (va_runV (As := []) (rest := []) ⟨hx, hb, hml, hown, hts⟩ (c_X8_coloursThere l dC dI ca sa h_o h_o_plans h_o_makers h_o_halves h_o_all h_o_text h_o_saved h_o_undone h_o_told h_o_shift h_o_rootOf h_o_becomes h_o_comes h_o_next H.size (0 : Int32) o_undos o_reached o_length o_begin o_letters o_sort o_word o_wrongAt o_badAt o_bad o_firstX o_firstY o_secondX o_secondY o_x o_all_r  q142 hq142) (cwV 0 hts (ds_gV kw_776 kw_777 kw_778 kw_597 kw_779) rfl rfl rfl (by decide +kernel) ⟨Nat.le_of_ble_eq_true rfl, Nat.le_of_ble_eq_true rfl⟩) ⟨ds_blind, va_recv hK hP (ci := 7) (q0 := 1) rfl rfl, ds_at hP hD hK hE hS hA [1, 2] rfl rfl _⟩ rfl rfl hl.1 rfl (lv_room (Nat.le_of_ble_eq_true rfl)) dX8_count_142 ⟨Nat.zero_le _, Nat.zero_le _⟩) hP hD hS hA [1, 2] [0, 3, 4] rfl rfl rfl (by decide) (fun H locs hP hD hS => ?_)
    have hP : va_P (dC, dI) vwCl [(h_o_rootOf, .inl (ca 0, 64, .inl o_rootOf_r)), (h_o_plans, .inl (ca 0, 80, .inl o_plans_r)), (h_o_shift, .inl (ca 3, 768, .inl q6)), (h_o, .inr (7, [.ref h_o_plans, .ref h_o_makers, .ref h_o_halves, .int (0 : Int32), .ref h_o_all, .ref h_o_text, .ref h_o_saved, .ref h_o_undone, .int o_undos, .int o_reached, .int o_length, .int o_begin, .int o_letters, .int o_sort, .long o_word, .int o_wrongAt, .int o_badAt, .int o_bad, .ref h_o_told, .ref h_o_shift, .int o_firstX, .int o_firstY, .int o_secondX, .int o_secondY, .ref h_o_rootOf, .ref h_o_becomes, .ref h_o_comes, .ref h_o_next, .int o_x])), (h_o_all, .inl (ca 0, 350, .inl o_all_r))] H := hP
    have hD : va_D A [(h_o_rootOf, .inl (ca 0, 64, .inl o_rootOf_r)), (h_o_plans, .inl (ca 0, 80, .inl o_plans_r)), (h_o_shift, .inl (ca 3, 768, .inl q6)), (h_o, .inr (7, [.ref h_o_plans, .ref h_o_makers, .ref h_o_halves, .int (0 : Int32), .ref h_o_all, .ref h_o_text, .ref h_o_saved, .ref h_o_undone, .int o_undos, .int o_reached, .int o_length, .int o_begin, .int o_letters, .int o_sort, .long o_word, .int o_wrongAt, .int o_badAt, .int o_bad, .ref h_o_told, .ref h_o_shift, .int o_firstX, .int o_firstY, .int o_secondX, .int o_secondY, .ref h_o_rootOf, .ref h_o_becomes, .ref h_o_comes, .ref h_o_next, .int o_x])), (h_o_all, .inl (ca 0, 350, .inl o_all_r))] := hD
    obtain ⟨q145, hq145, hf⟩ := ds_ob hf
    refine ds_calli (wr := [(h_o_rootOf, .inl (ca 0, 64, .inl o_rootOf_r)), (h_o_plans, .inl (ca 0, 80, .inl o_plans_r)), (h_o_shift, .inl (ca 3, 768, .inl q6)), (h_o, .inr (7, [.ref h_o_plans, .ref h_o_makers, .ref h_o_halves, .int (0 : Int32), .ref h_o_all, .ref h_o_text, .ref h_o_saved, .ref h_o_undone, .int o_undos, .int o_reached, .int o_length, .int o_begin, .int o_letters, .int o_sort, .long o_word, .int o_wrongAt, .int o_badAt, .int o_bad, .ref h_o_told, .ref h_o_shift, .int o_firstX, .int o_firstY, .int o_secondX, .int o_secondY, .ref h_o_rootOf, .ref h_o_becomes, .ref h_o_comes, .ref h_o_next, .int o_x])), (h_o_all, .inl (ca 0, 350, .inl o_all_r))]) (va_runS (As := [.int q142]) (rest := []) ⟨hx, hb, hml, hown, hts⟩ (c_X8_ones l dC dI ca sa  H.size  q142 q145 hq145) (va_cwS 1 hts (ds_gS kw_780 kw_781 kw_597 kw_782) rfl rfl rfl (by decide +kernel) ⟨Nat.le_of_ble_eq_true rfl, Nat.le_of_ble_eq_true rfl⟩) ⟨ds_blind, ds_at hP hD hK hE hS hA [] rfl rfl _⟩ rfl rfl hl.1 rfl (lv_room (Nat.le_of_ble_eq_true rfl)) dX8_count_145 ⟨Nat.zero_le _, Nat.zero_le _⟩) hP hD hS hA [] [0, 1, 2, 3, 4] rfl rfl rfl (by decide) (fun H locs hP hD hS => ?_)
    have hP : va_P (dC, dI) vwCl [(h_o_rootOf, .inl (ca 0, 64, .inl o_rootOf_r)), (h_o_plans, .inl (ca 0, 80, .inl o_plans_r)), (h_o_shift, .inl (ca 3, 768, .inl q6)), (h_o, .inr (7, [.ref h_o_plans, .ref h_o_makers, .ref h_o_halves, .int (0 : Int32), .ref h_o_all, .ref h_o_text, .ref h_o_saved, .ref h_o_undone, .int o_undos, .int o_reached, .int o_length, .int o_begin, .int o_letters, .int o_sort, .long o_word, .int o_wrongAt, .int o_badAt, .int o_bad, .ref h_o_told, .ref h_o_shift, .int o_firstX, .int o_firstY, .int o_secondX, .int o_secondY, .ref h_o_rootOf, .ref h_o_becomes, .ref h_o_comes, .ref h_o_next, .int o_x])), (h_o_all, .inl (ca 0, 350, .inl o_all_r))] H := hP
    have hD : va_D A [(h_o_rootOf, .inl (ca 0, 64, .inl o_rootOf_r)), (h_o_plans, .inl (ca 0, 80, .inl o_plans_r)), (h_o_shift, .inl (ca 3, 768, .inl q6)), (h_o, .inr (7, [.ref h_o_plans, .ref h_o_makers, .ref h_o_halves, .int (0 : Int32), .ref h_o_all, .ref h_o_text, .ref h_o_saved, .ref h_o_undone, .int o_undos, .int o_reached, .int o_length, .int o_begin, .int o_letters, .int o_sort, .long o_word, .int o_wrongAt, .int o_badAt, .int o_bad, .ref h_o_told, .ref h_o_shift, .int o_firstX, .int o_firstY, .int o_secondX, .int o_secondY, .ref h_o_rootOf, .ref h_o_becomes, .ref h_o_comes, .ref h_o_next, .int o_x])), (h_o_all, .inl (ca 0, 350, .inl o_all_r))] := hD
    have hf := Option.some.inj hf
    subst hf
    rw [eG0] at hG
    have hG : _ = res := hG
    subst hG
    exact W.iret (v := q145) hx hb hr (fun t ht hW => ⟨⟨q145, (), rfl, rfl, by rw [ht]; exact (hP.sub [3, 4, 1, 2, 0] rfl), (hD.sub [3, 4, 1, 2, 0] rfl rfl)⟩, hS.F ht⟩) hS.2.2 dX8_count_148
  replace hf := ds_f c_10_11 hf
  by_cases c_10_12 : p1 = 12
  · replace hf := ds_t c_10_12 hf
    refine lv_tableIn (off := 139) (tgt := 149) hx hb dX8_count_10 (by rw [c_10_12]; decide) (by rw [c_10_12]; decide) (by rw [c_10_12]; decide) (by decide) ?_
    refine lv_aload_n hx hb dX8_count_149 rfl (lv_at hl 0 rfl) ?_
    refine va_get (D := (dC, dI)) (ci := 7) (v := .int o_undos) (C := RX8) (T := TX8) (N := 29) hx hb hts (fun w h => List.mem_cons_of_mem _ (kc_X8 w h)) hown hK hP 1 rfl rfl 8 (by decide) (hg kw_645) (fun _ h9 => h9) rfl dX8_count_150 ?_
    have hf := Option.some.inj hf
    subst hf
    rw [eG0] at hG
    have hG : _ = res := hG
    subst hG
    exact W.iret (v := o_undos) hx hb hr (fun t ht hW => ⟨⟨o_undos, (), rfl, rfl, by rw [ht]; exact (hP.sub [1, 2, 3, 4, 0] rfl), (hD.sub [1, 2, 3, 4, 0] rfl rfl)⟩, hS.F ht⟩) hS.2.2 dX8_count_153
  replace hf := ds_f c_10_12 hf
  by_cases c_10_13 : p1 = 13
  · replace hf := ds_t c_10_13 hf
    refine lv_tableIn (off := 144) (tgt := 154) hx hb dX8_count_10 (by rw [c_10_13]; decide) (by rw [c_10_13]; decide) (by rw [c_10_13]; decide) (by decide) ?_
    refine lv_aload_n hx hb dX8_count_154 rfl (lv_at hl 0 rfl) ?_
    refine va_get (D := (dC, dI)) (ci := 7) (v := .ref h_o_all) (C := RX8) (T := TX8) (N := 29) hx hb hts (fun w h => List.mem_cons_of_mem _ (kc_X8 w h)) hown hK hP 1 rfl rfl 4 (by decide) (hg kw_594) (fun _ h9 => h9) rfl dX8_count_155 ?_
    refine lv_bipush (v := 67) hx hb dX8_count_158 (by decide) ?_
    refine va_iald hx hb hK hP 2 0 rfl rfl (ds_in_ok (i := 67) (n := 350) (by decide)) dX8_count_160 ?_
    have hf := Option.some.inj hf
    subst hf
    rw [eG0] at hG
    have hG : _ = res := hG
    subst hG
    exact W.iret (v := (o_all_r (67 : Int32).toNatClampNeg)) hx hb hr (fun t ht hW => ⟨⟨(o_all_r (67 : Int32).toNatClampNeg), (), rfl, rfl, by rw [ht]; exact (hP.sub [1, 2, 3, 4, 0] rfl), (hD.sub [1, 2, 3, 4, 0] rfl rfl)⟩, hS.F ht⟩) hS.2.2 dX8_count_161
  replace hf := ds_f c_10_13 hf
  by_cases c_10_14 : p1 = 14
  · replace hf := ds_t c_10_14 hf
    refine lv_tableIn (off := 152) (tgt := 162) hx hb dX8_count_10 (by rw [c_10_14]; decide) (by rw [c_10_14]; decide) (by rw [c_10_14]; decide) (by decide) ?_
    refine lv_aload_n hx hb dX8_count_162 rfl (lv_at hl 0 rfl) ?_
    obtain ⟨q163, hq163, hf⟩ := ds_ob hf
    refine ds_calli (wr := [(h_o_rootOf, .inl (ca 0, 64, .inl o_rootOf_r)), (h_o_plans, .inl (ca 0, 80, .inl o_plans_r))]) (va_runV (As := []) (rest := []) ⟨hx, hb, hml, hown, hts⟩ (c_X8_turnBits l dC dI ca sa h_o h_o_plans h_o_makers h_o_halves h_o_all h_o_text h_o_saved h_o_undone h_o_told h_o_shift h_o_rootOf h_o_becomes h_o_comes h_o_next H.size (0 : Int32) o_undos o_reached o_length o_begin o_letters o_sort o_word o_wrongAt o_badAt o_bad o_firstX o_firstY o_secondX o_secondY o_x o_all_r q6  q163 hq163) (cwV 0 hts (ds_gV kw_783 kw_784 kw_785 kw_597 kw_786) rfl rfl rfl (by decide +kernel) ⟨Nat.le_of_ble_eq_true rfl, Nat.le_of_ble_eq_true rfl⟩) ⟨ds_blind, va_recv hK hP (ci := 7) (q0 := 1) rfl rfl, ds_at hP hD hK hE hS hA [1, 2, 4] rfl rfl _⟩ rfl rfl hl.1 rfl (lv_room (Nat.le_of_ble_eq_true rfl)) dX8_count_163 ⟨Nat.zero_le _, Nat.zero_le _⟩) hP hD hS hA [1, 2, 4] [0, 3] rfl rfl rfl (by decide) (fun H locs hP hD hS => ?_)
    have hP : va_P (dC, dI) vwCl [(h_o_rootOf, .inl (ca 0, 64, .inl o_rootOf_r)), (h_o_plans, .inl (ca 0, 80, .inl o_plans_r)), (h_o, .inr (7, [.ref h_o_plans, .ref h_o_makers, .ref h_o_halves, .int (0 : Int32), .ref h_o_all, .ref h_o_text, .ref h_o_saved, .ref h_o_undone, .int o_undos, .int o_reached, .int o_length, .int o_begin, .int o_letters, .int o_sort, .long o_word, .int o_wrongAt, .int o_badAt, .int o_bad, .ref h_o_told, .ref h_o_shift, .int o_firstX, .int o_firstY, .int o_secondX, .int o_secondY, .ref h_o_rootOf, .ref h_o_becomes, .ref h_o_comes, .ref h_o_next, .int o_x])), (h_o_all, .inl (ca 0, 350, .inl o_all_r)), (h_o_shift, .inl (ca 3, 768, .inl q6))] H := hP
    have hD : va_D A [(h_o_rootOf, .inl (ca 0, 64, .inl o_rootOf_r)), (h_o_plans, .inl (ca 0, 80, .inl o_plans_r)), (h_o, .inr (7, [.ref h_o_plans, .ref h_o_makers, .ref h_o_halves, .int (0 : Int32), .ref h_o_all, .ref h_o_text, .ref h_o_saved, .ref h_o_undone, .int o_undos, .int o_reached, .int o_length, .int o_begin, .int o_letters, .int o_sort, .long o_word, .int o_wrongAt, .int o_badAt, .int o_bad, .ref h_o_told, .ref h_o_shift, .int o_firstX, .int o_firstY, .int o_secondX, .int o_secondY, .ref h_o_rootOf, .ref h_o_becomes, .ref h_o_comes, .ref h_o_next, .int o_x])), (h_o_all, .inl (ca 0, 350, .inl o_all_r)), (h_o_shift, .inl (ca 3, 768, .inl q6))] := hD
    have hf := Option.some.inj hf
    subst hf
    rw [eG0] at hG
    have hG : _ = res := hG
    subst hG
    exact W.iret (v := q163) hx hb hr (fun t ht hW => ⟨⟨q163, (), rfl, rfl, by rw [ht]; exact (hP.sub [2, 3, 1, 4, 0] rfl), (hD.sub [2, 3, 1, 4, 0] rfl rfl)⟩, hS.F ht⟩) hS.2.2 dX8_count_166
  replace hf := ds_f c_10_14 hf
  have n_10_0 := ds_toInt_ne c_10_0
  have n_10_1 := ds_toInt_ne c_10_1
  have n_10_2 := ds_toInt_ne c_10_2
  have n_10_3 := ds_toInt_ne c_10_3
  have n_10_4 := ds_toInt_ne c_10_4
  have n_10_5 := ds_toInt_ne c_10_5
  have n_10_6 := ds_toInt_ne c_10_6
  have n_10_7 := ds_toInt_ne c_10_7
  have n_10_8 := ds_toInt_ne c_10_8
  have n_10_9 := ds_toInt_ne c_10_9
  have n_10_10 := ds_toInt_ne c_10_10
  have n_10_11 := ds_toInt_ne c_10_11
  have n_10_12 := ds_toInt_ne c_10_12
  have n_10_13 := ds_toInt_ne c_10_13
  have n_10_14 := ds_toInt_ne c_10_14
  refine lv_tableOut (tgt := 167) hx hb dX8_count_10 (by rw [show (0 : Int32).toInt = 0 by decide] at n_10_0; rw [show (1 : Int32).toInt = 1 by decide] at n_10_1; rw [show (2 : Int32).toInt = 2 by decide] at n_10_2; rw [show (3 : Int32).toInt = 3 by decide] at n_10_3; rw [show (4 : Int32).toInt = 4 by decide] at n_10_4; rw [show (5 : Int32).toInt = 5 by decide] at n_10_5; rw [show (6 : Int32).toInt = 6 by decide] at n_10_6; rw [show (7 : Int32).toInt = 7 by decide] at n_10_7; rw [show (8 : Int32).toInt = 8 by decide] at n_10_8; rw [show (9 : Int32).toInt = 9 by decide] at n_10_9; rw [show (10 : Int32).toInt = 10 by decide] at n_10_10; rw [show (11 : Int32).toInt = 11 by decide] at n_10_11; rw [show (12 : Int32).toInt = 12 by decide] at n_10_12; rw [show (13 : Int32).toInt = 13 by decide] at n_10_13; rw [show (14 : Int32).toInt = 14 by decide] at n_10_14; omega) (by decide) ?_
  refine lv_iload_n hx hb dX8_count_167 rfl (lv_at hl 1 rfl) ?_
  refine lv_bipush (v := 20) hx hb dX8_count_168 (by decide) ?_
  refine lv_bipush (v := 23) hx hb dX8_count_170 (by decide) ?_
  obtain ⟨q172, hq172, hf⟩ := ds_ob hf
  refine ds_calli (wr := [(h_o_rootOf, .inl (ca 0, 64, .inl o_rootOf_r)), (h_o, .inr (7, [.ref h_o_plans, .ref h_o_makers, .ref h_o_halves, .int (0 : Int32), .ref h_o_all, .ref h_o_text, .ref h_o_saved, .ref h_o_undone, .int o_undos, .int o_reached, .int o_length, .int o_begin, .int o_letters, .int o_sort, .long o_word, .int o_wrongAt, .int o_badAt, .int o_bad, .ref h_o_told, .ref h_o_shift, .int o_firstX, .int o_firstY, .int o_secondX, .int o_secondY, .ref h_o_rootOf, .ref h_o_becomes, .ref h_o_comes, .ref h_o_next, .int o_x])), (h_o_all, .inl (ca 0, 350, .inl o_all_r)), (h_o_plans, .inl (ca 0, 80, .inl o_plans_r)), (h_o_shift, .inl (ca 3, 768, .inl q6))]) (va_runS (As := [.int p1, .int (20 : Int32), .int (23 : Int32)]) (rest := []) ⟨hx, hb, hml, hown, hts⟩ (c_X8_in l dC dI ca sa  H.size  p1 (20 : Int32) (23 : Int32) q172 hq172) (va_cwS 3 hts (ds_gS kw_619 kw_620 kw_597 kw_621) rfl rfl rfl (by decide +kernel) ⟨Nat.le_of_ble_eq_true rfl, Nat.le_of_ble_eq_true rfl⟩) ⟨ds_blind, ds_at hP hD hK hE hS hA [] rfl rfl _⟩ rfl rfl hl.1 rfl (lv_room (Nat.le_of_ble_eq_true rfl)) dX8_count_172 ⟨Nat.zero_le _, Nat.zero_le _⟩) hP hD hS hA [] [0, 1, 2, 3, 4] rfl rfl rfl (by decide) (fun H locs hP hD hS => ?_)
  have hP : va_P (dC, dI) vwCl [(h_o_rootOf, .inl (ca 0, 64, .inl o_rootOf_r)), (h_o, .inr (7, [.ref h_o_plans, .ref h_o_makers, .ref h_o_halves, .int (0 : Int32), .ref h_o_all, .ref h_o_text, .ref h_o_saved, .ref h_o_undone, .int o_undos, .int o_reached, .int o_length, .int o_begin, .int o_letters, .int o_sort, .long o_word, .int o_wrongAt, .int o_badAt, .int o_bad, .ref h_o_told, .ref h_o_shift, .int o_firstX, .int o_firstY, .int o_secondX, .int o_secondY, .ref h_o_rootOf, .ref h_o_becomes, .ref h_o_comes, .ref h_o_next, .int o_x])), (h_o_all, .inl (ca 0, 350, .inl o_all_r)), (h_o_plans, .inl (ca 0, 80, .inl o_plans_r)), (h_o_shift, .inl (ca 3, 768, .inl q6))] H := hP
  have hD : va_D A [(h_o_rootOf, .inl (ca 0, 64, .inl o_rootOf_r)), (h_o, .inr (7, [.ref h_o_plans, .ref h_o_makers, .ref h_o_halves, .int (0 : Int32), .ref h_o_all, .ref h_o_text, .ref h_o_saved, .ref h_o_undone, .int o_undos, .int o_reached, .int o_length, .int o_begin, .int o_letters, .int o_sort, .long o_word, .int o_wrongAt, .int o_badAt, .int o_bad, .ref h_o_told, .ref h_o_shift, .int o_firstX, .int o_firstY, .int o_secondX, .int o_secondY, .ref h_o_rootOf, .ref h_o_becomes, .ref h_o_comes, .ref h_o_next, .int o_x])), (h_o_all, .inl (ca 0, 350, .inl o_all_r)), (h_o_plans, .inl (ca 0, 80, .inl o_plans_r)), (h_o_shift, .inl (ca 3, 768, .inl q6))] := hD
  refine lv_if_eq (tgt := 189) hx hb dX8_count_175 (by decide) (fun c_175 => ?_) (fun c_175 => ?_)
  · replace hf := ds_t c_175 hf
    refine lv_iconst (v := -1) hx hb dX8_count_189 (by decide) ?_
    have hf := Option.some.inj hf
    subst hf
    rw [eG0] at hG
    have hG : _ = res := hG
    subst hG
    exact W.iret (v := (-1 : Int32)) hx hb hr (fun t ht hW => ⟨⟨(-1 : Int32), (), rfl, rfl, by rw [ht]; exact (hP.sub [1, 2, 3, 4, 0] rfl), (hD.sub [1, 2, 3, 4, 0] rfl rfl)⟩, hS.F ht⟩) hS.2.2 dX8_count_190
  · replace hf := ds_f c_175 hf
    refine lv_aload_n hx hb dX8_count_178 rfl (lv_at hl 0 rfl) ?_
    refine lv_iload_n hx hb dX8_count_179 rfl (lv_at hl 1 rfl) ?_
    refine lv_bipush (v := 20) hx hb dX8_count_180 (by decide) ?_
    refine lv_isub hx hb dX8_count_182 ?_
    obtain ⟨q183, hq183, hf⟩ := ds_ob hf
    refine ds_calli (wr := [(h_o_rootOf, .inl (ca 0, 64, .inl o_rootOf_r)), (h_o_plans, .inl (ca 0, 80, .inl o_plans_r)), (h_o_shift, .inl (ca 3, 768, .inl q6))]) (va_runV (As := [.int (p1 - (20 : Int32))]) (rest := []) ⟨hx, hb, hml, hown, hts⟩ (c_X8_cellsOf l dC dI ca sa h_o h_o_plans h_o_makers h_o_halves h_o_all h_o_text h_o_saved h_o_undone h_o_told h_o_shift h_o_rootOf h_o_becomes h_o_comes h_o_next H.size (0 : Int32) o_undos o_reached o_length o_begin o_letters o_sort o_word o_wrongAt o_badAt o_bad o_firstX o_firstY o_secondX o_secondY o_x o_all_r (p1 - (20 : Int32)) q183 hq183) (cwV 1 hts (ds_gV kw_787 kw_788 kw_789 kw_597 kw_790) rfl rfl rfl (by decide +kernel) ⟨Nat.le_of_ble_eq_true rfl, Nat.le_of_ble_eq_true rfl⟩) ⟨ds_blind, va_recv hK hP (ci := 7) (q0 := 1) rfl rfl, ds_at hP hD hK hE hS hA [1, 2] rfl rfl _⟩ rfl rfl hl.1 rfl (lv_room (Nat.le_of_ble_eq_true rfl)) dX8_count_183 ⟨Nat.zero_le _, Nat.zero_le _⟩) hP hD hS hA [1, 2] [0, 3, 4] rfl rfl rfl (by decide) (fun H locs hP hD hS => ?_)
    have hP : va_P (dC, dI) vwCl [(h_o_rootOf, .inl (ca 0, 64, .inl o_rootOf_r)), (h_o_plans, .inl (ca 0, 80, .inl o_plans_r)), (h_o_shift, .inl (ca 3, 768, .inl q6)), (h_o, .inr (7, [.ref h_o_plans, .ref h_o_makers, .ref h_o_halves, .int (0 : Int32), .ref h_o_all, .ref h_o_text, .ref h_o_saved, .ref h_o_undone, .int o_undos, .int o_reached, .int o_length, .int o_begin, .int o_letters, .int o_sort, .long o_word, .int o_wrongAt, .int o_badAt, .int o_bad, .ref h_o_told, .ref h_o_shift, .int o_firstX, .int o_firstY, .int o_secondX, .int o_secondY, .ref h_o_rootOf, .ref h_o_becomes, .ref h_o_comes, .ref h_o_next, .int o_x])), (h_o_all, .inl (ca 0, 350, .inl o_all_r))] H := hP
    have hD : va_D A [(h_o_rootOf, .inl (ca 0, 64, .inl o_rootOf_r)), (h_o_plans, .inl (ca 0, 80, .inl o_plans_r)), (h_o_shift, .inl (ca 3, 768, .inl q6)), (h_o, .inr (7, [.ref h_o_plans, .ref h_o_makers, .ref h_o_halves, .int (0 : Int32), .ref h_o_all, .ref h_o_text, .ref h_o_saved, .ref h_o_undone, .int o_undos, .int o_reached, .int o_length, .int o_begin, .int o_letters, .int o_sort, .long o_word, .int o_wrongAt, .int o_badAt, .int o_bad, .ref h_o_told, .ref h_o_shift, .int o_firstX, .int o_firstY, .int o_secondX, .int o_secondY, .ref h_o_rootOf, .ref h_o_becomes, .ref h_o_comes, .ref h_o_next, .int o_x])), (h_o_all, .inl (ca 0, 350, .inl o_all_r))] := hD
    refine lv_goto (tgt := 190) hx hb dX8_count_186 (by decide) ?_
    have hf := Option.some.inj hf
    subst hf
    rw [eG0] at hG
    have hG : _ = res := hG
    subst hG
    exact W.iret (v := q183) hx hb hr (fun t ht hW => ⟨⟨q183, (), rfl, rfl, by rw [ht]; exact (hP.sub [3, 4, 1, 2, 0] rfl), (hD.sub [3, 4, 1, 2, 0] rfl rfl)⟩, hS.F ht⟩) hS.2.2 dX8_count_190
theorem dX8_step_0 : decode cX8_step 0 = .ok (.aload_n 0, 1) := by decide +kernel
theorem dX8_step_1 : decode cX8_step 1 = .ok (.iload_n 2, 1) := by decide +kernel
theorem dX8_step_2 : decode cX8_step 2 = .ok (.iconst 0, 1) := by decide +kernel
theorem dX8_step_3 : decode cX8_step 3 = .ok (.iconst 2, 1) := by decide +kernel
theorem dX8_step_4 : decode cX8_step 4 = .ok (.invokestatic 90, 3) := by decide +kernel
theorem dX8_step_7 : decode cX8_step 7 = .ok (.ifCond .eq 7, 3) := by decide +kernel
theorem dX8_step_10 : decode cX8_step 10 = .ok (.iconst 0, 1) := by decide +kernel
theorem dX8_step_11 : decode cX8_step 11 = .ok (.goto 4, 3) := by decide +kernel
theorem dX8_step_14 : decode cX8_step 14 = .ok (.iconst 1, 1) := by decide +kernel
theorem dX8_step_15 : decode cX8_step 15 = .ok (.putfield 51, 3) := by decide +kernel
theorem dX8_step_18 : decode cX8_step 18 = .ok (.aload_n 0, 1) := by decide +kernel
theorem dX8_step_19 : decode cX8_step 19 = .ok (.getfield 51, 3) := by decide +kernel
theorem dX8_step_22 : decode cX8_step 22 = .ok (.ifCond .le 5, 3) := by decide +kernel
theorem dX8_step_25 : decode cX8_step 25 = .ok (.iconst 0, 1) := by decide +kernel
theorem dX8_step_26 : decode cX8_step 26 = .ok (.ireturn, 1) := by decide +kernel
theorem dX8_step_27 : decode cX8_step 27 = .ok (.aload_n 0, 1) := by decide +kernel
theorem dX8_step_28 : decode cX8_step 28 = .ok (.invokevirtual 227, 3) := by decide +kernel
theorem dX8_step_31 : decode cX8_step 31 = .ok (.aload_n 0, 1) := by decide +kernel
theorem dX8_step_32 : decode cX8_step 32 = .ok (.invokevirtual 192, 3) := by decide +kernel
theorem dX8_step_35 : decode cX8_step 35 = .ok (.iload_n 1, 1) := by decide +kernel
theorem dX8_step_36 : decode cX8_step 36 = .ok (.ifCond .eq 10, 3) := by decide +kernel
theorem dX8_step_39 : decode cX8_step 39 = .ok (.aload_n 0, 1) := by decide +kernel
theorem dX8_step_40 : decode cX8_step 40 = .ok (.getfield 157, 3) := by decide +kernel
theorem dX8_step_43 : decode cX8_step 43 = .ok (.goto 7, 3) := by decide +kernel
theorem dX8_step_46 : decode cX8_step 46 = .ok (.aload_n 0, 1) := by decide +kernel
theorem dX8_step_47 : decode cX8_step 47 = .ok (.getfield 151, 3) := by decide +kernel
theorem dX8_step_50 : decode cX8_step 50 = .ok (.istore_n 3, 1) := by decide +kernel
theorem dX8_step_51 : decode cX8_step 51 = .ok (.iload_n 1, 1) := by decide +kernel
theorem dX8_step_52 : decode cX8_step 52 = .ok (.ifCond .eq 10, 3) := by decide +kernel
theorem dX8_step_55 : decode cX8_step 55 = .ok (.aload_n 0, 1) := by decide +kernel
theorem dX8_step_56 : decode cX8_step 56 = .ok (.getfield 160, 3) := by decide +kernel
theorem dX8_step_59 : decode cX8_step 59 = .ok (.goto 7, 3) := by decide +kernel
theorem dX8_step_62 : decode cX8_step 62 = .ok (.aload_n 0, 1) := by decide +kernel
theorem dX8_step_63 : decode cX8_step 63 = .ok (.getfield 154, 3) := by decide +kernel
theorem dX8_step_66 : decode cX8_step 66 = .ok (.istore 4, 2) := by decide +kernel
theorem dX8_step_68 : decode cX8_step 68 = .ok (.iload_n 2, 1) := by decide +kernel
theorem dX8_step_69 : decode cX8_step 69 = .ok (.ifCond .ne 7, 3) := by decide +kernel
theorem dX8_step_72 : decode cX8_step 72 = .ok (.iload_n 3, 1) := by decide +kernel
theorem dX8_step_73 : decode cX8_step 73 = .ok (.goto 20, 3) := by decide +kernel
theorem dX8_step_76 : decode cX8_step 76 = .ok (.iload_n 2, 1) := by decide +kernel
theorem dX8_step_77 : decode cX8_step 77 = .ok (.iconst 1, 1) := by decide +kernel
theorem dX8_step_78 : decode cX8_step 78 = .ok (.if_icmp .ne 8, 3) := by decide +kernel
theorem dX8_step_81 : decode cX8_step 81 = .ok (.iload 4, 2) := by decide +kernel
theorem dX8_step_83 : decode cX8_step 83 = .ok (.goto 10, 3) := by decide +kernel
theorem dX8_step_86 : decode cX8_step 86 = .ok (.aload_n 0, 1) := by decide +kernel
theorem dX8_step_87 : decode cX8_step 87 = .ok (.iload_n 3, 1) := by decide +kernel
theorem dX8_step_88 : decode cX8_step 88 = .ok (.iload 4, 2) := by decide +kernel
theorem dX8_step_90 : decode cX8_step 90 = .ok (.invokevirtual 148, 3) := by decide +kernel
theorem dX8_step_93 : decode cX8_step 93 = .ok (.ireturn, 1) := by decide +kernel
def fX8_step_66 (o_raised : Int32) (o_firstX : Int32) (o_firstY : Int32) (o_secondX : Int32) (o_secondY : Int32) (o_all_r : Nat → Int32) (o_shift_r : Nat → Int32) (p2 : Int32) (v3 : Int32) (s0 : Int32) : Option (Int32 × Int32 × Int32 × Int32 × Int32 × Int32 × (Nat → Int32)) :=
  if p2 = 0 then some (v3, o_raised, o_firstX, o_firstY, o_secondX, o_secondY, o_shift_r) else if p2 = (1 : Int32) then some (s0, o_raised, o_firstX, o_firstY, o_secondX, o_secondY, o_shift_r) else Option.bind (fX8_longOf o_all_r v3 s0) fun q90 => some (q90, o_raised, o_firstX, o_firstY, o_secondX, o_secondY, o_shift_r)
def fX8_step_50 (o_raised : Int32) (o_firstX : Int32) (o_firstY : Int32) (o_secondX : Int32) (o_secondY : Int32) (o_all_r : Nat → Int32) (o_shift_r : Nat → Int32) (p1 : Int32) (p2 : Int32) (s0 : Int32) : Option (Int32 × Int32 × Int32 × Int32 × Int32 × Int32 × (Nat → Int32)) :=
  if p1 = 0 then fX8_step_66 o_raised o_firstX o_firstY o_secondX o_secondY o_all_r o_shift_r p2 s0 o_firstY else fX8_step_66 o_raised o_firstX o_firstY o_secondX o_secondY o_all_r o_shift_r p2 s0 o_secondY
def fX8_step_15 (o_firstX : Int32) (o_firstY : Int32) (o_secondX : Int32) (o_secondY : Int32) (o_all_r : Nat → Int32) (o_plans_r : Nat → Int32) (o_shift_r : Nat → Int32) (p1 : Int32) (p2 : Int32) (s0 : Int32) : Option (Int32 × Int32 × Int32 × Int32 × Int32 × Int32 × (Nat → Int32)) :=
  if s0 ≤ 0 then Option.bind (fX8_laysShifts o_all_r o_plans_r o_shift_r) fun q28 => Option.bind (fX8_laysSteps o_all_r q28) fun q32 => if p1 = 0 then fX8_step_50 s0 q32.1 q32.2.1 q32.2.2.1 q32.2.2.2 o_all_r q28 p1 p2 q32.1 else fX8_step_50 s0 q32.1 q32.2.1 q32.2.2.1 q32.2.2.2 o_all_r q28 p1 p2 q32.2.2.1 else some ((0 : Int32), s0, o_firstX, o_firstY, o_secondX, o_secondY, o_shift_r)
def fX8_step (o_firstX : Int32) (o_firstY : Int32) (o_secondX : Int32) (o_secondY : Int32) (o_all_r : Nat → Int32) (o_plans_r : Nat → Int32) (o_shift_r : Nat → Int32) (p1 : Int32) (p2 : Int32) : Option (Int32 × Int32 × Int32 × Int32 × Int32 × Int32 × (Nat → Int32)) :=
  Option.bind (fX8_in p2 (0 : Int32) (2 : Int32)) fun q4 => if q4 = 0 then fX8_step_15 o_firstX o_firstY o_secondX o_secondY o_all_r o_plans_r o_shift_r p1 p2 (1 : Int32) else fX8_step_15 o_firstX o_firstY o_secondX o_secondY o_all_r o_plans_r o_shift_r p1 p2 (0 : Int32)
set_option maxHeartbeats 4000000 in
set_option maxRecDepth 100000 in
theorem c_X8_step (l : Launch) (dC : Nat → ClassId) (dI : Nat → Nat → Nat) (ca : Nat → ClassId) (sa : Nat → Nat) (h_o : Nat) (h_o_plans : Nat) (h_o_makers : Nat) (h_o_halves : Nat) (h_o_all : Nat) (h_o_text : Nat) (h_o_saved : Nat) (h_o_undone : Nat) (h_o_told : Nat) (h_o_shift : Nat) (h_o_rootOf : Nat) (h_o_becomes : Nat) (h_o_comes : Nat) (h_o_next : Nat) (sz : Nat) (o_raised : Int32) (o_undos : Int32) (o_reached : Int32) (o_length : Int32) (o_begin : Int32) (o_letters : Int32) (o_sort : Int32) (o_word : Int64) (o_wrongAt : Int32) (o_badAt : Int32) (o_bad : Int32) (o_firstX : Int32) (o_firstY : Int32) (o_secondX : Int32) (o_secondY : Int32) (o_x : Int32) (o_all_r : Nat → Int32) (o_plans_r : Nat → Int32) (o_shift_r : Nat → Int32) (p1 : Int32) (p2 : Int32) (res : Int32 × Int32 × Int32 × Int32 × Int32 × Int32 × (Nat → Int32)) (hf : fX8_step o_firstX o_firstY o_secondX o_secondY o_all_r o_plans_r o_shift_r p1 p2 = some res) : Met l yX8_step (Cond.code yX8_step cX8_step 5 (some .int) :: ds_gw) { frames := 5, cells := 0, slots := 0, locals := 115 } (va_Pc [.ref h_o, .int p1, .int p2] (ds_Pre dC dI ca sa [(h_o, .inr (7, [.ref h_o_plans, .ref h_o_makers, .ref h_o_halves, .int o_raised, .ref h_o_all, .ref h_o_text, .ref h_o_saved, .ref h_o_undone, .int o_undos, .int o_reached, .int o_length, .int o_begin, .int o_letters, .int o_sort, .long o_word, .int o_wrongAt, .int o_badAt, .int o_bad, .ref h_o_told, .ref h_o_shift, .int o_firstX, .int o_firstY, .int o_secondX, .int o_secondY, .ref h_o_rootOf, .ref h_o_becomes, .ref h_o_comes, .ref h_o_next, .int o_x])), (h_o_all, .inl (ca 0, 350, .inl o_all_r)), (h_o_plans, .inl (ca 0, 80, .inl o_plans_r)), (h_o_shift, .inl (ca 3, 768, .inl o_shift_r))] sz)) (va_Qi (fun r (_ : Unit) => r = res.1) (ds_B dC dI (va_A [(h_o, .inr (7, [.ref h_o_plans, .ref h_o_makers, .ref h_o_halves, .int o_raised, .ref h_o_all, .ref h_o_text, .ref h_o_saved, .ref h_o_undone, .int o_undos, .int o_reached, .int o_length, .int o_begin, .int o_letters, .int o_sort, .long o_word, .int o_wrongAt, .int o_badAt, .int o_bad, .ref h_o_told, .ref h_o_shift, .int o_firstX, .int o_firstY, .int o_secondX, .int o_secondY, .ref h_o_rootOf, .ref h_o_becomes, .ref h_o_comes, .ref h_o_next, .int o_x])), (h_o_all, .inl (ca 0, 350, .inl o_all_r)), (h_o_plans, .inl (ca 0, 80, .inl o_plans_r)), (h_o_shift, .inl (ca 3, 768, .inl o_shift_r))] sz) [(h_o, .inr (7, [.ref h_o_plans, .ref h_o_makers, .ref h_o_halves, .int res.2.1, .ref h_o_all, .ref h_o_text, .ref h_o_saved, .ref h_o_undone, .int o_undos, .int o_reached, .int o_length, .int o_begin, .int o_letters, .int o_sort, .long o_word, .int o_wrongAt, .int o_badAt, .int o_bad, .ref h_o_told, .ref h_o_shift, .int res.2.2.1, .int res.2.2.2.1, .int res.2.2.2.2.1, .int res.2.2.2.2.2.1, .ref h_o_rootOf, .ref h_o_becomes, .ref h_o_comes, .ref h_o_next, .int o_x])), (h_o_all, .inl (ca 0, 350, .inl o_all_r)), (h_o_plans, .inl (ca 0, 80, .inl o_plans_r)), (h_o_shift, .inl (ca 3, 768, .inl res.2.2.2.2.2.2))]) (va_A [(h_o, .inr (7, [.ref h_o_plans, .ref h_o_makers, .ref h_o_halves, .int o_raised, .ref h_o_all, .ref h_o_text, .ref h_o_saved, .ref h_o_undone, .int o_undos, .int o_reached, .int o_length, .int o_begin, .int o_letters, .int o_sort, .long o_word, .int o_wrongAt, .int o_badAt, .int o_bad, .ref h_o_told, .ref h_o_shift, .int o_firstX, .int o_firstY, .int o_secondX, .int o_secondY, .ref h_o_rootOf, .ref h_o_becomes, .ref h_o_comes, .ref h_o_next, .int o_x])), (h_o_all, .inl (ca 0, 350, .inl o_all_r)), (h_o_plans, .inl (ca 0, 80, .inl o_plans_r)), (h_o_shift, .inl (ca 3, 768, .inl o_shift_r))] sz)) 0 0 (va_A [(h_o, .inr (7, [.ref h_o_plans, .ref h_o_makers, .ref h_o_halves, .int o_raised, .ref h_o_all, .ref h_o_text, .ref h_o_saved, .ref h_o_undone, .int o_undos, .int o_reached, .int o_length, .int o_begin, .int o_letters, .int o_sort, .long o_word, .int o_wrongAt, .int o_badAt, .int o_bad, .ref h_o_told, .ref h_o_shift, .int o_firstX, .int o_firstY, .int o_secondX, .int o_secondY, .ref h_o_rootOf, .ref h_o_becomes, .ref h_o_comes, .ref h_o_next, .int o_x])), (h_o_all, .inl (ca 0, 350, .inl o_all_r)), (h_o_plans, .inl (ca 0, 80, .inl o_plans_r)), (h_o_shift, .inl (ca 3, 768, .inl o_shift_r))] sz) := by
  refine Met.ofW (cc := cX8_step) (maxL := 5) (ret := (some .int)) (by decide) rfl ?_
  intro p e s m args below meth c s₁ B hml hv
  obtain ⟨rfl, hsz, hP, hK, hD0, hE⟩ := hv
  have hx := B.exec
  have hb := B.bytes
  have hr := B.returns
  have hts := atoms_spec (ws := Cond.code yX8_step cX8_step 5 (some .int) :: ds_gw) B.pre
  have hg : ∀ {w : Cond}, w ∈ ds_gw → w.before _ s = true := fun h => hts _ (List.mem_cons_of_mem _ h)
  have hown : s.vm.findClass RX8 = some m.cls := findClass_of_methodNamed B.named
  have hlocks := B.notSynchronized
  subst hsz
  have hD := hD0.self (sz := s.heap.size)
  generalize hAe : va_A [(h_o, .inr (7, [.ref h_o_plans, .ref h_o_makers, .ref h_o_halves, .int o_raised, .ref h_o_all, .ref h_o_text, .ref h_o_saved, .ref h_o_undone, .int o_undos, .int o_reached, .int o_length, .int o_begin, .int o_letters, .int o_sort, .long o_word, .int o_wrongAt, .int o_badAt, .int o_bad, .ref h_o_told, .ref h_o_shift, .int o_firstX, .int o_firstY, .int o_secondX, .int o_secondY, .ref h_o_rootOf, .ref h_o_becomes, .ref h_o_comes, .ref h_o_next, .int o_x])), (h_o_all, .inl (ca 0, 350, .inl o_all_r)), (h_o_plans, .inl (ca 0, 80, .inl o_plans_r)), (h_o_shift, .inl (ca 3, 768, .inl o_shift_r))] s.heap.size = A at hD hE ⊢
  have hA : ∀ q : Nat, s.heap.size ≤ q → A q := fun q h => by rw [← hAe]; exact Or.inr h
  have hS : va_S A s.heap s.heap [] := va_S.rf
  have hl := lv_entry ([.ref h_o, .int p1, .int p2]) (n := 5) (Nat.le_of_ble_eq_true rfl)
  rw [lg_entry_eq]
  generalize (lg_sl ([.ref h_o, .int p1, .int p2]) ++ List.replicate (5 - (lg_sl ([.ref h_o, .int p1, .int p2])).length) Slot.unset).toArray = ls at hl ⊢
  have hl : lv_has ls 5 [(0, .ref h_o), (1, .int p1), (2, .int p2)] := hl
  obtain ⟨G0, eG0⟩ : ∃ G : (Int32 × Int32 × Int32 × Int32 × Int32 × Int32 × (Nat → Int32)) → Prop, G = (fun r => r = res) := ⟨_, rfl⟩
  obtain ⟨rr, hrr⟩ : ∃ z, z = res := ⟨_, rfl⟩
  rw [← hrr] at hf
  have hG : G0 rr := by subst eG0; exact hrr
  refine ds_cap (fun WW h1 h2 => ?_)
  have J_66 : ∀ (v3 : Int32) (s0 : Int32) (o_raised : Int32) (o_firstX : Int32) (o_firstY : Int32) (o_secondX : Int32) (o_secondY : Int32) (o_shift_r : Nat → Int32) (rr : Int32 × Int32 × Int32 × Int32 × Int32 × Int32 × (Nat → Int32)) (hf : fX8_step_66 o_raised o_firstX o_firstY o_secondX o_secondY o_all_r o_shift_r p2 v3 s0 = some rr) (hG : G0 rr) (H : Heap) (locs : List Loc) (hP : va_P (dC, dI) vwCl [(h_o, .inr (7, [.ref h_o_plans, .ref h_o_makers, .ref h_o_halves, .int o_raised, .ref h_o_all, .ref h_o_text, .ref h_o_saved, .ref h_o_undone, .int o_undos, .int o_reached, .int o_length, .int o_begin, .int o_letters, .int o_sort, .long o_word, .int o_wrongAt, .int o_badAt, .int o_bad, .ref h_o_told, .ref h_o_shift, .int o_firstX, .int o_firstY, .int o_secondX, .int o_secondY, .ref h_o_rootOf, .ref h_o_becomes, .ref h_o_comes, .ref h_o_next, .int o_x])), (h_o_all, .inl (ca 0, 350, .inl o_all_r)), (h_o_plans, .inl (ca 0, 80, .inl o_plans_r)), (h_o_shift, .inl (ca 3, 768, .inl o_shift_r))] H) (hD : va_D A [(h_o, .inr (7, [.ref h_o_plans, .ref h_o_makers, .ref h_o_halves, .int o_raised, .ref h_o_all, .ref h_o_text, .ref h_o_saved, .ref h_o_undone, .int o_undos, .int o_reached, .int o_length, .int o_begin, .int o_letters, .int o_sort, .long o_word, .int o_wrongAt, .int o_badAt, .int o_bad, .ref h_o_told, .ref h_o_shift, .int o_firstX, .int o_firstY, .int o_secondX, .int o_secondY, .ref h_o_rootOf, .ref h_o_becomes, .ref h_o_comes, .ref h_o_next, .int o_x])), (h_o_all, .inl (ca 0, 350, .inl o_all_r)), (h_o_plans, .inl (ca 0, 80, .inl o_plans_r)), (h_o_shift, .inl (ca 3, 768, .inl o_shift_r))]) (hS : va_S A s.heap H locs) (ls : Array Slot) (hl : lv_has ls 5 [(0, .ref h_o), (2, .int p2), (3, .int v3)]), WW H locs (F0 m 66 ls [.int s0]) := by
    intro v3 s0 o_raised o_firstX o_firstY o_secondX o_secondY o_shift_r rr hf hG H locs hP hD hS ls hl
    refine h2 ?_
    unfold fX8_step_66 at hf
    refine lv_istore (lv' := [(4, .int s0), (0, .ref h_o), (2, .int p2), (3, .int v3)]) hx hb dX8_step_66 hl (by decide) rfl (fun ls hl => ?_)
    refine lv_iload_n hx hb dX8_step_68 rfl (lv_at hl 2 rfl) ?_
    refine lv_if_ne (tgt := 76) hx hb dX8_step_69 (by decide) (fun c_69 => ?_) (fun c_69 => ?_)
    · replace hf := ds_f c_69 hf
      refine lv_iload_n hx hb dX8_step_76 rfl (lv_at hl 2 rfl) ?_
      refine lv_iconst (v := 1) hx hb dX8_step_77 (by decide) ?_
      refine lv_icmp_ne (tgt := 86) hx hb dX8_step_78 (by decide) (fun c_78 => ?_) (fun c_78 => ?_)
      · replace hf := ds_f c_78 hf
        refine lv_aload_n hx hb dX8_step_86 rfl (lv_at hl 1 rfl) ?_
        refine lv_iload_n hx hb dX8_step_87 rfl (lv_at hl 3 rfl) ?_
        refine lv_iload hx hb dX8_step_88 (lv_at hl 0 rfl) ?_
        obtain ⟨q90, hq90, hf⟩ := ds_ob hf
        refine ds_calli (wr := [(h_o_plans, .inl (ca 0, 80, .inl o_plans_r)), (h_o_shift, .inl (ca 3, 768, .inl o_shift_r))]) (va_runV (As := [.int v3, .int s0]) (rest := []) ⟨hx, hb, hml, hown, hts⟩ (c_X8_longOf l dC dI ca sa h_o h_o_plans h_o_makers h_o_halves h_o_all h_o_text h_o_saved h_o_undone h_o_told h_o_shift h_o_rootOf h_o_becomes h_o_comes h_o_next H.size o_raised o_undos o_reached o_length o_begin o_letters o_sort o_word o_wrongAt o_badAt o_bad o_firstX o_firstY o_secondX o_secondY o_x o_all_r v3 s0 q90 hq90) (cwV 2 hts (ds_gV kw_675 kw_676 kw_677 kw_597 kw_678) rfl rfl rfl (by decide +kernel) ⟨Nat.le_of_ble_eq_true rfl, Nat.le_of_ble_eq_true rfl⟩) ⟨ds_blind, va_recv hK hP (ci := 7) (q0 := 0) rfl rfl, ds_at hP hD hK hE hS hA [0, 1] rfl rfl _⟩ rfl rfl hl.1 rfl (lv_room (Nat.le_of_ble_eq_true rfl)) dX8_step_90 ⟨Nat.zero_le _, Nat.zero_le _⟩) hP hD hS hA [0, 1] [2, 3] rfl rfl rfl (by decide) (fun H locs hP hD hS => ?_)
        have hP : va_P (dC, dI) vwCl [(h_o_plans, .inl (ca 0, 80, .inl o_plans_r)), (h_o_shift, .inl (ca 3, 768, .inl o_shift_r)), (h_o, .inr (7, [.ref h_o_plans, .ref h_o_makers, .ref h_o_halves, .int o_raised, .ref h_o_all, .ref h_o_text, .ref h_o_saved, .ref h_o_undone, .int o_undos, .int o_reached, .int o_length, .int o_begin, .int o_letters, .int o_sort, .long o_word, .int o_wrongAt, .int o_badAt, .int o_bad, .ref h_o_told, .ref h_o_shift, .int o_firstX, .int o_firstY, .int o_secondX, .int o_secondY, .ref h_o_rootOf, .ref h_o_becomes, .ref h_o_comes, .ref h_o_next, .int o_x])), (h_o_all, .inl (ca 0, 350, .inl o_all_r))] H := hP
        have hD : va_D A [(h_o_plans, .inl (ca 0, 80, .inl o_plans_r)), (h_o_shift, .inl (ca 3, 768, .inl o_shift_r)), (h_o, .inr (7, [.ref h_o_plans, .ref h_o_makers, .ref h_o_halves, .int o_raised, .ref h_o_all, .ref h_o_text, .ref h_o_saved, .ref h_o_undone, .int o_undos, .int o_reached, .int o_length, .int o_begin, .int o_letters, .int o_sort, .long o_word, .int o_wrongAt, .int o_badAt, .int o_bad, .ref h_o_told, .ref h_o_shift, .int o_firstX, .int o_firstY, .int o_secondX, .int o_secondY, .ref h_o_rootOf, .ref h_o_becomes, .ref h_o_comes, .ref h_o_next, .int o_x])), (h_o_all, .inl (ca 0, 350, .inl o_all_r))] := hD
        have hf := Option.some.inj hf
        subst hf
        rw [eG0] at hG
        have hG : _ = res := hG
        subst hG
        exact W.iret (v := q90) hx hb hr (fun t ht hW => ⟨⟨q90, (), rfl, rfl, by rw [ht]; exact (hP.sub [2, 3, 0, 1] rfl), (hD.sub [2, 3, 0, 1] rfl rfl)⟩, hS.F ht⟩) hS.2.2 dX8_step_93
      · replace hf := ds_t c_78 hf
        refine lv_iload hx hb dX8_step_81 (lv_at hl 0 rfl) ?_
        refine lv_goto (tgt := 93) hx hb dX8_step_83 (by decide) ?_
        have hf := Option.some.inj hf
        subst hf
        rw [eG0] at hG
        have hG : _ = res := hG
        subst hG
        exact W.iret (v := s0) hx hb hr (fun t ht hW => ⟨⟨s0, (), rfl, rfl, by rw [ht]; exact hP, hD⟩, hS.F ht⟩) hS.2.2 dX8_step_93
    · replace hf := ds_t c_69 hf
      refine lv_iload_n hx hb dX8_step_72 rfl (lv_at hl 3 rfl) ?_
      refine lv_goto (tgt := 93) hx hb dX8_step_73 (by decide) ?_
      have hf := Option.some.inj hf
      subst hf
      rw [eG0] at hG
      have hG : _ = res := hG
      subst hG
      exact W.iret (v := v3) hx hb hr (fun t ht hW => ⟨⟨v3, (), rfl, rfl, by rw [ht]; exact hP, hD⟩, hS.F ht⟩) hS.2.2 dX8_step_93
  have J_50 : ∀ (s0 : Int32) (o_raised : Int32) (o_firstX : Int32) (o_firstY : Int32) (o_secondX : Int32) (o_secondY : Int32) (o_shift_r : Nat → Int32) (rr : Int32 × Int32 × Int32 × Int32 × Int32 × Int32 × (Nat → Int32)) (hf : fX8_step_50 o_raised o_firstX o_firstY o_secondX o_secondY o_all_r o_shift_r p1 p2 s0 = some rr) (hG : G0 rr) (H : Heap) (locs : List Loc) (hP : va_P (dC, dI) vwCl [(h_o, .inr (7, [.ref h_o_plans, .ref h_o_makers, .ref h_o_halves, .int o_raised, .ref h_o_all, .ref h_o_text, .ref h_o_saved, .ref h_o_undone, .int o_undos, .int o_reached, .int o_length, .int o_begin, .int o_letters, .int o_sort, .long o_word, .int o_wrongAt, .int o_badAt, .int o_bad, .ref h_o_told, .ref h_o_shift, .int o_firstX, .int o_firstY, .int o_secondX, .int o_secondY, .ref h_o_rootOf, .ref h_o_becomes, .ref h_o_comes, .ref h_o_next, .int o_x])), (h_o_all, .inl (ca 0, 350, .inl o_all_r)), (h_o_plans, .inl (ca 0, 80, .inl o_plans_r)), (h_o_shift, .inl (ca 3, 768, .inl o_shift_r))] H) (hD : va_D A [(h_o, .inr (7, [.ref h_o_plans, .ref h_o_makers, .ref h_o_halves, .int o_raised, .ref h_o_all, .ref h_o_text, .ref h_o_saved, .ref h_o_undone, .int o_undos, .int o_reached, .int o_length, .int o_begin, .int o_letters, .int o_sort, .long o_word, .int o_wrongAt, .int o_badAt, .int o_bad, .ref h_o_told, .ref h_o_shift, .int o_firstX, .int o_firstY, .int o_secondX, .int o_secondY, .ref h_o_rootOf, .ref h_o_becomes, .ref h_o_comes, .ref h_o_next, .int o_x])), (h_o_all, .inl (ca 0, 350, .inl o_all_r)), (h_o_plans, .inl (ca 0, 80, .inl o_plans_r)), (h_o_shift, .inl (ca 3, 768, .inl o_shift_r))]) (hS : va_S A s.heap H locs) (ls : Array Slot) (hl : lv_has ls 5 [(0, .ref h_o), (1, .int p1), (2, .int p2)]), WW H locs (F0 m 50 ls [.int s0]) := by
    intro s0 o_raised o_firstX o_firstY o_secondX o_secondY o_shift_r rr hf hG H locs hP hD hS ls hl
    refine h2 ?_
    unfold fX8_step_50 at hf
    refine lv_istore_n (lv' := [(3, .int s0), (0, .ref h_o), (1, .int p1), (2, .int p2)]) hx hb dX8_step_50 rfl hl (by decide) rfl (fun ls hl => ?_)
    refine lv_iload_n hx hb dX8_step_51 rfl (lv_at hl 2 rfl) ?_
    refine lv_if_eq (tgt := 62) hx hb dX8_step_52 (by decide) (fun c_52 => ?_) (fun c_52 => ?_)
    · replace hf := ds_t c_52 hf
      refine lv_aload_n hx hb dX8_step_62 rfl (lv_at hl 1 rfl) ?_
      refine va_get (D := (dC, dI)) (ci := 7) (v := .int o_firstY) (C := RX8) (T := TX8) (N := 29) hx hb hts (fun w h => List.mem_cons_of_mem _ (kc_X8 w h)) hown hK hP 0 rfl rfl 21 (by decide) (hg kw_685) (fun _ h9 => h9) rfl dX8_step_63 ?_
      exact h1 (J_66 s0 o_firstY o_raised o_firstX o_firstY o_secondX o_secondY o_shift_r _ hf hG _ _ hP hD hS _ (lv_sub hl [1, 3, 0] rfl))
    · replace hf := ds_f c_52 hf
      refine lv_aload_n hx hb dX8_step_55 rfl (lv_at hl 1 rfl) ?_
      refine va_get (D := (dC, dI)) (ci := 7) (v := .int o_secondY) (C := RX8) (T := TX8) (N := 29) hx hb hts (fun w h => List.mem_cons_of_mem _ (kc_X8 w h)) hown hK hP 0 rfl rfl 23 (by decide) (hg kw_680) (fun _ h9 => h9) rfl dX8_step_56 ?_
      refine lv_goto (tgt := 66) hx hb dX8_step_59 (by decide) ?_
      exact h1 (J_66 s0 o_secondY o_raised o_firstX o_firstY o_secondX o_secondY o_shift_r _ hf hG _ _ hP hD hS _ (lv_sub hl [1, 3, 0] rfl))
  have J_15 : ∀ (s0 : Int32) (o_raised : Int32) (o_firstX : Int32) (o_firstY : Int32) (o_secondX : Int32) (o_secondY : Int32) (o_shift_r : Nat → Int32) (rr : Int32 × Int32 × Int32 × Int32 × Int32 × Int32 × (Nat → Int32)) (hf : fX8_step_15 o_firstX o_firstY o_secondX o_secondY o_all_r o_plans_r o_shift_r p1 p2 s0 = some rr) (hG : G0 rr) (H : Heap) (locs : List Loc) (hP : va_P (dC, dI) vwCl [(h_o, .inr (7, [.ref h_o_plans, .ref h_o_makers, .ref h_o_halves, .int o_raised, .ref h_o_all, .ref h_o_text, .ref h_o_saved, .ref h_o_undone, .int o_undos, .int o_reached, .int o_length, .int o_begin, .int o_letters, .int o_sort, .long o_word, .int o_wrongAt, .int o_badAt, .int o_bad, .ref h_o_told, .ref h_o_shift, .int o_firstX, .int o_firstY, .int o_secondX, .int o_secondY, .ref h_o_rootOf, .ref h_o_becomes, .ref h_o_comes, .ref h_o_next, .int o_x])), (h_o_all, .inl (ca 0, 350, .inl o_all_r)), (h_o_plans, .inl (ca 0, 80, .inl o_plans_r)), (h_o_shift, .inl (ca 3, 768, .inl o_shift_r))] H) (hD : va_D A [(h_o, .inr (7, [.ref h_o_plans, .ref h_o_makers, .ref h_o_halves, .int o_raised, .ref h_o_all, .ref h_o_text, .ref h_o_saved, .ref h_o_undone, .int o_undos, .int o_reached, .int o_length, .int o_begin, .int o_letters, .int o_sort, .long o_word, .int o_wrongAt, .int o_badAt, .int o_bad, .ref h_o_told, .ref h_o_shift, .int o_firstX, .int o_firstY, .int o_secondX, .int o_secondY, .ref h_o_rootOf, .ref h_o_becomes, .ref h_o_comes, .ref h_o_next, .int o_x])), (h_o_all, .inl (ca 0, 350, .inl o_all_r)), (h_o_plans, .inl (ca 0, 80, .inl o_plans_r)), (h_o_shift, .inl (ca 3, 768, .inl o_shift_r))]) (hS : va_S A s.heap H locs) (ls : Array Slot) (hl : lv_has ls 5 [(0, .ref h_o), (1, .int p1), (2, .int p2)]), WW H locs (F0 m 15 ls [.int s0, .ref h_o]) := by
    intro s0 o_raised o_firstX o_firstY o_secondX o_secondY o_shift_r rr hf hG H locs hP hD hS ls hl
    refine h2 ?_
    unfold fX8_step_15 at hf
    refine va_put (D := (dC, dI)) (ci := 7) (v := .int s0) (ty := tyX8 3) (C := RX8) (T := TX8) (N := 29) hx hb hts (fun w h => List.mem_cons_of_mem _ (kc_X8 w h)) tyX8 tyX8_ok nmX8 hown hK hP hD hS 0 rfl rfl 3 (by decide) (hg kw_564) (fun _ h9 => h9) rfl (by decide +kernel) rfl rfl (Nat.le_of_ble_eq_true rfl) dX8_step_15 (fun H locs hP hD hS => ?_)
    have hP : va_P (dC, dI) vwCl [(h_o, .inr (7, [.ref h_o_plans, .ref h_o_makers, .ref h_o_halves, .int s0, .ref h_o_all, .ref h_o_text, .ref h_o_saved, .ref h_o_undone, .int o_undos, .int o_reached, .int o_length, .int o_begin, .int o_letters, .int o_sort, .long o_word, .int o_wrongAt, .int o_badAt, .int o_bad, .ref h_o_told, .ref h_o_shift, .int o_firstX, .int o_firstY, .int o_secondX, .int o_secondY, .ref h_o_rootOf, .ref h_o_becomes, .ref h_o_comes, .ref h_o_next, .int o_x])), (h_o_all, .inl (ca 0, 350, .inl o_all_r)), (h_o_plans, .inl (ca 0, 80, .inl o_plans_r)), (h_o_shift, .inl (ca 3, 768, .inl o_shift_r))] H := hP
    have hD : va_D A [(h_o, .inr (7, [.ref h_o_plans, .ref h_o_makers, .ref h_o_halves, .int s0, .ref h_o_all, .ref h_o_text, .ref h_o_saved, .ref h_o_undone, .int o_undos, .int o_reached, .int o_length, .int o_begin, .int o_letters, .int o_sort, .long o_word, .int o_wrongAt, .int o_badAt, .int o_bad, .ref h_o_told, .ref h_o_shift, .int o_firstX, .int o_firstY, .int o_secondX, .int o_secondY, .ref h_o_rootOf, .ref h_o_becomes, .ref h_o_comes, .ref h_o_next, .int o_x])), (h_o_all, .inl (ca 0, 350, .inl o_all_r)), (h_o_plans, .inl (ca 0, 80, .inl o_plans_r)), (h_o_shift, .inl (ca 3, 768, .inl o_shift_r))] := hD
    refine lv_aload_n hx hb dX8_step_18 rfl (lv_at hl 0 rfl) ?_
    refine va_get (D := (dC, dI)) (ci := 7) (v := .int s0) (C := RX8) (T := TX8) (N := 29) hx hb hts (fun w h => List.mem_cons_of_mem _ (kc_X8 w h)) hown hK hP 0 rfl rfl 3 (by decide) (hg kw_564) (fun _ h9 => h9) rfl dX8_step_19 ?_
    refine lv_if_le (tgt := 27) hx hb dX8_step_22 (by decide) (fun c_22 => ?_) (fun c_22 => ?_)
    · replace hf := ds_t c_22 hf
      refine lv_aload_n hx hb dX8_step_27 rfl (lv_at hl 0 rfl) ?_
      obtain ⟨q28, hq28, hf⟩ := ds_ob hf
      refine ds_callv (wr := []) (va_runV (As := []) (rest := []) ⟨hx, hb, hml, hown, hts⟩ (c_X8_laysShifts l dC dI ca sa h_o h_o_plans h_o_makers h_o_halves h_o_all h_o_text h_o_saved h_o_undone h_o_told h_o_shift h_o_rootOf h_o_becomes h_o_comes h_o_next H.size s0 o_undos o_reached o_length o_begin o_letters o_sort o_word o_wrongAt o_badAt o_bad o_firstX o_firstY o_secondX o_secondY o_x o_all_r o_plans_r o_shift_r  q28 hq28) (cwV 0 hts (ds_gV kw_764 kw_765 kw_766 kw_597 kw_767) rfl rfl rfl (by decide +kernel) ⟨Nat.le_of_ble_eq_true rfl, Nat.le_of_ble_eq_true rfl⟩) ⟨ds_blind, va_recv hK hP (ci := 7) (q0 := 0) rfl rfl, ds_at hP hD hK hE hS hA [0, 1, 2, 3] rfl rfl _⟩ rfl rfl hl.1 rfl (lv_room (Nat.le_of_ble_eq_true rfl)) dX8_step_28 ⟨Nat.zero_le _, Nat.zero_le _⟩) hP hD hS hA [0, 1, 2, 3] [] rfl rfl rfl (by decide) (fun H locs hP hD hS => ?_)
      have hP : va_P (dC, dI) vwCl [(h_o, .inr (7, [.ref h_o_plans, .ref h_o_makers, .ref h_o_halves, .int s0, .ref h_o_all, .ref h_o_text, .ref h_o_saved, .ref h_o_undone, .int o_undos, .int o_reached, .int o_length, .int o_begin, .int o_letters, .int o_sort, .long o_word, .int o_wrongAt, .int o_badAt, .int o_bad, .ref h_o_told, .ref h_o_shift, .int o_firstX, .int o_firstY, .int o_secondX, .int o_secondY, .ref h_o_rootOf, .ref h_o_becomes, .ref h_o_comes, .ref h_o_next, .int o_x])), (h_o_all, .inl (ca 0, 350, .inl o_all_r)), (h_o_plans, .inl (ca 0, 80, .inl o_plans_r)), (h_o_shift, .inl (ca 3, 768, .inl q28))] H := hP
      have hD : va_D A [(h_o, .inr (7, [.ref h_o_plans, .ref h_o_makers, .ref h_o_halves, .int s0, .ref h_o_all, .ref h_o_text, .ref h_o_saved, .ref h_o_undone, .int o_undos, .int o_reached, .int o_length, .int o_begin, .int o_letters, .int o_sort, .long o_word, .int o_wrongAt, .int o_badAt, .int o_bad, .ref h_o_told, .ref h_o_shift, .int o_firstX, .int o_firstY, .int o_secondX, .int o_secondY, .ref h_o_rootOf, .ref h_o_becomes, .ref h_o_comes, .ref h_o_next, .int o_x])), (h_o_all, .inl (ca 0, 350, .inl o_all_r)), (h_o_plans, .inl (ca 0, 80, .inl o_plans_r)), (h_o_shift, .inl (ca 3, 768, .inl q28))] := hD
      refine lv_aload_n hx hb dX8_step_31 rfl (lv_at hl 0 rfl) ?_
      obtain ⟨q32, hq32, hf⟩ := ds_ob hf
      refine ds_callv (wr := [(h_o_plans, .inl (ca 0, 80, .inl o_plans_r))]) (va_runV (As := []) (rest := []) ⟨hx, hb, hml, hown, hts⟩ (c_X8_laysSteps l dC dI ca sa h_o h_o_plans h_o_makers h_o_halves h_o_all h_o_text h_o_saved h_o_undone h_o_told h_o_shift h_o_rootOf h_o_becomes h_o_comes h_o_next H.size s0 o_undos o_reached o_length o_begin o_letters o_sort o_word o_wrongAt o_badAt o_bad o_firstX o_firstY o_secondX o_secondY o_x o_all_r q28  q32 hq32) (cwV 0 hts (ds_gV kw_719 kw_720 kw_721 kw_597 kw_722) rfl rfl rfl (by decide +kernel) ⟨Nat.le_of_ble_eq_true rfl, Nat.le_of_ble_eq_true rfl⟩) ⟨ds_blind, va_recv hK hP (ci := 7) (q0 := 0) rfl rfl, ds_at hP hD hK hE hS hA [0, 1, 3] rfl rfl _⟩ rfl rfl hl.1 rfl (lv_room (Nat.le_of_ble_eq_true rfl)) dX8_step_32 ⟨Nat.zero_le _, Nat.zero_le _⟩) hP hD hS hA [0, 1, 3] [2] rfl rfl rfl (by decide) (fun H locs hP hD hS => ?_)
      have hP : va_P (dC, dI) vwCl [(h_o_plans, .inl (ca 0, 80, .inl o_plans_r)), (h_o, .inr (7, [.ref h_o_plans, .ref h_o_makers, .ref h_o_halves, .int s0, .ref h_o_all, .ref h_o_text, .ref h_o_saved, .ref h_o_undone, .int o_undos, .int o_reached, .int o_length, .int o_begin, .int o_letters, .int o_sort, .long o_word, .int o_wrongAt, .int o_badAt, .int o_bad, .ref h_o_told, .ref h_o_shift, .int q32.1, .int q32.2.1, .int q32.2.2.1, .int q32.2.2.2, .ref h_o_rootOf, .ref h_o_becomes, .ref h_o_comes, .ref h_o_next, .int o_x])), (h_o_all, .inl (ca 0, 350, .inl o_all_r)), (h_o_shift, .inl (ca 3, 768, .inl q28))] H := hP
      have hD : va_D A [(h_o_plans, .inl (ca 0, 80, .inl o_plans_r)), (h_o, .inr (7, [.ref h_o_plans, .ref h_o_makers, .ref h_o_halves, .int s0, .ref h_o_all, .ref h_o_text, .ref h_o_saved, .ref h_o_undone, .int o_undos, .int o_reached, .int o_length, .int o_begin, .int o_letters, .int o_sort, .long o_word, .int o_wrongAt, .int o_badAt, .int o_bad, .ref h_o_told, .ref h_o_shift, .int q32.1, .int q32.2.1, .int q32.2.2.1, .int q32.2.2.2, .ref h_o_rootOf, .ref h_o_becomes, .ref h_o_comes, .ref h_o_next, .int o_x])), (h_o_all, .inl (ca 0, 350, .inl o_all_r)), (h_o_shift, .inl (ca 3, 768, .inl q28))] := hD
      refine lv_iload_n hx hb dX8_step_35 rfl (lv_at hl 1 rfl) ?_
      refine lv_if_eq (tgt := 46) hx hb dX8_step_36 (by decide) (fun c_36 => ?_) (fun c_36 => ?_)
      · replace hf := ds_t c_36 hf
        refine lv_aload_n hx hb dX8_step_46 rfl (lv_at hl 0 rfl) ?_
        refine va_get (D := (dC, dI)) (ci := 7) (v := .int q32.1) (C := RX8) (T := TX8) (N := 29) hx hb hts (fun w h => List.mem_cons_of_mem _ (kc_X8 w h)) hown hK hP 1 rfl rfl 20 (by decide) (hg kw_686) (fun _ h9 => h9) rfl dX8_step_47 ?_
        exact h1 (J_50 q32.1 s0 q32.1 q32.2.1 q32.2.2.1 q32.2.2.2 q28 _ hf hG _ _ (hP.sub [1, 2, 0, 3] rfl) (hD.sub [1, 2, 0, 3] rfl rfl) hS _ (lv_sub hl [0, 1, 2] rfl))
      · replace hf := ds_f c_36 hf
        refine lv_aload_n hx hb dX8_step_39 rfl (lv_at hl 0 rfl) ?_
        refine va_get (D := (dC, dI)) (ci := 7) (v := .int q32.2.2.1) (C := RX8) (T := TX8) (N := 29) hx hb hts (fun w h => List.mem_cons_of_mem _ (kc_X8 w h)) hown hK hP 1 rfl rfl 22 (by decide) (hg kw_679) (fun _ h9 => h9) rfl dX8_step_40 ?_
        refine lv_goto (tgt := 50) hx hb dX8_step_43 (by decide) ?_
        exact h1 (J_50 q32.2.2.1 s0 q32.1 q32.2.1 q32.2.2.1 q32.2.2.2 q28 _ hf hG _ _ (hP.sub [1, 2, 0, 3] rfl) (hD.sub [1, 2, 0, 3] rfl rfl) hS _ (lv_sub hl [0, 1, 2] rfl))
    · replace hf := ds_f c_22 hf
      refine lv_iconst (v := 0) hx hb dX8_step_25 (by decide) ?_
      have hf := Option.some.inj hf
      subst hf
      rw [eG0] at hG
      have hG : _ = res := hG
      subst hG
      exact W.iret (v := (0 : Int32)) hx hb hr (fun t ht hW => ⟨⟨(0 : Int32), (), rfl, rfl, by rw [ht]; exact hP, hD⟩, hS.F ht⟩) hS.2.2 dX8_step_26
  unfold fX8_step at hf
  refine lv_aload_n hx hb dX8_step_0 rfl (lv_at hl 0 rfl) ?_
  refine lv_iload_n hx hb dX8_step_1 rfl (lv_at hl 2 rfl) ?_
  refine lv_iconst (v := 0) hx hb dX8_step_2 (by decide) ?_
  refine lv_iconst (v := 2) hx hb dX8_step_3 (by decide) ?_
  obtain ⟨q4, hq4, hf⟩ := ds_ob hf
  refine ds_calli (wr := [(h_o, .inr (7, [.ref h_o_plans, .ref h_o_makers, .ref h_o_halves, .int o_raised, .ref h_o_all, .ref h_o_text, .ref h_o_saved, .ref h_o_undone, .int o_undos, .int o_reached, .int o_length, .int o_begin, .int o_letters, .int o_sort, .long o_word, .int o_wrongAt, .int o_badAt, .int o_bad, .ref h_o_told, .ref h_o_shift, .int o_firstX, .int o_firstY, .int o_secondX, .int o_secondY, .ref h_o_rootOf, .ref h_o_becomes, .ref h_o_comes, .ref h_o_next, .int o_x])), (h_o_all, .inl (ca 0, 350, .inl o_all_r)), (h_o_plans, .inl (ca 0, 80, .inl o_plans_r)), (h_o_shift, .inl (ca 3, 768, .inl o_shift_r))]) (va_runS (As := [.int p2, .int (0 : Int32), .int (2 : Int32)]) (rest := [.ref h_o]) ⟨hx, hb, hml, hown, hts⟩ (c_X8_in l dC dI ca sa  s.heap.size  p2 (0 : Int32) (2 : Int32) q4 hq4) (va_cwS 3 hts (ds_gS kw_619 kw_620 kw_597 kw_621) rfl rfl rfl (by decide +kernel) ⟨Nat.le_of_ble_eq_true rfl, Nat.le_of_ble_eq_true rfl⟩) ⟨ds_blind, ds_at hP hD hK hE hS hA [] rfl rfl _⟩ rfl rfl hl.1 rfl (lv_room (Nat.le_of_ble_eq_true rfl)) dX8_step_4 ⟨Nat.zero_le _, Nat.zero_le _⟩) hP hD hS hA [] [0, 1, 2, 3] rfl rfl rfl (by decide) (fun H locs hP hD hS => ?_)
  have hP : va_P (dC, dI) vwCl [(h_o, .inr (7, [.ref h_o_plans, .ref h_o_makers, .ref h_o_halves, .int o_raised, .ref h_o_all, .ref h_o_text, .ref h_o_saved, .ref h_o_undone, .int o_undos, .int o_reached, .int o_length, .int o_begin, .int o_letters, .int o_sort, .long o_word, .int o_wrongAt, .int o_badAt, .int o_bad, .ref h_o_told, .ref h_o_shift, .int o_firstX, .int o_firstY, .int o_secondX, .int o_secondY, .ref h_o_rootOf, .ref h_o_becomes, .ref h_o_comes, .ref h_o_next, .int o_x])), (h_o_all, .inl (ca 0, 350, .inl o_all_r)), (h_o_plans, .inl (ca 0, 80, .inl o_plans_r)), (h_o_shift, .inl (ca 3, 768, .inl o_shift_r))] H := hP
  have hD : va_D A [(h_o, .inr (7, [.ref h_o_plans, .ref h_o_makers, .ref h_o_halves, .int o_raised, .ref h_o_all, .ref h_o_text, .ref h_o_saved, .ref h_o_undone, .int o_undos, .int o_reached, .int o_length, .int o_begin, .int o_letters, .int o_sort, .long o_word, .int o_wrongAt, .int o_badAt, .int o_bad, .ref h_o_told, .ref h_o_shift, .int o_firstX, .int o_firstY, .int o_secondX, .int o_secondY, .ref h_o_rootOf, .ref h_o_becomes, .ref h_o_comes, .ref h_o_next, .int o_x])), (h_o_all, .inl (ca 0, 350, .inl o_all_r)), (h_o_plans, .inl (ca 0, 80, .inl o_plans_r)), (h_o_shift, .inl (ca 3, 768, .inl o_shift_r))] := hD
  refine lv_if_eq (tgt := 14) hx hb dX8_step_7 (by decide) (fun c_7 => ?_) (fun c_7 => ?_)
  · replace hf := ds_t c_7 hf
    refine lv_iconst (v := 1) hx hb dX8_step_14 (by decide) ?_
    exact h1 (J_15 (1 : Int32) o_raised o_firstX o_firstY o_secondX o_secondY o_shift_r _ hf hG _ _ hP hD hS _ (lv_sub hl [0, 1, 2] rfl))
  · replace hf := ds_f c_7 hf
    refine lv_iconst (v := 0) hx hb dX8_step_10 (by decide) ?_
    refine lv_goto (tgt := 15) hx hb dX8_step_11 (by decide) ?_
    exact h1 (J_15 (0 : Int32) o_raised o_firstX o_firstY o_secondX o_secondY o_shift_r _ hf hG _ _ hP hD hS _ (lv_sub hl [0, 1, 2] rfl))
theorem dX8_shifts_0 : decode cX8_shifts 0 = .ok (.aload_n 0, 1) := by decide +kernel
theorem dX8_shifts_1 : decode cX8_shifts 1 = .ok (.iconst 0, 1) := by decide +kernel
theorem dX8_shifts_2 : decode cX8_shifts 2 = .ok (.putfield 51, 3) := by decide +kernel
theorem dX8_shifts_5 : decode cX8_shifts 5 = .ok (.iload_n 1, 1) := by decide +kernel
theorem dX8_shifts_6 : decode cX8_shifts 6 = .ok (.iconst 0, 1) := by decide +kernel
theorem dX8_shifts_7 : decode cX8_shifts 7 = .ok (.aload_n 0, 1) := by decide +kernel
theorem dX8_shifts_8 : decode cX8_shifts 8 = .ok (.invokevirtual 62, 3) := by decide +kernel
theorem dX8_shifts_11 : decode cX8_shifts 11 = .ok (.iconst 1, 1) := by decide +kernel
theorem dX8_shifts_12 : decode cX8_shifts 12 = .ok (.isub, 1) := by decide +kernel
theorem dX8_shifts_13 : decode cX8_shifts 13 = .ok (.invokestatic 90, 3) := by decide +kernel
theorem dX8_shifts_16 : decode cX8_shifts 16 = .ok (.ifCond .eq 12, 3) := by decide +kernel
theorem dX8_shifts_19 : decode cX8_shifts 19 = .ok (.iload_n 3, 1) := by decide +kernel
theorem dX8_shifts_20 : decode cX8_shifts 20 = .ok (.iconst 0, 1) := by decide +kernel
theorem dX8_shifts_21 : decode cX8_shifts 21 = .ok (.iconst 1, 1) := by decide +kernel
theorem dX8_shifts_22 : decode cX8_shifts 22 = .ok (.invokestatic 90, 3) := by decide +kernel
theorem dX8_shifts_25 : decode cX8_shifts 25 = .ok (.ifCond .ne 6, 3) := by decide +kernel
theorem dX8_shifts_28 : decode cX8_shifts 28 = .ok (.bipush (-2), 2) := by decide +kernel
theorem dX8_shifts_30 : decode cX8_shifts 30 = .ok (.ireturn, 1) := by decide +kernel
theorem dX8_shifts_31 : decode cX8_shifts 31 = .ok (.aload_n 0, 1) := by decide +kernel
theorem dX8_shifts_32 : decode cX8_shifts 32 = .ok (.invokevirtual 227, 3) := by decide +kernel
theorem dX8_shifts_35 : decode cX8_shifts 35 = .ok (.iload_n 2, 1) := by decide +kernel
theorem dX8_shifts_36 : decode cX8_shifts 36 = .ok (.iconst (-1), 1) := by decide +kernel
theorem dX8_shifts_37 : decode cX8_shifts 37 = .ok (.if_icmp .ne 18, 3) := by decide +kernel
theorem dX8_shifts_40 : decode cX8_shifts 40 = .ok (.iload_n 3, 1) := by decide +kernel
theorem dX8_shifts_41 : decode cX8_shifts 41 = .ok (.ifCond .ne 11, 3) := by decide +kernel
theorem dX8_shifts_44 : decode cX8_shifts 44 = .ok (.aload_n 0, 1) := by decide +kernel
theorem dX8_shifts_45 : decode cX8_shifts 45 = .ok (.iload_n 1, 1) := by decide +kernel
theorem dX8_shifts_46 : decode cX8_shifts 46 = .ok (.invokevirtual 167, 3) := by decide +kernel
theorem dX8_shifts_49 : decode cX8_shifts 49 = .ok (.goto 5, 3) := by decide +kernel
theorem dX8_shifts_52 : decode cX8_shifts 52 = .ok (.bipush (-2), 2) := by decide +kernel
theorem dX8_shifts_54 : decode cX8_shifts 54 = .ok (.ireturn, 1) := by decide +kernel
theorem dX8_shifts_55 : decode cX8_shifts 55 = .ok (.iconst 0, 1) := by decide +kernel
theorem dX8_shifts_56 : decode cX8_shifts 56 = .ok (.istore 4, 2) := by decide +kernel
theorem dX8_shifts_58 : decode cX8_shifts 58 = .ok (.iconst 0, 1) := by decide +kernel
theorem dX8_shifts_59 : decode cX8_shifts 59 = .ok (.istore 5, 2) := by decide +kernel
theorem dX8_shifts_61 : decode cX8_shifts 61 = .ok (.iload 5, 2) := by decide +kernel
theorem dX8_shifts_63 : decode cX8_shifts 63 = .ok (.aload_n 0, 1) := by decide +kernel
theorem dX8_shifts_64 : decode cX8_shifts 64 = .ok (.getfield 19, 3) := by decide +kernel
theorem dX8_shifts_67 : decode cX8_shifts 67 = .ok (.iconst 1, 1) := by decide +kernel
theorem dX8_shifts_68 : decode cX8_shifts 68 = .ok (.iaload, 1) := by decide +kernel
theorem dX8_shifts_69 : decode cX8_shifts 69 = .ok (.if_icmp .ge 71, 3) := by decide +kernel
theorem dX8_shifts_72 : decode cX8_shifts 72 = .ok (.iconst 0, 1) := by decide +kernel
theorem dX8_shifts_73 : decode cX8_shifts 73 = .ok (.istore 6, 2) := by decide +kernel
theorem dX8_shifts_75 : decode cX8_shifts 75 = .ok (.iload 6, 2) := by decide +kernel
theorem dX8_shifts_77 : decode cX8_shifts 77 = .ok (.aload_n 0, 1) := by decide +kernel
theorem dX8_shifts_78 : decode cX8_shifts 78 = .ok (.getfield 19, 3) := by decide +kernel
theorem dX8_shifts_81 : decode cX8_shifts 81 = .ok (.iconst 0, 1) := by decide +kernel
theorem dX8_shifts_82 : decode cX8_shifts 82 = .ok (.iaload, 1) := by decide +kernel
theorem dX8_shifts_83 : decode cX8_shifts 83 = .ok (.if_icmp .ge 51, 3) := by decide +kernel
theorem dX8_shifts_86 : decode cX8_shifts 86 = .ok (.aload_n 0, 1) := by decide +kernel
theorem dX8_shifts_87 : decode cX8_shifts 87 = .ok (.getfield 36, 3) := by decide +kernel
theorem dX8_shifts_90 : decode cX8_shifts 90 = .ok (.bipush 64, 2) := by decide +kernel
theorem dX8_shifts_92 : decode cX8_shifts 92 = .ok (.iload_n 1, 1) := by decide +kernel
theorem dX8_shifts_93 : decode cX8_shifts 93 = .ok (.imul, 1) := by decide +kernel
theorem dX8_shifts_94 : decode cX8_shifts 94 = .ok (.bipush 8, 2) := by decide +kernel
theorem dX8_shifts_96 : decode cX8_shifts 96 = .ok (.iload 5, 2) := by decide +kernel
theorem dX8_shifts_98 : decode cX8_shifts 98 = .ok (.imul, 1) := by decide +kernel
theorem dX8_shifts_99 : decode cX8_shifts 99 = .ok (.iadd, 1) := by decide +kernel
theorem dX8_shifts_100 : decode cX8_shifts 100 = .ok (.iload 6, 2) := by decide +kernel
theorem dX8_shifts_102 : decode cX8_shifts 102 = .ok (.iadd, 1) := by decide +kernel
theorem dX8_shifts_103 : decode cX8_shifts 103 = .ok (.baload, 1) := by decide +kernel
theorem dX8_shifts_104 : decode cX8_shifts 104 = .ok (.ifCond .eq 24, 3) := by decide +kernel
theorem dX8_shifts_107 : decode cX8_shifts 107 = .ok (.iload 4, 2) := by decide +kernel
theorem dX8_shifts_109 : decode cX8_shifts 109 = .ok (.iload_n 2, 1) := by decide +kernel
theorem dX8_shifts_110 : decode cX8_shifts 110 = .ok (.if_icmp .ne 15, 3) := by decide +kernel
theorem dX8_shifts_113 : decode cX8_shifts 113 = .ok (.iload_n 3, 1) := by decide +kernel
theorem dX8_shifts_114 : decode cX8_shifts 114 = .ok (.ifCond .ne 8, 3) := by decide +kernel
theorem dX8_shifts_117 : decode cX8_shifts 117 = .ok (.iload 6, 2) := by decide +kernel
theorem dX8_shifts_119 : decode cX8_shifts 119 = .ok (.goto 5, 3) := by decide +kernel
theorem dX8_shifts_122 : decode cX8_shifts 122 = .ok (.iload 5, 2) := by decide +kernel
theorem dX8_shifts_124 : decode cX8_shifts 124 = .ok (.ireturn, 1) := by decide +kernel
theorem dX8_shifts_125 : decode cX8_shifts 125 = .ok (.iinc 4 1, 3) := by decide +kernel
theorem dX8_shifts_128 : decode cX8_shifts 128 = .ok (.iinc 6 1, 3) := by decide +kernel
theorem dX8_shifts_131 : decode cX8_shifts 131 = .ok (.goto (-56), 3) := by decide +kernel
theorem dX8_shifts_134 : decode cX8_shifts 134 = .ok (.iinc 5 1, 3) := by decide +kernel
theorem dX8_shifts_137 : decode cX8_shifts 137 = .ok (.goto (-76), 3) := by decide +kernel
theorem dX8_shifts_140 : decode cX8_shifts 140 = .ok (.bipush (-2), 2) := by decide +kernel
theorem dX8_shifts_142 : decode cX8_shifts 142 = .ok (.ireturn, 1) := by decide +kernel
def fX8_shifts_113 (o_raised : Int32) (o_shift_r : Nat → Int32) (p3 : Int32) (v5 : Int32) (v6 : Int32) : Option (Int32 × Int32 × (Nat → Int32)) :=
  if p3 = 0 then some (v6, o_raised, o_shift_r) else some (v5, o_raised, o_shift_r)
def fX8_shifts_134 (v5 : Int32) (v4 : Int32) : Option ((Int32 × Int32) ⊕ (Int32 × Int32 × (Nat → Int32))) :=
  some (.inl (v4, (v5 + 1)))
def fX8_shifts_128 (v6 : Int32) (v4 : Int32) : Option ((Int32 × Int32) ⊕ ((Int32 × Int32) ⊕ (Int32 × Int32 × (Nat → Int32)))) :=
  some (.inl (v4, (v6 + 1)))
def fX8_shifts_75_b (o_raised : Int32) (o_all_r : Nat → Int32) (o_shift_r : Nat → Int32) (p1 : Int32) (p2 : Int32) (p3 : Int32) (v5 : Int32) (v4 : Int32) (v6 : Int32) : Option ((Int32 × Int32) ⊕ ((Int32 × Int32) ⊕ (Int32 × Int32 × (Nat → Int32)))) :=
  if (o_all_r (0 : Int32).toNatClampNeg) ≤ v6 then Option.bind (fX8_shifts_134 v5 v4) fun z => some (.inr z) else if ds_in ((((64 : Int32) * p1) + ((8 : Int32) * v5)) + v6) 768 = true then if (o_shift_r ((((64 : Int32) * p1) + ((8 : Int32) * v5)) + v6).toNatClampNeg) = 0 then fX8_shifts_128 v6 v4 else if v4 = p2 then Option.bind (Option.bind (fX8_shifts_113 o_raised o_shift_r p3 v5 v6) fun z => some (.inr z)) fun z => some (.inr z) else fX8_shifts_128 v6 (v4 + 1) else none
def fX8_shifts_75 (o_raised : Int32) (o_all_r : Nat → Int32) (o_shift_r : Nat → Int32) (p1 : Int32) (p2 : Int32) (p3 : Int32) (v5 : Int32) (v4 : Int32) (v6 : Int32) : Option ((Int32 × Int32) ⊕ (Int32 × Int32 × (Nat → Int32))) := ds_it (fun s => fX8_shifts_75_b o_raised o_all_r o_shift_r p1 p2 p3 v5 s.1 s.2) 1000 (v4, v6)
def fX8_shifts_61_b (o_raised : Int32) (o_all_r : Nat → Int32) (o_shift_r : Nat → Int32) (p1 : Int32) (p2 : Int32) (p3 : Int32) (v4 : Int32) (v5 : Int32) : Option ((Int32 × Int32) ⊕ (Int32 × Int32 × (Nat → Int32))) :=
  if (o_all_r (1 : Int32).toNatClampNeg) ≤ v5 then some (.inr ((-2 : Int32), o_raised, o_shift_r)) else fX8_shifts_75 o_raised o_all_r o_shift_r p1 p2 p3 v5 v4 (0 : Int32)
def fX8_shifts_61 (o_raised : Int32) (o_all_r : Nat → Int32) (o_shift_r : Nat → Int32) (p1 : Int32) (p2 : Int32) (p3 : Int32) (v4 : Int32) (v5 : Int32) : Option (Int32 × Int32 × (Nat → Int32)) := ds_it (fun s => fX8_shifts_61_b o_raised o_all_r o_shift_r p1 p2 p3 s.1 s.2) 1000 (v4, v5)
def fX8_shifts (o_all_r : Nat → Int32) (o_plans_r : Nat → Int32) (o_shift_r : Nat → Int32) (p1 : Int32) (p2 : Int32) (p3 : Int32) : Option (Int32 × Int32 × (Nat → Int32)) :=
  Option.bind (fX8_turnings o_all_r) fun q8 => Option.bind (fX8_in p1 (0 : Int32) (q8 - (1 : Int32))) fun q13 => if q13 = 0 then some ((-2 : Int32), (0 : Int32), o_shift_r) else Option.bind (fX8_in p3 (0 : Int32) (1 : Int32)) fun q22 => if q22 = 0 then some ((-2 : Int32), (0 : Int32), o_shift_r) else Option.bind (fX8_laysShifts o_all_r o_plans_r o_shift_r) fun q32 => if p2 = (-1 : Int32) then if p3 = 0 then Option.bind (fX8_shiftsOf o_all_r q32 p1) fun q46 => some (q46, (0 : Int32), q32) else some ((-2 : Int32), (0 : Int32), q32) else fX8_shifts_61 (0 : Int32) o_all_r q32 p1 p2 p3 (0 : Int32) (0 : Int32)
set_option maxHeartbeats 4000000 in
set_option maxRecDepth 100000 in
theorem c_X8_shifts (l : Launch) (dC : Nat → ClassId) (dI : Nat → Nat → Nat) (ca : Nat → ClassId) (sa : Nat → Nat) (h_o : Nat) (h_o_plans : Nat) (h_o_makers : Nat) (h_o_halves : Nat) (h_o_all : Nat) (h_o_text : Nat) (h_o_saved : Nat) (h_o_undone : Nat) (h_o_told : Nat) (h_o_shift : Nat) (h_o_rootOf : Nat) (h_o_becomes : Nat) (h_o_comes : Nat) (h_o_next : Nat) (sz : Nat) (o_raised : Int32) (o_undos : Int32) (o_reached : Int32) (o_length : Int32) (o_begin : Int32) (o_letters : Int32) (o_sort : Int32) (o_word : Int64) (o_wrongAt : Int32) (o_badAt : Int32) (o_bad : Int32) (o_firstX : Int32) (o_firstY : Int32) (o_secondX : Int32) (o_secondY : Int32) (o_x : Int32) (o_all_r : Nat → Int32) (o_plans_r : Nat → Int32) (o_shift_r : Nat → Int32) (p1 : Int32) (p2 : Int32) (p3 : Int32) (res : Int32 × Int32 × (Nat → Int32)) (hf : fX8_shifts o_all_r o_plans_r o_shift_r p1 p2 p3 = some res) : Met l yX8_shifts (Cond.code yX8_shifts cX8_shifts 7 (some .int) :: ds_gw) { frames := 5, cells := 0, slots := 0, locals := 115 } (va_Pc [.ref h_o, .int p1, .int p2, .int p3] (ds_Pre dC dI ca sa [(h_o, .inr (7, [.ref h_o_plans, .ref h_o_makers, .ref h_o_halves, .int o_raised, .ref h_o_all, .ref h_o_text, .ref h_o_saved, .ref h_o_undone, .int o_undos, .int o_reached, .int o_length, .int o_begin, .int o_letters, .int o_sort, .long o_word, .int o_wrongAt, .int o_badAt, .int o_bad, .ref h_o_told, .ref h_o_shift, .int o_firstX, .int o_firstY, .int o_secondX, .int o_secondY, .ref h_o_rootOf, .ref h_o_becomes, .ref h_o_comes, .ref h_o_next, .int o_x])), (h_o_all, .inl (ca 0, 350, .inl o_all_r)), (h_o_plans, .inl (ca 0, 80, .inl o_plans_r)), (h_o_shift, .inl (ca 3, 768, .inl o_shift_r))] sz)) (va_Qi (fun r (_ : Unit) => r = res.1) (ds_B dC dI (va_A [(h_o, .inr (7, [.ref h_o_plans, .ref h_o_makers, .ref h_o_halves, .int o_raised, .ref h_o_all, .ref h_o_text, .ref h_o_saved, .ref h_o_undone, .int o_undos, .int o_reached, .int o_length, .int o_begin, .int o_letters, .int o_sort, .long o_word, .int o_wrongAt, .int o_badAt, .int o_bad, .ref h_o_told, .ref h_o_shift, .int o_firstX, .int o_firstY, .int o_secondX, .int o_secondY, .ref h_o_rootOf, .ref h_o_becomes, .ref h_o_comes, .ref h_o_next, .int o_x])), (h_o_all, .inl (ca 0, 350, .inl o_all_r)), (h_o_plans, .inl (ca 0, 80, .inl o_plans_r)), (h_o_shift, .inl (ca 3, 768, .inl o_shift_r))] sz) [(h_o, .inr (7, [.ref h_o_plans, .ref h_o_makers, .ref h_o_halves, .int res.2.1, .ref h_o_all, .ref h_o_text, .ref h_o_saved, .ref h_o_undone, .int o_undos, .int o_reached, .int o_length, .int o_begin, .int o_letters, .int o_sort, .long o_word, .int o_wrongAt, .int o_badAt, .int o_bad, .ref h_o_told, .ref h_o_shift, .int o_firstX, .int o_firstY, .int o_secondX, .int o_secondY, .ref h_o_rootOf, .ref h_o_becomes, .ref h_o_comes, .ref h_o_next, .int o_x])), (h_o_all, .inl (ca 0, 350, .inl o_all_r)), (h_o_plans, .inl (ca 0, 80, .inl o_plans_r)), (h_o_shift, .inl (ca 3, 768, .inl res.2.2))]) (va_A [(h_o, .inr (7, [.ref h_o_plans, .ref h_o_makers, .ref h_o_halves, .int o_raised, .ref h_o_all, .ref h_o_text, .ref h_o_saved, .ref h_o_undone, .int o_undos, .int o_reached, .int o_length, .int o_begin, .int o_letters, .int o_sort, .long o_word, .int o_wrongAt, .int o_badAt, .int o_bad, .ref h_o_told, .ref h_o_shift, .int o_firstX, .int o_firstY, .int o_secondX, .int o_secondY, .ref h_o_rootOf, .ref h_o_becomes, .ref h_o_comes, .ref h_o_next, .int o_x])), (h_o_all, .inl (ca 0, 350, .inl o_all_r)), (h_o_plans, .inl (ca 0, 80, .inl o_plans_r)), (h_o_shift, .inl (ca 3, 768, .inl o_shift_r))] sz)) 0 0 (va_A [(h_o, .inr (7, [.ref h_o_plans, .ref h_o_makers, .ref h_o_halves, .int o_raised, .ref h_o_all, .ref h_o_text, .ref h_o_saved, .ref h_o_undone, .int o_undos, .int o_reached, .int o_length, .int o_begin, .int o_letters, .int o_sort, .long o_word, .int o_wrongAt, .int o_badAt, .int o_bad, .ref h_o_told, .ref h_o_shift, .int o_firstX, .int o_firstY, .int o_secondX, .int o_secondY, .ref h_o_rootOf, .ref h_o_becomes, .ref h_o_comes, .ref h_o_next, .int o_x])), (h_o_all, .inl (ca 0, 350, .inl o_all_r)), (h_o_plans, .inl (ca 0, 80, .inl o_plans_r)), (h_o_shift, .inl (ca 3, 768, .inl o_shift_r))] sz) := by
  refine Met.ofW (cc := cX8_shifts) (maxL := 7) (ret := (some .int)) (by decide) rfl ?_
  intro p e s m args below meth c s₁ B hml hv
  obtain ⟨rfl, hsz, hP, hK, hD0, hE⟩ := hv
  have hx := B.exec
  have hb := B.bytes
  have hr := B.returns
  have hts := atoms_spec (ws := Cond.code yX8_shifts cX8_shifts 7 (some .int) :: ds_gw) B.pre
  have hg : ∀ {w : Cond}, w ∈ ds_gw → w.before _ s = true := fun h => hts _ (List.mem_cons_of_mem _ h)
  have hown : s.vm.findClass RX8 = some m.cls := findClass_of_methodNamed B.named
  have hlocks := B.notSynchronized
  subst hsz
  have hD := hD0.self (sz := s.heap.size)
  generalize hAe : va_A [(h_o, .inr (7, [.ref h_o_plans, .ref h_o_makers, .ref h_o_halves, .int o_raised, .ref h_o_all, .ref h_o_text, .ref h_o_saved, .ref h_o_undone, .int o_undos, .int o_reached, .int o_length, .int o_begin, .int o_letters, .int o_sort, .long o_word, .int o_wrongAt, .int o_badAt, .int o_bad, .ref h_o_told, .ref h_o_shift, .int o_firstX, .int o_firstY, .int o_secondX, .int o_secondY, .ref h_o_rootOf, .ref h_o_becomes, .ref h_o_comes, .ref h_o_next, .int o_x])), (h_o_all, .inl (ca 0, 350, .inl o_all_r)), (h_o_plans, .inl (ca 0, 80, .inl o_plans_r)), (h_o_shift, .inl (ca 3, 768, .inl o_shift_r))] s.heap.size = A at hD hE ⊢
  have hA : ∀ q : Nat, s.heap.size ≤ q → A q := fun q h => by rw [← hAe]; exact Or.inr h
  have hS : va_S A s.heap s.heap [] := va_S.rf
  have hl := lv_entry ([.ref h_o, .int p1, .int p2, .int p3]) (n := 7) (Nat.le_of_ble_eq_true rfl)
  rw [lg_entry_eq]
  generalize (lg_sl ([.ref h_o, .int p1, .int p2, .int p3]) ++ List.replicate (7 - (lg_sl ([.ref h_o, .int p1, .int p2, .int p3])).length) Slot.unset).toArray = ls at hl ⊢
  have hl : lv_has ls 7 [(0, .ref h_o), (1, .int p1), (2, .int p2), (3, .int p3)] := hl
  obtain ⟨G0, eG0⟩ : ∃ G : (Int32 × Int32 × (Nat → Int32)) → Prop, G = (fun r => r = res) := ⟨_, rfl⟩
  obtain ⟨rr, hrr⟩ : ∃ z, z = res := ⟨_, rfl⟩
  rw [← hrr] at hf
  have hG : G0 rr := by subst eG0; exact hrr
  refine ds_cap (fun WW h1 h2 => ?_)
  have J_113 : ∀ (v5 : Int32) (v6 : Int32) (o_raised : Int32) (o_shift_r : Nat → Int32) (rr : Int32 × Int32 × (Nat → Int32)) (hf : fX8_shifts_113 o_raised o_shift_r p3 v5 v6 = some rr) (hG : G0 rr) (H : Heap) (locs : List Loc) (hP : va_P (dC, dI) vwCl [(h_o, .inr (7, [.ref h_o_plans, .ref h_o_makers, .ref h_o_halves, .int o_raised, .ref h_o_all, .ref h_o_text, .ref h_o_saved, .ref h_o_undone, .int o_undos, .int o_reached, .int o_length, .int o_begin, .int o_letters, .int o_sort, .long o_word, .int o_wrongAt, .int o_badAt, .int o_bad, .ref h_o_told, .ref h_o_shift, .int o_firstX, .int o_firstY, .int o_secondX, .int o_secondY, .ref h_o_rootOf, .ref h_o_becomes, .ref h_o_comes, .ref h_o_next, .int o_x])), (h_o_all, .inl (ca 0, 350, .inl o_all_r)), (h_o_plans, .inl (ca 0, 80, .inl o_plans_r)), (h_o_shift, .inl (ca 3, 768, .inl o_shift_r))] H) (hD : va_D A [(h_o, .inr (7, [.ref h_o_plans, .ref h_o_makers, .ref h_o_halves, .int o_raised, .ref h_o_all, .ref h_o_text, .ref h_o_saved, .ref h_o_undone, .int o_undos, .int o_reached, .int o_length, .int o_begin, .int o_letters, .int o_sort, .long o_word, .int o_wrongAt, .int o_badAt, .int o_bad, .ref h_o_told, .ref h_o_shift, .int o_firstX, .int o_firstY, .int o_secondX, .int o_secondY, .ref h_o_rootOf, .ref h_o_becomes, .ref h_o_comes, .ref h_o_next, .int o_x])), (h_o_all, .inl (ca 0, 350, .inl o_all_r)), (h_o_plans, .inl (ca 0, 80, .inl o_plans_r)), (h_o_shift, .inl (ca 3, 768, .inl o_shift_r))]) (hS : va_S A s.heap H locs) (ls : Array Slot) (hl : lv_has ls 7 [(3, .int p3), (5, .int v5), (6, .int v6)]), WW H locs (F0 m 113 ls []) := by
    intro v5 v6 o_raised o_shift_r rr hf hG H locs hP hD hS ls hl
    refine h2 ?_
    unfold fX8_shifts_113 at hf
    refine lv_iload_n hx hb dX8_shifts_113 rfl (lv_at hl 0 rfl) ?_
    refine lv_if_ne (tgt := 122) hx hb dX8_shifts_114 (by decide) (fun c_114 => ?_) (fun c_114 => ?_)
    · replace hf := ds_f c_114 hf
      refine lv_iload hx hb dX8_shifts_122 (lv_at hl 1 rfl) ?_
      have hf := Option.some.inj hf
      subst hf
      rw [eG0] at hG
      have hG : _ = res := hG
      subst hG
      exact W.iret (v := v5) hx hb hr (fun t ht hW => ⟨⟨v5, (), rfl, rfl, by rw [ht]; exact hP, hD⟩, hS.F ht⟩) hS.2.2 dX8_shifts_124
    · replace hf := ds_t c_114 hf
      refine lv_iload hx hb dX8_shifts_117 (lv_at hl 2 rfl) ?_
      refine lv_goto (tgt := 124) hx hb dX8_shifts_119 (by decide) ?_
      have hf := Option.some.inj hf
      subst hf
      rw [eG0] at hG
      have hG : _ = res := hG
      subst hG
      exact W.iret (v := v6) hx hb hr (fun t ht hW => ⟨⟨v6, (), rfl, rfl, by rw [ht]; exact hP, hD⟩, hS.F ht⟩) hS.2.2 dX8_shifts_124
  have J_61 : ∀ (o_raised : Int32) (o_shift_r : Nat → Int32) (n : Nat) (v4 : Int32) (v5 : Int32) (rr : Int32 × Int32 × (Nat → Int32)) (hf : ds_it (fun s => fX8_shifts_61_b o_raised o_all_r o_shift_r p1 p2 p3 s.1 s.2) n (v4, v5) = some rr) (hG : G0 rr) (H : Heap) (locs : List Loc) (hP : va_P (dC, dI) vwCl [(h_o, .inr (7, [.ref h_o_plans, .ref h_o_makers, .ref h_o_halves, .int o_raised, .ref h_o_all, .ref h_o_text, .ref h_o_saved, .ref h_o_undone, .int o_undos, .int o_reached, .int o_length, .int o_begin, .int o_letters, .int o_sort, .long o_word, .int o_wrongAt, .int o_badAt, .int o_bad, .ref h_o_told, .ref h_o_shift, .int o_firstX, .int o_firstY, .int o_secondX, .int o_secondY, .ref h_o_rootOf, .ref h_o_becomes, .ref h_o_comes, .ref h_o_next, .int o_x])), (h_o_all, .inl (ca 0, 350, .inl o_all_r)), (h_o_plans, .inl (ca 0, 80, .inl o_plans_r)), (h_o_shift, .inl (ca 3, 768, .inl o_shift_r))] H) (hD : va_D A [(h_o, .inr (7, [.ref h_o_plans, .ref h_o_makers, .ref h_o_halves, .int o_raised, .ref h_o_all, .ref h_o_text, .ref h_o_saved, .ref h_o_undone, .int o_undos, .int o_reached, .int o_length, .int o_begin, .int o_letters, .int o_sort, .long o_word, .int o_wrongAt, .int o_badAt, .int o_bad, .ref h_o_told, .ref h_o_shift, .int o_firstX, .int o_firstY, .int o_secondX, .int o_secondY, .ref h_o_rootOf, .ref h_o_becomes, .ref h_o_comes, .ref h_o_next, .int o_x])), (h_o_all, .inl (ca 0, 350, .inl o_all_r)), (h_o_plans, .inl (ca 0, 80, .inl o_plans_r)), (h_o_shift, .inl (ca 3, 768, .inl o_shift_r))]) (hS : va_S A s.heap H locs) (ls : Array Slot) (hl : lv_has ls 7 [(0, .ref h_o), (1, .int p1), (2, .int p2), (3, .int p3), (4, .int v4), (5, .int v5)]), WW H locs (F0 m 61 ls []) := by
    intro o_raised o_shift_r n
    induction n with
    | zero => intro v4 v5 rr hf; exact (ds_it_zero hf).elim
    | succ n ih61 =>
      intro v4 v5 rr hf hG H locs hP hD hS ls hl
      refine h2 ?_
      obtain ⟨rr, hf, hG⟩ := ds_it_succ hf hG
      replace hf : fX8_shifts_61_b o_raised o_all_r o_shift_r p1 p2 p3 v4 v5 = some rr := hf
      obtain ⟨G1, eG1⟩ : ∃ G : ((Int32 × Int32) ⊕ (Int32 × Int32 × (Nat → Int32))) → Prop, G = ds_G (fun s' => ∃ r', ds_it (fun s => fX8_shifts_61_b o_raised o_all_r o_shift_r p1 p2 p3 s.1 s.2) n s' = some r' ∧ G0 r') G0 := ⟨_, rfl⟩
      rw [← eG1] at hG
      have J_134 : ∀ (v4 : Int32) (v5 : Int32) (rr : (Int32 × Int32) ⊕ (Int32 × Int32 × (Nat → Int32))) (hf : fX8_shifts_134 v5 v4 = some rr) (hG : G1 rr) (H : Heap) (locs : List Loc) (hP : va_P (dC, dI) vwCl [(h_o, .inr (7, [.ref h_o_plans, .ref h_o_makers, .ref h_o_halves, .int o_raised, .ref h_o_all, .ref h_o_text, .ref h_o_saved, .ref h_o_undone, .int o_undos, .int o_reached, .int o_length, .int o_begin, .int o_letters, .int o_sort, .long o_word, .int o_wrongAt, .int o_badAt, .int o_bad, .ref h_o_told, .ref h_o_shift, .int o_firstX, .int o_firstY, .int o_secondX, .int o_secondY, .ref h_o_rootOf, .ref h_o_becomes, .ref h_o_comes, .ref h_o_next, .int o_x])), (h_o_all, .inl (ca 0, 350, .inl o_all_r)), (h_o_plans, .inl (ca 0, 80, .inl o_plans_r)), (h_o_shift, .inl (ca 3, 768, .inl o_shift_r))] H) (hD : va_D A [(h_o, .inr (7, [.ref h_o_plans, .ref h_o_makers, .ref h_o_halves, .int o_raised, .ref h_o_all, .ref h_o_text, .ref h_o_saved, .ref h_o_undone, .int o_undos, .int o_reached, .int o_length, .int o_begin, .int o_letters, .int o_sort, .long o_word, .int o_wrongAt, .int o_badAt, .int o_bad, .ref h_o_told, .ref h_o_shift, .int o_firstX, .int o_firstY, .int o_secondX, .int o_secondY, .ref h_o_rootOf, .ref h_o_becomes, .ref h_o_comes, .ref h_o_next, .int o_x])), (h_o_all, .inl (ca 0, 350, .inl o_all_r)), (h_o_plans, .inl (ca 0, 80, .inl o_plans_r)), (h_o_shift, .inl (ca 3, 768, .inl o_shift_r))]) (hS : va_S A s.heap H locs) (ls : Array Slot) (hl : lv_has ls 7 [(0, .ref h_o), (1, .int p1), (2, .int p2), (3, .int p3), (4, .int v4), (5, .int v5)]), WW H locs (F0 m 134 ls []) := by
        intro v4 v5 rr hf hG H locs hP hD hS ls hl
        refine h2 ?_
        unfold fX8_shifts_134 at hf
        refine lv_iinc (v := (v5 + 1)) (lv' := [(5, .int (v5 + 1)), (0, .ref h_o), (1, .int p1), (2, .int p2), (3, .int p3), (4, .int v4)]) hx hb dX8_shifts_134 hl (k := 5) rfl rfl (by decide) rfl (fun ls hl => ?_)
        refine lv_goto (tgt := 61) hx hb dX8_shifts_137 (by decide) ?_
        have hf := Option.some.inj hf
        subst hf
        rw [eG1] at hG
        obtain ⟨rr, hf, hG⟩ := hG
        exact h1 (ih61 v4 (v5 + 1) rr hf hG _ _ hP hD hS _ (lv_sub hl [1, 2, 3, 4, 5, 0] rfl))
      have J_75 : ∀ (v5 : Int32) (n : Nat) (v4 : Int32) (v6 : Int32) (rr : (Int32 × Int32) ⊕ (Int32 × Int32 × (Nat → Int32))) (hf : ds_it (fun s => fX8_shifts_75_b o_raised o_all_r o_shift_r p1 p2 p3 v5 s.1 s.2) n (v4, v6) = some rr) (hG : G1 rr) (H : Heap) (locs : List Loc) (hP : va_P (dC, dI) vwCl [(h_o, .inr (7, [.ref h_o_plans, .ref h_o_makers, .ref h_o_halves, .int o_raised, .ref h_o_all, .ref h_o_text, .ref h_o_saved, .ref h_o_undone, .int o_undos, .int o_reached, .int o_length, .int o_begin, .int o_letters, .int o_sort, .long o_word, .int o_wrongAt, .int o_badAt, .int o_bad, .ref h_o_told, .ref h_o_shift, .int o_firstX, .int o_firstY, .int o_secondX, .int o_secondY, .ref h_o_rootOf, .ref h_o_becomes, .ref h_o_comes, .ref h_o_next, .int o_x])), (h_o_all, .inl (ca 0, 350, .inl o_all_r)), (h_o_plans, .inl (ca 0, 80, .inl o_plans_r)), (h_o_shift, .inl (ca 3, 768, .inl o_shift_r))] H) (hD : va_D A [(h_o, .inr (7, [.ref h_o_plans, .ref h_o_makers, .ref h_o_halves, .int o_raised, .ref h_o_all, .ref h_o_text, .ref h_o_saved, .ref h_o_undone, .int o_undos, .int o_reached, .int o_length, .int o_begin, .int o_letters, .int o_sort, .long o_word, .int o_wrongAt, .int o_badAt, .int o_bad, .ref h_o_told, .ref h_o_shift, .int o_firstX, .int o_firstY, .int o_secondX, .int o_secondY, .ref h_o_rootOf, .ref h_o_becomes, .ref h_o_comes, .ref h_o_next, .int o_x])), (h_o_all, .inl (ca 0, 350, .inl o_all_r)), (h_o_plans, .inl (ca 0, 80, .inl o_plans_r)), (h_o_shift, .inl (ca 3, 768, .inl o_shift_r))]) (hS : va_S A s.heap H locs) (ls : Array Slot) (hl : lv_has ls 7 [(0, .ref h_o), (1, .int p1), (2, .int p2), (3, .int p3), (4, .int v4), (5, .int v5), (6, .int v6)]), WW H locs (F0 m 75 ls []) := by
        intro v5 n
        induction n with
        | zero => intro v4 v6 rr hf; exact (ds_it_zero hf).elim
        | succ n ih75 =>
          intro v4 v6 rr hf hG H locs hP hD hS ls hl
          refine h2 ?_
          obtain ⟨rr, hf, hG⟩ := ds_it_succ hf hG
          replace hf : fX8_shifts_75_b o_raised o_all_r o_shift_r p1 p2 p3 v5 v4 v6 = some rr := hf
          obtain ⟨G2, eG2⟩ : ∃ G : ((Int32 × Int32) ⊕ ((Int32 × Int32) ⊕ (Int32 × Int32 × (Nat → Int32)))) → Prop, G = ds_G (fun s' => ∃ r', ds_it (fun s => fX8_shifts_75_b o_raised o_all_r o_shift_r p1 p2 p3 v5 s.1 s.2) n s' = some r' ∧ G1 r') G1 := ⟨_, rfl⟩
          rw [← eG2] at hG
          have J_128 : ∀ (v4 : Int32) (v6 : Int32) (rr : (Int32 × Int32) ⊕ ((Int32 × Int32) ⊕ (Int32 × Int32 × (Nat → Int32)))) (hf : fX8_shifts_128 v6 v4 = some rr) (hG : G2 rr) (H : Heap) (locs : List Loc) (hP : va_P (dC, dI) vwCl [(h_o, .inr (7, [.ref h_o_plans, .ref h_o_makers, .ref h_o_halves, .int o_raised, .ref h_o_all, .ref h_o_text, .ref h_o_saved, .ref h_o_undone, .int o_undos, .int o_reached, .int o_length, .int o_begin, .int o_letters, .int o_sort, .long o_word, .int o_wrongAt, .int o_badAt, .int o_bad, .ref h_o_told, .ref h_o_shift, .int o_firstX, .int o_firstY, .int o_secondX, .int o_secondY, .ref h_o_rootOf, .ref h_o_becomes, .ref h_o_comes, .ref h_o_next, .int o_x])), (h_o_all, .inl (ca 0, 350, .inl o_all_r)), (h_o_plans, .inl (ca 0, 80, .inl o_plans_r)), (h_o_shift, .inl (ca 3, 768, .inl o_shift_r))] H) (hD : va_D A [(h_o, .inr (7, [.ref h_o_plans, .ref h_o_makers, .ref h_o_halves, .int o_raised, .ref h_o_all, .ref h_o_text, .ref h_o_saved, .ref h_o_undone, .int o_undos, .int o_reached, .int o_length, .int o_begin, .int o_letters, .int o_sort, .long o_word, .int o_wrongAt, .int o_badAt, .int o_bad, .ref h_o_told, .ref h_o_shift, .int o_firstX, .int o_firstY, .int o_secondX, .int o_secondY, .ref h_o_rootOf, .ref h_o_becomes, .ref h_o_comes, .ref h_o_next, .int o_x])), (h_o_all, .inl (ca 0, 350, .inl o_all_r)), (h_o_plans, .inl (ca 0, 80, .inl o_plans_r)), (h_o_shift, .inl (ca 3, 768, .inl o_shift_r))]) (hS : va_S A s.heap H locs) (ls : Array Slot) (hl : lv_has ls 7 [(0, .ref h_o), (1, .int p1), (2, .int p2), (3, .int p3), (4, .int v4), (5, .int v5), (6, .int v6)]), WW H locs (F0 m 128 ls []) := by
            intro v4 v6 rr hf hG H locs hP hD hS ls hl
            refine h2 ?_
            unfold fX8_shifts_128 at hf
            refine lv_iinc (v := (v6 + 1)) (lv' := [(6, .int (v6 + 1)), (0, .ref h_o), (1, .int p1), (2, .int p2), (3, .int p3), (4, .int v4), (5, .int v5)]) hx hb dX8_shifts_128 hl (k := 6) rfl rfl (by decide) rfl (fun ls hl => ?_)
            refine lv_goto (tgt := 75) hx hb dX8_shifts_131 (by decide) ?_
            have hf := Option.some.inj hf
            subst hf
            rw [eG2] at hG
            obtain ⟨rr, hf, hG⟩ := hG
            exact h1 (ih75 v4 (v6 + 1) rr hf hG _ _ hP hD hS _ (lv_sub hl [1, 2, 3, 4, 5, 6, 0] rfl))
          unfold fX8_shifts_75_b at hf
          refine lv_iload hx hb dX8_shifts_75 (lv_at hl 6 rfl) ?_
          refine lv_aload_n hx hb dX8_shifts_77 rfl (lv_at hl 0 rfl) ?_
          refine va_get (D := (dC, dI)) (ci := 7) (v := .ref h_o_all) (C := RX8) (T := TX8) (N := 29) hx hb hts (fun w h => List.mem_cons_of_mem _ (kc_X8 w h)) hown hK hP 0 rfl rfl 4 (by decide) (hg kw_594) (fun _ h9 => h9) rfl dX8_shifts_78 ?_
          refine lv_iconst (v := 0) hx hb dX8_shifts_81 (by decide) ?_
          refine va_iald hx hb hK hP 1 0 rfl rfl (ds_in_ok (i := 0) (n := 350) (by decide)) dX8_shifts_82 ?_
          refine lv_icmp_ge (tgt := 134) hx hb dX8_shifts_83 (by decide) (fun c_83 => ?_) (fun c_83 => ?_)
          · replace hf := ds_t c_83 hf
            obtain ⟨rr, hr_0, hf⟩ := ds_ob hf
            have hf := Option.some.inj hf
            subst hf
            rw [eG2] at hG
            replace hG : G1 rr := hG
            have hf := hr_0
            exact h1 (J_134 v4 v5 _ hf hG _ _ hP hD hS _ (lv_sub hl [0, 1, 2, 3, 4, 5] rfl))
          · replace hf := ds_f c_83 hf
            refine lv_aload_n hx hb dX8_shifts_86 rfl (lv_at hl 0 rfl) ?_
            refine va_get (D := (dC, dI)) (ci := 7) (v := .ref h_o_shift) (C := RX8) (T := TX8) (N := 29) hx hb hts (fun w h => List.mem_cons_of_mem _ (kc_X8 w h)) hown hK hP 0 rfl rfl 19 (by decide) (hg kw_650) (fun _ h9 => h9) rfl dX8_shifts_87 ?_
            refine lv_bipush (v := 64) hx hb dX8_shifts_90 (by decide) ?_
            refine lv_iload_n hx hb dX8_shifts_92 rfl (lv_at hl 1 rfl) ?_
            refine lv_imul hx hb dX8_shifts_93 ?_
            refine lv_bipush (v := 8) hx hb dX8_shifts_94 (by decide) ?_
            refine lv_iload hx hb dX8_shifts_96 (lv_at hl 5 rfl) ?_
            refine lv_imul hx hb dX8_shifts_98 ?_
            refine lv_iadd hx hb dX8_shifts_99 ?_
            refine lv_iload hx hb dX8_shifts_100 (lv_at hl 6 rfl) ?_
            refine lv_iadd hx hb dX8_shifts_102 ?_
            obtain ⟨i_103, hf⟩ := ds_ci hf
            refine va_zald hx hb hK hP 3 3 rfl rfl i_103 dX8_shifts_103 ?_
            refine lv_if_eq (tgt := 128) hx hb dX8_shifts_104 (by decide) (fun c_104 => ?_) (fun c_104 => ?_)
            · replace hf := ds_t c_104 hf
              exact h1 (J_128 v4 v6 _ hf hG _ _ hP hD hS _ (lv_sub hl [0, 1, 2, 3, 4, 5, 6] rfl))
            · replace hf := ds_f c_104 hf
              refine lv_iload hx hb dX8_shifts_107 (lv_at hl 4 rfl) ?_
              refine lv_iload_n hx hb dX8_shifts_109 rfl (lv_at hl 2 rfl) ?_
              refine lv_icmp_ne (tgt := 125) hx hb dX8_shifts_110 (by decide) (fun c_110 => ?_) (fun c_110 => ?_)
              · replace hf := ds_f c_110 hf
                refine lv_iinc (v := (v4 + 1)) (lv' := [(4, .int (v4 + 1)), (0, .ref h_o), (1, .int p1), (2, .int p2), (3, .int p3), (5, .int v5), (6, .int v6)]) hx hb dX8_shifts_125 hl (k := 4) rfl rfl (by decide) rfl (fun ls hl => ?_)
                exact h1 (J_128 (v4 + 1) v6 _ hf hG _ _ hP hD hS _ (lv_sub hl [1, 2, 3, 4, 0, 5, 6] rfl))
              · replace hf := ds_t c_110 hf
                obtain ⟨rr, hr_0, hf⟩ := ds_ob hf
                have hf := Option.some.inj hf
                subst hf
                rw [eG2] at hG
                replace hG : G1 rr := hG
                have hf := hr_0
                obtain ⟨rr, hr_1, hf⟩ := ds_ob hf
                have hf := Option.some.inj hf
                subst hf
                rw [eG1] at hG
                replace hG : G0 rr := hG
                have hf := hr_1
                exact h1 (J_113 v5 v6 o_raised o_shift_r _ hf hG _ _ hP hD hS _ (lv_sub hl [3, 5, 6] rfl))
      unfold fX8_shifts_61_b at hf
      refine lv_iload hx hb dX8_shifts_61 (lv_at hl 5 rfl) ?_
      refine lv_aload_n hx hb dX8_shifts_63 rfl (lv_at hl 0 rfl) ?_
      refine va_get (D := (dC, dI)) (ci := 7) (v := .ref h_o_all) (C := RX8) (T := TX8) (N := 29) hx hb hts (fun w h => List.mem_cons_of_mem _ (kc_X8 w h)) hown hK hP 0 rfl rfl 4 (by decide) (hg kw_594) (fun _ h9 => h9) rfl dX8_shifts_64 ?_
      refine lv_iconst (v := 1) hx hb dX8_shifts_67 (by decide) ?_
      refine va_iald hx hb hK hP 1 0 rfl rfl (ds_in_ok (i := 1) (n := 350) (by decide)) dX8_shifts_68 ?_
      refine lv_icmp_ge (tgt := 140) hx hb dX8_shifts_69 (by decide) (fun c_69 => ?_) (fun c_69 => ?_)
      · replace hf := ds_t c_69 hf
        refine lv_bipush (v := -2) hx hb dX8_shifts_140 (by decide) ?_
        have hf := Option.some.inj hf
        subst hf
        rw [eG1] at hG
        replace hG : G0 _ := hG
        rw [eG0] at hG
        have hG : _ = res := hG
        subst hG
        exact W.iret (v := (-2 : Int32)) hx hb hr (fun t ht hW => ⟨⟨(-2 : Int32), (), rfl, rfl, by rw [ht]; exact hP, hD⟩, hS.F ht⟩) hS.2.2 dX8_shifts_142
      · replace hf := ds_f c_69 hf
        refine lv_iconst (v := 0) hx hb dX8_shifts_72 (by decide) ?_
        refine lv_istore (lv' := [(6, .int (0 : Int32)), (0, .ref h_o), (1, .int p1), (2, .int p2), (3, .int p3), (4, .int v4), (5, .int v5)]) hx hb dX8_shifts_73 hl (by decide) rfl (fun ls hl => ?_)
        exact h1 (J_75 v5 1000 v4 (0 : Int32) _ hf hG _ _ hP hD hS _ (lv_sub hl [1, 2, 3, 4, 5, 6, 0] rfl))
  unfold fX8_shifts at hf
  refine lv_aload_n hx hb dX8_shifts_0 rfl (lv_at hl 0 rfl) ?_
  refine lv_iconst (v := 0) hx hb dX8_shifts_1 (by decide) ?_
  refine va_put (D := (dC, dI)) (ci := 7) (v := .int (0 : Int32)) (ty := tyX8 3) (C := RX8) (T := TX8) (N := 29) hx hb hts (fun w h => List.mem_cons_of_mem _ (kc_X8 w h)) tyX8 tyX8_ok nmX8 hown hK hP hD hS 0 rfl rfl 3 (by decide) (hg kw_564) (fun _ h9 => h9) rfl (by decide +kernel) rfl rfl (Nat.le_of_ble_eq_true rfl) dX8_shifts_2 (fun H locs hP hD hS => ?_)
  have hP : va_P (dC, dI) vwCl [(h_o, .inr (7, [.ref h_o_plans, .ref h_o_makers, .ref h_o_halves, .int (0 : Int32), .ref h_o_all, .ref h_o_text, .ref h_o_saved, .ref h_o_undone, .int o_undos, .int o_reached, .int o_length, .int o_begin, .int o_letters, .int o_sort, .long o_word, .int o_wrongAt, .int o_badAt, .int o_bad, .ref h_o_told, .ref h_o_shift, .int o_firstX, .int o_firstY, .int o_secondX, .int o_secondY, .ref h_o_rootOf, .ref h_o_becomes, .ref h_o_comes, .ref h_o_next, .int o_x])), (h_o_all, .inl (ca 0, 350, .inl o_all_r)), (h_o_plans, .inl (ca 0, 80, .inl o_plans_r)), (h_o_shift, .inl (ca 3, 768, .inl o_shift_r))] H := hP
  have hD : va_D A [(h_o, .inr (7, [.ref h_o_plans, .ref h_o_makers, .ref h_o_halves, .int (0 : Int32), .ref h_o_all, .ref h_o_text, .ref h_o_saved, .ref h_o_undone, .int o_undos, .int o_reached, .int o_length, .int o_begin, .int o_letters, .int o_sort, .long o_word, .int o_wrongAt, .int o_badAt, .int o_bad, .ref h_o_told, .ref h_o_shift, .int o_firstX, .int o_firstY, .int o_secondX, .int o_secondY, .ref h_o_rootOf, .ref h_o_becomes, .ref h_o_comes, .ref h_o_next, .int o_x])), (h_o_all, .inl (ca 0, 350, .inl o_all_r)), (h_o_plans, .inl (ca 0, 80, .inl o_plans_r)), (h_o_shift, .inl (ca 3, 768, .inl o_shift_r))] := hD
  refine lv_iload_n hx hb dX8_shifts_5 rfl (lv_at hl 1 rfl) ?_
  refine lv_iconst (v := 0) hx hb dX8_shifts_6 (by decide) ?_
  refine lv_aload_n hx hb dX8_shifts_7 rfl (lv_at hl 0 rfl) ?_
  obtain ⟨q8, hq8, hf⟩ := ds_ob hf
  refine ds_calli (wr := [(h_o_plans, .inl (ca 0, 80, .inl o_plans_r)), (h_o_shift, .inl (ca 3, 768, .inl o_shift_r))]) (va_runV (As := []) (rest := [.int (0 : Int32), .int p1]) ⟨hx, hb, hml, hown, hts⟩ (c_X8_turnings l dC dI ca sa h_o h_o_plans h_o_makers h_o_halves h_o_all h_o_text h_o_saved h_o_undone h_o_told h_o_shift h_o_rootOf h_o_becomes h_o_comes h_o_next H.size (0 : Int32) o_undos o_reached o_length o_begin o_letters o_sort o_word o_wrongAt o_badAt o_bad o_firstX o_firstY o_secondX o_secondY o_x o_all_r  q8 hq8) (cwV 0 hts (ds_gV kw_604 kw_605 kw_606 kw_597 kw_607) rfl rfl rfl (by decide +kernel) ⟨Nat.le_of_ble_eq_true rfl, Nat.le_of_ble_eq_true rfl⟩) ⟨ds_blind, va_recv hK hP (ci := 7) (q0 := 0) rfl rfl, ds_at hP hD hK hE hS hA [0, 1] rfl rfl _⟩ rfl rfl hl.1 rfl (lv_room (Nat.le_of_ble_eq_true rfl)) dX8_shifts_8 ⟨Nat.zero_le _, Nat.zero_le _⟩) hP hD hS hA [0, 1] [2, 3] rfl rfl rfl (by decide) (fun H locs hP hD hS => ?_)
  have hP : va_P (dC, dI) vwCl [(h_o_plans, .inl (ca 0, 80, .inl o_plans_r)), (h_o_shift, .inl (ca 3, 768, .inl o_shift_r)), (h_o, .inr (7, [.ref h_o_plans, .ref h_o_makers, .ref h_o_halves, .int (0 : Int32), .ref h_o_all, .ref h_o_text, .ref h_o_saved, .ref h_o_undone, .int o_undos, .int o_reached, .int o_length, .int o_begin, .int o_letters, .int o_sort, .long o_word, .int o_wrongAt, .int o_badAt, .int o_bad, .ref h_o_told, .ref h_o_shift, .int o_firstX, .int o_firstY, .int o_secondX, .int o_secondY, .ref h_o_rootOf, .ref h_o_becomes, .ref h_o_comes, .ref h_o_next, .int o_x])), (h_o_all, .inl (ca 0, 350, .inl o_all_r))] H := hP
  have hD : va_D A [(h_o_plans, .inl (ca 0, 80, .inl o_plans_r)), (h_o_shift, .inl (ca 3, 768, .inl o_shift_r)), (h_o, .inr (7, [.ref h_o_plans, .ref h_o_makers, .ref h_o_halves, .int (0 : Int32), .ref h_o_all, .ref h_o_text, .ref h_o_saved, .ref h_o_undone, .int o_undos, .int o_reached, .int o_length, .int o_begin, .int o_letters, .int o_sort, .long o_word, .int o_wrongAt, .int o_badAt, .int o_bad, .ref h_o_told, .ref h_o_shift, .int o_firstX, .int o_firstY, .int o_secondX, .int o_secondY, .ref h_o_rootOf, .ref h_o_becomes, .ref h_o_comes, .ref h_o_next, .int o_x])), (h_o_all, .inl (ca 0, 350, .inl o_all_r))] := hD
  refine lv_iconst (v := 1) hx hb dX8_shifts_11 (by decide) ?_
  refine lv_isub hx hb dX8_shifts_12 ?_
  obtain ⟨q13, hq13, hf⟩ := ds_ob hf
  refine ds_calli (wr := [(h_o_plans, .inl (ca 0, 80, .inl o_plans_r)), (h_o_shift, .inl (ca 3, 768, .inl o_shift_r)), (h_o, .inr (7, [.ref h_o_plans, .ref h_o_makers, .ref h_o_halves, .int (0 : Int32), .ref h_o_all, .ref h_o_text, .ref h_o_saved, .ref h_o_undone, .int o_undos, .int o_reached, .int o_length, .int o_begin, .int o_letters, .int o_sort, .long o_word, .int o_wrongAt, .int o_badAt, .int o_bad, .ref h_o_told, .ref h_o_shift, .int o_firstX, .int o_firstY, .int o_secondX, .int o_secondY, .ref h_o_rootOf, .ref h_o_becomes, .ref h_o_comes, .ref h_o_next, .int o_x])), (h_o_all, .inl (ca 0, 350, .inl o_all_r))]) (va_runS (As := [.int p1, .int (0 : Int32), .int (q8 - (1 : Int32))]) (rest := []) ⟨hx, hb, hml, hown, hts⟩ (c_X8_in l dC dI ca sa  H.size  p1 (0 : Int32) (q8 - (1 : Int32)) q13 hq13) (va_cwS 3 hts (ds_gS kw_619 kw_620 kw_597 kw_621) rfl rfl rfl (by decide +kernel) ⟨Nat.le_of_ble_eq_true rfl, Nat.le_of_ble_eq_true rfl⟩) ⟨ds_blind, ds_at hP hD hK hE hS hA [] rfl rfl _⟩ rfl rfl hl.1 rfl (lv_room (Nat.le_of_ble_eq_true rfl)) dX8_shifts_13 ⟨Nat.zero_le _, Nat.zero_le _⟩) hP hD hS hA [] [0, 1, 2, 3] rfl rfl rfl (by decide) (fun H locs hP hD hS => ?_)
  have hP : va_P (dC, dI) vwCl [(h_o_plans, .inl (ca 0, 80, .inl o_plans_r)), (h_o_shift, .inl (ca 3, 768, .inl o_shift_r)), (h_o, .inr (7, [.ref h_o_plans, .ref h_o_makers, .ref h_o_halves, .int (0 : Int32), .ref h_o_all, .ref h_o_text, .ref h_o_saved, .ref h_o_undone, .int o_undos, .int o_reached, .int o_length, .int o_begin, .int o_letters, .int o_sort, .long o_word, .int o_wrongAt, .int o_badAt, .int o_bad, .ref h_o_told, .ref h_o_shift, .int o_firstX, .int o_firstY, .int o_secondX, .int o_secondY, .ref h_o_rootOf, .ref h_o_becomes, .ref h_o_comes, .ref h_o_next, .int o_x])), (h_o_all, .inl (ca 0, 350, .inl o_all_r))] H := hP
  have hD : va_D A [(h_o_plans, .inl (ca 0, 80, .inl o_plans_r)), (h_o_shift, .inl (ca 3, 768, .inl o_shift_r)), (h_o, .inr (7, [.ref h_o_plans, .ref h_o_makers, .ref h_o_halves, .int (0 : Int32), .ref h_o_all, .ref h_o_text, .ref h_o_saved, .ref h_o_undone, .int o_undos, .int o_reached, .int o_length, .int o_begin, .int o_letters, .int o_sort, .long o_word, .int o_wrongAt, .int o_badAt, .int o_bad, .ref h_o_told, .ref h_o_shift, .int o_firstX, .int o_firstY, .int o_secondX, .int o_secondY, .ref h_o_rootOf, .ref h_o_becomes, .ref h_o_comes, .ref h_o_next, .int o_x])), (h_o_all, .inl (ca 0, 350, .inl o_all_r))] := hD
  refine lv_if_eq (tgt := 28) hx hb dX8_shifts_16 (by decide) (fun c_16 => ?_) (fun c_16 => ?_)
  · replace hf := ds_t c_16 hf
    refine lv_bipush (v := -2) hx hb dX8_shifts_28 (by decide) ?_
    have hf := Option.some.inj hf
    subst hf
    rw [eG0] at hG
    have hG : _ = res := hG
    subst hG
    exact W.iret (v := (-2 : Int32)) hx hb hr (fun t ht hW => ⟨⟨(-2 : Int32), (), rfl, rfl, by rw [ht]; exact (hP.sub [2, 3, 0, 1] rfl), (hD.sub [2, 3, 0, 1] rfl rfl)⟩, hS.F ht⟩) hS.2.2 dX8_shifts_30
  · replace hf := ds_f c_16 hf
    refine lv_iload_n hx hb dX8_shifts_19 rfl (lv_at hl 3 rfl) ?_
    refine lv_iconst (v := 0) hx hb dX8_shifts_20 (by decide) ?_
    refine lv_iconst (v := 1) hx hb dX8_shifts_21 (by decide) ?_
    obtain ⟨q22, hq22, hf⟩ := ds_ob hf
    refine ds_calli (wr := [(h_o_plans, .inl (ca 0, 80, .inl o_plans_r)), (h_o_shift, .inl (ca 3, 768, .inl o_shift_r)), (h_o, .inr (7, [.ref h_o_plans, .ref h_o_makers, .ref h_o_halves, .int (0 : Int32), .ref h_o_all, .ref h_o_text, .ref h_o_saved, .ref h_o_undone, .int o_undos, .int o_reached, .int o_length, .int o_begin, .int o_letters, .int o_sort, .long o_word, .int o_wrongAt, .int o_badAt, .int o_bad, .ref h_o_told, .ref h_o_shift, .int o_firstX, .int o_firstY, .int o_secondX, .int o_secondY, .ref h_o_rootOf, .ref h_o_becomes, .ref h_o_comes, .ref h_o_next, .int o_x])), (h_o_all, .inl (ca 0, 350, .inl o_all_r))]) (va_runS (As := [.int p3, .int (0 : Int32), .int (1 : Int32)]) (rest := []) ⟨hx, hb, hml, hown, hts⟩ (c_X8_in l dC dI ca sa  H.size  p3 (0 : Int32) (1 : Int32) q22 hq22) (va_cwS 3 hts (ds_gS kw_619 kw_620 kw_597 kw_621) rfl rfl rfl (by decide +kernel) ⟨Nat.le_of_ble_eq_true rfl, Nat.le_of_ble_eq_true rfl⟩) ⟨ds_blind, ds_at hP hD hK hE hS hA [] rfl rfl _⟩ rfl rfl hl.1 rfl (lv_room (Nat.le_of_ble_eq_true rfl)) dX8_shifts_22 ⟨Nat.zero_le _, Nat.zero_le _⟩) hP hD hS hA [] [0, 1, 2, 3] rfl rfl rfl (by decide) (fun H locs hP hD hS => ?_)
    have hP : va_P (dC, dI) vwCl [(h_o_plans, .inl (ca 0, 80, .inl o_plans_r)), (h_o_shift, .inl (ca 3, 768, .inl o_shift_r)), (h_o, .inr (7, [.ref h_o_plans, .ref h_o_makers, .ref h_o_halves, .int (0 : Int32), .ref h_o_all, .ref h_o_text, .ref h_o_saved, .ref h_o_undone, .int o_undos, .int o_reached, .int o_length, .int o_begin, .int o_letters, .int o_sort, .long o_word, .int o_wrongAt, .int o_badAt, .int o_bad, .ref h_o_told, .ref h_o_shift, .int o_firstX, .int o_firstY, .int o_secondX, .int o_secondY, .ref h_o_rootOf, .ref h_o_becomes, .ref h_o_comes, .ref h_o_next, .int o_x])), (h_o_all, .inl (ca 0, 350, .inl o_all_r))] H := hP
    have hD : va_D A [(h_o_plans, .inl (ca 0, 80, .inl o_plans_r)), (h_o_shift, .inl (ca 3, 768, .inl o_shift_r)), (h_o, .inr (7, [.ref h_o_plans, .ref h_o_makers, .ref h_o_halves, .int (0 : Int32), .ref h_o_all, .ref h_o_text, .ref h_o_saved, .ref h_o_undone, .int o_undos, .int o_reached, .int o_length, .int o_begin, .int o_letters, .int o_sort, .long o_word, .int o_wrongAt, .int o_badAt, .int o_bad, .ref h_o_told, .ref h_o_shift, .int o_firstX, .int o_firstY, .int o_secondX, .int o_secondY, .ref h_o_rootOf, .ref h_o_becomes, .ref h_o_comes, .ref h_o_next, .int o_x])), (h_o_all, .inl (ca 0, 350, .inl o_all_r))] := hD
    refine lv_if_ne (tgt := 31) hx hb dX8_shifts_25 (by decide) (fun c_25 => ?_) (fun c_25 => ?_)
    · replace hf := ds_f c_25 hf
      refine lv_aload_n hx hb dX8_shifts_31 rfl (lv_at hl 0 rfl) ?_
      obtain ⟨q32, hq32, hf⟩ := ds_ob hf
      refine ds_callv (wr := []) (va_runV (As := []) (rest := []) ⟨hx, hb, hml, hown, hts⟩ (c_X8_laysShifts l dC dI ca sa h_o h_o_plans h_o_makers h_o_halves h_o_all h_o_text h_o_saved h_o_undone h_o_told h_o_shift h_o_rootOf h_o_becomes h_o_comes h_o_next H.size (0 : Int32) o_undos o_reached o_length o_begin o_letters o_sort o_word o_wrongAt o_badAt o_bad o_firstX o_firstY o_secondX o_secondY o_x o_all_r o_plans_r o_shift_r  q32 hq32) (cwV 0 hts (ds_gV kw_764 kw_765 kw_766 kw_597 kw_767) rfl rfl rfl (by decide +kernel) ⟨Nat.le_of_ble_eq_true rfl, Nat.le_of_ble_eq_true rfl⟩) ⟨ds_blind, va_recv hK hP (ci := 7) (q0 := 2) rfl rfl, ds_at hP hD hK hE hS hA [2, 3, 0, 1] rfl rfl _⟩ rfl rfl hl.1 rfl (lv_room (Nat.le_of_ble_eq_true rfl)) dX8_shifts_32 ⟨Nat.zero_le _, Nat.zero_le _⟩) hP hD hS hA [2, 3, 0, 1] [] rfl rfl rfl (by decide) (fun H locs hP hD hS => ?_)
      have hP : va_P (dC, dI) vwCl [(h_o, .inr (7, [.ref h_o_plans, .ref h_o_makers, .ref h_o_halves, .int (0 : Int32), .ref h_o_all, .ref h_o_text, .ref h_o_saved, .ref h_o_undone, .int o_undos, .int o_reached, .int o_length, .int o_begin, .int o_letters, .int o_sort, .long o_word, .int o_wrongAt, .int o_badAt, .int o_bad, .ref h_o_told, .ref h_o_shift, .int o_firstX, .int o_firstY, .int o_secondX, .int o_secondY, .ref h_o_rootOf, .ref h_o_becomes, .ref h_o_comes, .ref h_o_next, .int o_x])), (h_o_all, .inl (ca 0, 350, .inl o_all_r)), (h_o_plans, .inl (ca 0, 80, .inl o_plans_r)), (h_o_shift, .inl (ca 3, 768, .inl q32))] H := hP
      have hD : va_D A [(h_o, .inr (7, [.ref h_o_plans, .ref h_o_makers, .ref h_o_halves, .int (0 : Int32), .ref h_o_all, .ref h_o_text, .ref h_o_saved, .ref h_o_undone, .int o_undos, .int o_reached, .int o_length, .int o_begin, .int o_letters, .int o_sort, .long o_word, .int o_wrongAt, .int o_badAt, .int o_bad, .ref h_o_told, .ref h_o_shift, .int o_firstX, .int o_firstY, .int o_secondX, .int o_secondY, .ref h_o_rootOf, .ref h_o_becomes, .ref h_o_comes, .ref h_o_next, .int o_x])), (h_o_all, .inl (ca 0, 350, .inl o_all_r)), (h_o_plans, .inl (ca 0, 80, .inl o_plans_r)), (h_o_shift, .inl (ca 3, 768, .inl q32))] := hD
      refine lv_iload_n hx hb dX8_shifts_35 rfl (lv_at hl 2 rfl) ?_
      refine lv_iconst (v := -1) hx hb dX8_shifts_36 (by decide) ?_
      refine lv_icmp_ne (tgt := 55) hx hb dX8_shifts_37 (by decide) (fun c_37 => ?_) (fun c_37 => ?_)
      · replace hf := ds_f c_37 hf
        refine lv_iconst (v := 0) hx hb dX8_shifts_55 (by decide) ?_
        refine lv_istore (lv' := [(4, .int (0 : Int32)), (0, .ref h_o), (1, .int p1), (2, .int p2), (3, .int p3)]) hx hb dX8_shifts_56 hl (by decide) rfl (fun ls hl => ?_)
        refine lv_iconst (v := 0) hx hb dX8_shifts_58 (by decide) ?_
        refine lv_istore (lv' := [(5, .int (0 : Int32)), (4, .int (0 : Int32)), (0, .ref h_o), (1, .int p1), (2, .int p2), (3, .int p3)]) hx hb dX8_shifts_59 hl (by decide) rfl (fun ls hl => ?_)
        exact h1 (J_61 (0 : Int32) q32 1000 (0 : Int32) (0 : Int32) _ hf hG _ _ hP hD hS _ (lv_sub hl [2, 3, 4, 5, 1, 0] rfl))
      · replace hf := ds_t c_37 hf
        refine lv_iload_n hx hb dX8_shifts_40 rfl (lv_at hl 3 rfl) ?_
        refine lv_if_ne (tgt := 52) hx hb dX8_shifts_41 (by decide) (fun c_41 => ?_) (fun c_41 => ?_)
        · replace hf := ds_f c_41 hf
          refine lv_bipush (v := -2) hx hb dX8_shifts_52 (by decide) ?_
          have hf := Option.some.inj hf
          subst hf
          rw [eG0] at hG
          have hG : _ = res := hG
          subst hG
          exact W.iret (v := (-2 : Int32)) hx hb hr (fun t ht hW => ⟨⟨(-2 : Int32), (), rfl, rfl, by rw [ht]; exact hP, hD⟩, hS.F ht⟩) hS.2.2 dX8_shifts_54
        · replace hf := ds_t c_41 hf
          refine lv_aload_n hx hb dX8_shifts_44 rfl (lv_at hl 0 rfl) ?_
          refine lv_iload_n hx hb dX8_shifts_45 rfl (lv_at hl 1 rfl) ?_
          obtain ⟨q46, hq46, hf⟩ := ds_ob hf
          refine ds_calli (wr := [(h_o_plans, .inl (ca 0, 80, .inl o_plans_r))]) (va_runV (As := [.int p1]) (rest := []) ⟨hx, hb, hml, hown, hts⟩ (c_X8_shiftsOf l dC dI ca sa h_o h_o_plans h_o_makers h_o_halves h_o_all h_o_text h_o_saved h_o_undone h_o_told h_o_shift h_o_rootOf h_o_becomes h_o_comes h_o_next H.size (0 : Int32) o_undos o_reached o_length o_begin o_letters o_sort o_word o_wrongAt o_badAt o_bad o_firstX o_firstY o_secondX o_secondY o_x o_all_r q32 p1 q46 hq46) (cwV 1 hts (ds_gV kw_687 kw_688 kw_689 kw_597 kw_690) rfl rfl rfl (by decide +kernel) ⟨Nat.le_of_ble_eq_true rfl, Nat.le_of_ble_eq_true rfl⟩) ⟨ds_blind, va_recv hK hP (ci := 7) (q0 := 0) rfl rfl, ds_at hP hD hK hE hS hA [0, 1, 3] rfl rfl _⟩ rfl rfl hl.1 rfl (lv_room (Nat.le_of_ble_eq_true rfl)) dX8_shifts_46 ⟨Nat.zero_le _, Nat.zero_le _⟩) hP hD hS hA [0, 1, 3] [2] rfl rfl rfl (by decide) (fun H locs hP hD hS => ?_)
          have hP : va_P (dC, dI) vwCl [(h_o_plans, .inl (ca 0, 80, .inl o_plans_r)), (h_o, .inr (7, [.ref h_o_plans, .ref h_o_makers, .ref h_o_halves, .int (0 : Int32), .ref h_o_all, .ref h_o_text, .ref h_o_saved, .ref h_o_undone, .int o_undos, .int o_reached, .int o_length, .int o_begin, .int o_letters, .int o_sort, .long o_word, .int o_wrongAt, .int o_badAt, .int o_bad, .ref h_o_told, .ref h_o_shift, .int o_firstX, .int o_firstY, .int o_secondX, .int o_secondY, .ref h_o_rootOf, .ref h_o_becomes, .ref h_o_comes, .ref h_o_next, .int o_x])), (h_o_all, .inl (ca 0, 350, .inl o_all_r)), (h_o_shift, .inl (ca 3, 768, .inl q32))] H := hP
          have hD : va_D A [(h_o_plans, .inl (ca 0, 80, .inl o_plans_r)), (h_o, .inr (7, [.ref h_o_plans, .ref h_o_makers, .ref h_o_halves, .int (0 : Int32), .ref h_o_all, .ref h_o_text, .ref h_o_saved, .ref h_o_undone, .int o_undos, .int o_reached, .int o_length, .int o_begin, .int o_letters, .int o_sort, .long o_word, .int o_wrongAt, .int o_badAt, .int o_bad, .ref h_o_told, .ref h_o_shift, .int o_firstX, .int o_firstY, .int o_secondX, .int o_secondY, .ref h_o_rootOf, .ref h_o_becomes, .ref h_o_comes, .ref h_o_next, .int o_x])), (h_o_all, .inl (ca 0, 350, .inl o_all_r)), (h_o_shift, .inl (ca 3, 768, .inl q32))] := hD
          refine lv_goto (tgt := 54) hx hb dX8_shifts_49 (by decide) ?_
          have hf := Option.some.inj hf
          subst hf
          rw [eG0] at hG
          have hG : _ = res := hG
          subst hG
          exact W.iret (v := q46) hx hb hr (fun t ht hW => ⟨⟨q46, (), rfl, rfl, by rw [ht]; exact (hP.sub [1, 2, 0, 3] rfl), (hD.sub [1, 2, 0, 3] rfl rfl)⟩, hS.F ht⟩) hS.2.2 dX8_shifts_54
    · replace hf := ds_t c_25 hf
      refine lv_bipush (v := -2) hx hb dX8_shifts_28 (by decide) ?_
      have hf := Option.some.inj hf
      subst hf
      rw [eG0] at hG
      have hG : _ = res := hG
      subst hG
      exact W.iret (v := (-2 : Int32)) hx hb hr (fun t ht hW => ⟨⟨(-2 : Int32), (), rfl, rfl, by rw [ht]; exact (hP.sub [2, 3, 0, 1] rfl), (hD.sub [2, 3, 0, 1] rfl rfl)⟩, hS.F ht⟩) hS.2.2 dX8_shifts_30
theorem dX8_flip_0 : decode cX8_flip 0 = .ok (.aload_n 0, 1) := by decide +kernel
theorem dX8_flip_1 : decode cX8_flip 1 = .ok (.iconst 0, 1) := by decide +kernel
theorem dX8_flip_2 : decode cX8_flip 2 = .ok (.putfield 51, 3) := by decide +kernel
theorem dX8_flip_5 : decode cX8_flip 5 = .ok (.aload_n 0, 1) := by decide +kernel
theorem dX8_flip_6 : decode cX8_flip 6 = .ok (.invokevirtual 227, 3) := by decide +kernel
theorem dX8_flip_9 : decode cX8_flip 9 = .ok (.iload_n 1, 1) := by decide +kernel
theorem dX8_flip_10 : decode cX8_flip 10 = .ok (.ifCond .lt 11, 3) := by decide +kernel
theorem dX8_flip_13 : decode cX8_flip 13 = .ok (.aload_n 0, 1) := by decide +kernel
theorem dX8_flip_14 : decode cX8_flip 14 = .ok (.iload_n 1, 1) := by decide +kernel
theorem dX8_flip_15 : decode cX8_flip 15 = .ok (.invokevirtual 180, 3) := by decide +kernel
theorem dX8_flip_18 : decode cX8_flip 18 = .ok (.ifCond .ne 7, 3) := by decide +kernel
theorem dX8_flip_21 : decode cX8_flip 21 = .ok (.iconst (-1), 1) := by decide +kernel
theorem dX8_flip_22 : decode cX8_flip 22 = .ok (.goto 16, 3) := by decide +kernel
theorem dX8_flip_25 : decode cX8_flip 25 = .ok (.aload_n 0, 1) := by decide +kernel
theorem dX8_flip_26 : decode cX8_flip 26 = .ok (.iload_n 1, 1) := by decide +kernel
theorem dX8_flip_27 : decode cX8_flip 27 = .ok (.invokevirtual 186, 3) := by decide +kernel
theorem dX8_flip_30 : decode cX8_flip 30 = .ok (.ifCond .eq 7, 3) := by decide +kernel
theorem dX8_flip_33 : decode cX8_flip 33 = .ok (.iconst 1, 1) := by decide +kernel
theorem dX8_flip_34 : decode cX8_flip 34 = .ok (.goto 4, 3) := by decide +kernel
theorem dX8_flip_37 : decode cX8_flip 37 = .ok (.iconst 0, 1) := by decide +kernel
theorem dX8_flip_38 : decode cX8_flip 38 = .ok (.ireturn, 1) := by decide +kernel
def fX8_flip_21 (o_raised : Int32) (o_shift_r : Nat → Int32) : Option (Int32 × Int32 × (Nat → Int32)) :=
  some ((-1 : Int32), o_raised, o_shift_r)
def fX8_flip (o_all_r : Nat → Int32) (o_plans_r : Nat → Int32) (o_shift_r : Nat → Int32) (p1 : Int32) : Option (Int32 × Int32 × (Nat → Int32)) :=
  Option.bind (fX8_laysShifts o_all_r o_plans_r o_shift_r) fun q6 => if p1 < 0 then fX8_flip_21 (0 : Int32) q6 else Option.bind (fX8_isFlipThere o_all_r q6 p1) fun q15 => if q15 = 0 then fX8_flip_21 (0 : Int32) q6 else Option.bind (fX8_isMirror o_all_r o_plans_r q6 p1) fun q27 => if q27 = 0 then some ((0 : Int32), (0 : Int32), q6) else some ((1 : Int32), (0 : Int32), q6)
set_option maxHeartbeats 4000000 in
set_option maxRecDepth 100000 in
theorem c_X8_flip (l : Launch) (dC : Nat → ClassId) (dI : Nat → Nat → Nat) (ca : Nat → ClassId) (sa : Nat → Nat) (h_o : Nat) (h_o_plans : Nat) (h_o_makers : Nat) (h_o_halves : Nat) (h_o_all : Nat) (h_o_text : Nat) (h_o_saved : Nat) (h_o_undone : Nat) (h_o_told : Nat) (h_o_shift : Nat) (h_o_rootOf : Nat) (h_o_becomes : Nat) (h_o_comes : Nat) (h_o_next : Nat) (sz : Nat) (o_raised : Int32) (o_undos : Int32) (o_reached : Int32) (o_length : Int32) (o_begin : Int32) (o_letters : Int32) (o_sort : Int32) (o_word : Int64) (o_wrongAt : Int32) (o_badAt : Int32) (o_bad : Int32) (o_firstX : Int32) (o_firstY : Int32) (o_secondX : Int32) (o_secondY : Int32) (o_x : Int32) (o_all_r : Nat → Int32) (o_plans_r : Nat → Int32) (o_shift_r : Nat → Int32) (p1 : Int32) (res : Int32 × Int32 × (Nat → Int32)) (hf : fX8_flip o_all_r o_plans_r o_shift_r p1 = some res) : Met l yX8_flip (Cond.code yX8_flip cX8_flip 2 (some .int) :: ds_gw) { frames := 5, cells := 0, slots := 0, locals := 115 } (va_Pc [.ref h_o, .int p1] (ds_Pre dC dI ca sa [(h_o, .inr (7, [.ref h_o_plans, .ref h_o_makers, .ref h_o_halves, .int o_raised, .ref h_o_all, .ref h_o_text, .ref h_o_saved, .ref h_o_undone, .int o_undos, .int o_reached, .int o_length, .int o_begin, .int o_letters, .int o_sort, .long o_word, .int o_wrongAt, .int o_badAt, .int o_bad, .ref h_o_told, .ref h_o_shift, .int o_firstX, .int o_firstY, .int o_secondX, .int o_secondY, .ref h_o_rootOf, .ref h_o_becomes, .ref h_o_comes, .ref h_o_next, .int o_x])), (h_o_all, .inl (ca 0, 350, .inl o_all_r)), (h_o_plans, .inl (ca 0, 80, .inl o_plans_r)), (h_o_shift, .inl (ca 3, 768, .inl o_shift_r))] sz)) (va_Qi (fun r (_ : Unit) => r = res.1) (ds_B dC dI (va_A [(h_o, .inr (7, [.ref h_o_plans, .ref h_o_makers, .ref h_o_halves, .int o_raised, .ref h_o_all, .ref h_o_text, .ref h_o_saved, .ref h_o_undone, .int o_undos, .int o_reached, .int o_length, .int o_begin, .int o_letters, .int o_sort, .long o_word, .int o_wrongAt, .int o_badAt, .int o_bad, .ref h_o_told, .ref h_o_shift, .int o_firstX, .int o_firstY, .int o_secondX, .int o_secondY, .ref h_o_rootOf, .ref h_o_becomes, .ref h_o_comes, .ref h_o_next, .int o_x])), (h_o_all, .inl (ca 0, 350, .inl o_all_r)), (h_o_plans, .inl (ca 0, 80, .inl o_plans_r)), (h_o_shift, .inl (ca 3, 768, .inl o_shift_r))] sz) [(h_o, .inr (7, [.ref h_o_plans, .ref h_o_makers, .ref h_o_halves, .int res.2.1, .ref h_o_all, .ref h_o_text, .ref h_o_saved, .ref h_o_undone, .int o_undos, .int o_reached, .int o_length, .int o_begin, .int o_letters, .int o_sort, .long o_word, .int o_wrongAt, .int o_badAt, .int o_bad, .ref h_o_told, .ref h_o_shift, .int o_firstX, .int o_firstY, .int o_secondX, .int o_secondY, .ref h_o_rootOf, .ref h_o_becomes, .ref h_o_comes, .ref h_o_next, .int o_x])), (h_o_all, .inl (ca 0, 350, .inl o_all_r)), (h_o_plans, .inl (ca 0, 80, .inl o_plans_r)), (h_o_shift, .inl (ca 3, 768, .inl res.2.2))]) (va_A [(h_o, .inr (7, [.ref h_o_plans, .ref h_o_makers, .ref h_o_halves, .int o_raised, .ref h_o_all, .ref h_o_text, .ref h_o_saved, .ref h_o_undone, .int o_undos, .int o_reached, .int o_length, .int o_begin, .int o_letters, .int o_sort, .long o_word, .int o_wrongAt, .int o_badAt, .int o_bad, .ref h_o_told, .ref h_o_shift, .int o_firstX, .int o_firstY, .int o_secondX, .int o_secondY, .ref h_o_rootOf, .ref h_o_becomes, .ref h_o_comes, .ref h_o_next, .int o_x])), (h_o_all, .inl (ca 0, 350, .inl o_all_r)), (h_o_plans, .inl (ca 0, 80, .inl o_plans_r)), (h_o_shift, .inl (ca 3, 768, .inl o_shift_r))] sz)) 0 0 (va_A [(h_o, .inr (7, [.ref h_o_plans, .ref h_o_makers, .ref h_o_halves, .int o_raised, .ref h_o_all, .ref h_o_text, .ref h_o_saved, .ref h_o_undone, .int o_undos, .int o_reached, .int o_length, .int o_begin, .int o_letters, .int o_sort, .long o_word, .int o_wrongAt, .int o_badAt, .int o_bad, .ref h_o_told, .ref h_o_shift, .int o_firstX, .int o_firstY, .int o_secondX, .int o_secondY, .ref h_o_rootOf, .ref h_o_becomes, .ref h_o_comes, .ref h_o_next, .int o_x])), (h_o_all, .inl (ca 0, 350, .inl o_all_r)), (h_o_plans, .inl (ca 0, 80, .inl o_plans_r)), (h_o_shift, .inl (ca 3, 768, .inl o_shift_r))] sz) := by
  refine Met.ofW (cc := cX8_flip) (maxL := 2) (ret := (some .int)) (by decide) rfl ?_
  intro p e s m args below meth c s₁ B hml hv
  obtain ⟨rfl, hsz, hP, hK, hD0, hE⟩ := hv
  have hx := B.exec
  have hb := B.bytes
  have hr := B.returns
  have hts := atoms_spec (ws := Cond.code yX8_flip cX8_flip 2 (some .int) :: ds_gw) B.pre
  have hg : ∀ {w : Cond}, w ∈ ds_gw → w.before _ s = true := fun h => hts _ (List.mem_cons_of_mem _ h)
  have hown : s.vm.findClass RX8 = some m.cls := findClass_of_methodNamed B.named
  have hlocks := B.notSynchronized
  subst hsz
  have hD := hD0.self (sz := s.heap.size)
  generalize hAe : va_A [(h_o, .inr (7, [.ref h_o_plans, .ref h_o_makers, .ref h_o_halves, .int o_raised, .ref h_o_all, .ref h_o_text, .ref h_o_saved, .ref h_o_undone, .int o_undos, .int o_reached, .int o_length, .int o_begin, .int o_letters, .int o_sort, .long o_word, .int o_wrongAt, .int o_badAt, .int o_bad, .ref h_o_told, .ref h_o_shift, .int o_firstX, .int o_firstY, .int o_secondX, .int o_secondY, .ref h_o_rootOf, .ref h_o_becomes, .ref h_o_comes, .ref h_o_next, .int o_x])), (h_o_all, .inl (ca 0, 350, .inl o_all_r)), (h_o_plans, .inl (ca 0, 80, .inl o_plans_r)), (h_o_shift, .inl (ca 3, 768, .inl o_shift_r))] s.heap.size = A at hD hE ⊢
  have hA : ∀ q : Nat, s.heap.size ≤ q → A q := fun q h => by rw [← hAe]; exact Or.inr h
  have hS : va_S A s.heap s.heap [] := va_S.rf
  have hl := lv_entry ([.ref h_o, .int p1]) (n := 2) (Nat.le_of_ble_eq_true rfl)
  rw [lg_entry_eq]
  generalize (lg_sl ([.ref h_o, .int p1]) ++ List.replicate (2 - (lg_sl ([.ref h_o, .int p1])).length) Slot.unset).toArray = ls at hl ⊢
  have hl : lv_has ls 2 [(0, .ref h_o), (1, .int p1)] := hl
  obtain ⟨G0, eG0⟩ : ∃ G : (Int32 × Int32 × (Nat → Int32)) → Prop, G = (fun r => r = res) := ⟨_, rfl⟩
  obtain ⟨rr, hrr⟩ : ∃ z, z = res := ⟨_, rfl⟩
  rw [← hrr] at hf
  have hG : G0 rr := by subst eG0; exact hrr
  refine ds_cap (fun WW h1 h2 => ?_)
  have J_21 : ∀ (o_raised : Int32) (o_shift_r : Nat → Int32) (rr : Int32 × Int32 × (Nat → Int32)) (hf : fX8_flip_21 o_raised o_shift_r = some rr) (hG : G0 rr) (H : Heap) (locs : List Loc) (hP : va_P (dC, dI) vwCl [(h_o, .inr (7, [.ref h_o_plans, .ref h_o_makers, .ref h_o_halves, .int o_raised, .ref h_o_all, .ref h_o_text, .ref h_o_saved, .ref h_o_undone, .int o_undos, .int o_reached, .int o_length, .int o_begin, .int o_letters, .int o_sort, .long o_word, .int o_wrongAt, .int o_badAt, .int o_bad, .ref h_o_told, .ref h_o_shift, .int o_firstX, .int o_firstY, .int o_secondX, .int o_secondY, .ref h_o_rootOf, .ref h_o_becomes, .ref h_o_comes, .ref h_o_next, .int o_x])), (h_o_all, .inl (ca 0, 350, .inl o_all_r)), (h_o_plans, .inl (ca 0, 80, .inl o_plans_r)), (h_o_shift, .inl (ca 3, 768, .inl o_shift_r))] H) (hD : va_D A [(h_o, .inr (7, [.ref h_o_plans, .ref h_o_makers, .ref h_o_halves, .int o_raised, .ref h_o_all, .ref h_o_text, .ref h_o_saved, .ref h_o_undone, .int o_undos, .int o_reached, .int o_length, .int o_begin, .int o_letters, .int o_sort, .long o_word, .int o_wrongAt, .int o_badAt, .int o_bad, .ref h_o_told, .ref h_o_shift, .int o_firstX, .int o_firstY, .int o_secondX, .int o_secondY, .ref h_o_rootOf, .ref h_o_becomes, .ref h_o_comes, .ref h_o_next, .int o_x])), (h_o_all, .inl (ca 0, 350, .inl o_all_r)), (h_o_plans, .inl (ca 0, 80, .inl o_plans_r)), (h_o_shift, .inl (ca 3, 768, .inl o_shift_r))]) (hS : va_S A s.heap H locs) (ls : Array Slot) (hl : lv_has ls 2 []), WW H locs (F0 m 21 ls []) := by
    intro o_raised o_shift_r rr hf hG H locs hP hD hS ls hl
    refine h2 ?_
    unfold fX8_flip_21 at hf
    refine lv_iconst (v := -1) hx hb dX8_flip_21 (by decide) ?_
    refine lv_goto (tgt := 38) hx hb dX8_flip_22 (by decide) ?_
    have hf := Option.some.inj hf
    subst hf
    rw [eG0] at hG
    have hG : _ = res := hG
    subst hG
    exact W.iret (v := (-1 : Int32)) hx hb hr (fun t ht hW => ⟨⟨(-1 : Int32), (), rfl, rfl, by rw [ht]; exact hP, hD⟩, hS.F ht⟩) hS.2.2 dX8_flip_38
  unfold fX8_flip at hf
  refine lv_aload_n hx hb dX8_flip_0 rfl (lv_at hl 0 rfl) ?_
  refine lv_iconst (v := 0) hx hb dX8_flip_1 (by decide) ?_
  refine va_put (D := (dC, dI)) (ci := 7) (v := .int (0 : Int32)) (ty := tyX8 3) (C := RX8) (T := TX8) (N := 29) hx hb hts (fun w h => List.mem_cons_of_mem _ (kc_X8 w h)) tyX8 tyX8_ok nmX8 hown hK hP hD hS 0 rfl rfl 3 (by decide) (hg kw_564) (fun _ h9 => h9) rfl (by decide +kernel) rfl rfl (Nat.le_of_ble_eq_true rfl) dX8_flip_2 (fun H locs hP hD hS => ?_)
  have hP : va_P (dC, dI) vwCl [(h_o, .inr (7, [.ref h_o_plans, .ref h_o_makers, .ref h_o_halves, .int (0 : Int32), .ref h_o_all, .ref h_o_text, .ref h_o_saved, .ref h_o_undone, .int o_undos, .int o_reached, .int o_length, .int o_begin, .int o_letters, .int o_sort, .long o_word, .int o_wrongAt, .int o_badAt, .int o_bad, .ref h_o_told, .ref h_o_shift, .int o_firstX, .int o_firstY, .int o_secondX, .int o_secondY, .ref h_o_rootOf, .ref h_o_becomes, .ref h_o_comes, .ref h_o_next, .int o_x])), (h_o_all, .inl (ca 0, 350, .inl o_all_r)), (h_o_plans, .inl (ca 0, 80, .inl o_plans_r)), (h_o_shift, .inl (ca 3, 768, .inl o_shift_r))] H := hP
  have hD : va_D A [(h_o, .inr (7, [.ref h_o_plans, .ref h_o_makers, .ref h_o_halves, .int (0 : Int32), .ref h_o_all, .ref h_o_text, .ref h_o_saved, .ref h_o_undone, .int o_undos, .int o_reached, .int o_length, .int o_begin, .int o_letters, .int o_sort, .long o_word, .int o_wrongAt, .int o_badAt, .int o_bad, .ref h_o_told, .ref h_o_shift, .int o_firstX, .int o_firstY, .int o_secondX, .int o_secondY, .ref h_o_rootOf, .ref h_o_becomes, .ref h_o_comes, .ref h_o_next, .int o_x])), (h_o_all, .inl (ca 0, 350, .inl o_all_r)), (h_o_plans, .inl (ca 0, 80, .inl o_plans_r)), (h_o_shift, .inl (ca 3, 768, .inl o_shift_r))] := hD
  refine lv_aload_n hx hb dX8_flip_5 rfl (lv_at hl 0 rfl) ?_
  obtain ⟨q6, hq6, hf⟩ := ds_ob hf
  refine ds_callv (wr := []) (va_runV (As := []) (rest := []) ⟨hx, hb, hml, hown, hts⟩ (c_X8_laysShifts l dC dI ca sa h_o h_o_plans h_o_makers h_o_halves h_o_all h_o_text h_o_saved h_o_undone h_o_told h_o_shift h_o_rootOf h_o_becomes h_o_comes h_o_next H.size (0 : Int32) o_undos o_reached o_length o_begin o_letters o_sort o_word o_wrongAt o_badAt o_bad o_firstX o_firstY o_secondX o_secondY o_x o_all_r o_plans_r o_shift_r  q6 hq6) (cwV 0 hts (ds_gV kw_764 kw_765 kw_766 kw_597 kw_767) rfl rfl rfl (by decide +kernel) ⟨Nat.le_of_ble_eq_true rfl, Nat.le_of_ble_eq_true rfl⟩) ⟨ds_blind, va_recv hK hP (ci := 7) (q0 := 0) rfl rfl, ds_at hP hD hK hE hS hA [0, 1, 2, 3] rfl rfl _⟩ rfl rfl hl.1 rfl (lv_room (Nat.le_of_ble_eq_true rfl)) dX8_flip_6 ⟨Nat.zero_le _, Nat.zero_le _⟩) hP hD hS hA [0, 1, 2, 3] [] rfl rfl rfl (by decide) (fun H locs hP hD hS => ?_)
  have hP : va_P (dC, dI) vwCl [(h_o, .inr (7, [.ref h_o_plans, .ref h_o_makers, .ref h_o_halves, .int (0 : Int32), .ref h_o_all, .ref h_o_text, .ref h_o_saved, .ref h_o_undone, .int o_undos, .int o_reached, .int o_length, .int o_begin, .int o_letters, .int o_sort, .long o_word, .int o_wrongAt, .int o_badAt, .int o_bad, .ref h_o_told, .ref h_o_shift, .int o_firstX, .int o_firstY, .int o_secondX, .int o_secondY, .ref h_o_rootOf, .ref h_o_becomes, .ref h_o_comes, .ref h_o_next, .int o_x])), (h_o_all, .inl (ca 0, 350, .inl o_all_r)), (h_o_plans, .inl (ca 0, 80, .inl o_plans_r)), (h_o_shift, .inl (ca 3, 768, .inl q6))] H := hP
  have hD : va_D A [(h_o, .inr (7, [.ref h_o_plans, .ref h_o_makers, .ref h_o_halves, .int (0 : Int32), .ref h_o_all, .ref h_o_text, .ref h_o_saved, .ref h_o_undone, .int o_undos, .int o_reached, .int o_length, .int o_begin, .int o_letters, .int o_sort, .long o_word, .int o_wrongAt, .int o_badAt, .int o_bad, .ref h_o_told, .ref h_o_shift, .int o_firstX, .int o_firstY, .int o_secondX, .int o_secondY, .ref h_o_rootOf, .ref h_o_becomes, .ref h_o_comes, .ref h_o_next, .int o_x])), (h_o_all, .inl (ca 0, 350, .inl o_all_r)), (h_o_plans, .inl (ca 0, 80, .inl o_plans_r)), (h_o_shift, .inl (ca 3, 768, .inl q6))] := hD
  refine lv_iload_n hx hb dX8_flip_9 rfl (lv_at hl 1 rfl) ?_
  refine lv_if_lt (tgt := 21) hx hb dX8_flip_10 (by decide) (fun c_10 => ?_) (fun c_10 => ?_)
  · replace hf := ds_t c_10 hf
    exact h1 (J_21 (0 : Int32) q6 _ hf hG _ _ hP hD hS _ (lv_sub hl [] rfl))
  · replace hf := ds_f c_10 hf
    refine lv_aload_n hx hb dX8_flip_13 rfl (lv_at hl 0 rfl) ?_
    refine lv_iload_n hx hb dX8_flip_14 rfl (lv_at hl 1 rfl) ?_
    obtain ⟨q15, hq15, hf⟩ := ds_ob hf
    refine ds_calli (wr := [(h_o_plans, .inl (ca 0, 80, .inl o_plans_r))]) (va_runV (As := [.int p1]) (rest := []) ⟨hx, hb, hml, hown, hts⟩ (c_X8_isFlipThere l dC dI ca sa h_o h_o_plans h_o_makers h_o_halves h_o_all h_o_text h_o_saved h_o_undone h_o_told h_o_shift h_o_rootOf h_o_becomes h_o_comes h_o_next H.size (0 : Int32) o_undos o_reached o_length o_begin o_letters o_sort o_word o_wrongAt o_badAt o_bad o_firstX o_firstY o_secondX o_secondY o_x o_all_r q6 p1 q15 hq15) (cwV 1 hts (ds_gV kw_703 kw_704 kw_705 kw_597 kw_706) rfl rfl rfl (by decide +kernel) ⟨Nat.le_of_ble_eq_true rfl, Nat.le_of_ble_eq_true rfl⟩) ⟨ds_blind, va_recv hK hP (ci := 7) (q0 := 0) rfl rfl, ds_at hP hD hK hE hS hA [0, 1, 3] rfl rfl _⟩ rfl rfl hl.1 rfl (lv_room (Nat.le_of_ble_eq_true rfl)) dX8_flip_15 ⟨Nat.zero_le _, Nat.zero_le _⟩) hP hD hS hA [0, 1, 3] [2] rfl rfl rfl (by decide) (fun H locs hP hD hS => ?_)
    have hP : va_P (dC, dI) vwCl [(h_o_plans, .inl (ca 0, 80, .inl o_plans_r)), (h_o, .inr (7, [.ref h_o_plans, .ref h_o_makers, .ref h_o_halves, .int (0 : Int32), .ref h_o_all, .ref h_o_text, .ref h_o_saved, .ref h_o_undone, .int o_undos, .int o_reached, .int o_length, .int o_begin, .int o_letters, .int o_sort, .long o_word, .int o_wrongAt, .int o_badAt, .int o_bad, .ref h_o_told, .ref h_o_shift, .int o_firstX, .int o_firstY, .int o_secondX, .int o_secondY, .ref h_o_rootOf, .ref h_o_becomes, .ref h_o_comes, .ref h_o_next, .int o_x])), (h_o_all, .inl (ca 0, 350, .inl o_all_r)), (h_o_shift, .inl (ca 3, 768, .inl q6))] H := hP
    have hD : va_D A [(h_o_plans, .inl (ca 0, 80, .inl o_plans_r)), (h_o, .inr (7, [.ref h_o_plans, .ref h_o_makers, .ref h_o_halves, .int (0 : Int32), .ref h_o_all, .ref h_o_text, .ref h_o_saved, .ref h_o_undone, .int o_undos, .int o_reached, .int o_length, .int o_begin, .int o_letters, .int o_sort, .long o_word, .int o_wrongAt, .int o_badAt, .int o_bad, .ref h_o_told, .ref h_o_shift, .int o_firstX, .int o_firstY, .int o_secondX, .int o_secondY, .ref h_o_rootOf, .ref h_o_becomes, .ref h_o_comes, .ref h_o_next, .int o_x])), (h_o_all, .inl (ca 0, 350, .inl o_all_r)), (h_o_shift, .inl (ca 3, 768, .inl q6))] := hD
    refine lv_if_ne (tgt := 25) hx hb dX8_flip_18 (by decide) (fun c_18 => ?_) (fun c_18 => ?_)
    · replace hf := ds_f c_18 hf
      refine lv_aload_n hx hb dX8_flip_25 rfl (lv_at hl 0 rfl) ?_
      refine lv_iload_n hx hb dX8_flip_26 rfl (lv_at hl 1 rfl) ?_
      obtain ⟨q27, hq27, hf⟩ := ds_ob hf
      refine ds_calli (wr := []) (va_runV (As := [.int p1]) (rest := []) ⟨hx, hb, hml, hown, hts⟩ (c_X8_isMirror l dC dI ca sa h_o h_o_plans h_o_makers h_o_halves h_o_all h_o_text h_o_saved h_o_undone h_o_told h_o_shift h_o_rootOf h_o_becomes h_o_comes h_o_next H.size (0 : Int32) o_undos o_reached o_length o_begin o_letters o_sort o_word o_wrongAt o_badAt o_bad o_firstX o_firstY o_secondX o_secondY o_x o_all_r o_plans_r q6 p1 q27 hq27) (cwV 1 hts (ds_gV kw_707 kw_708 kw_709 kw_597 kw_710) rfl rfl rfl (by decide +kernel) ⟨Nat.le_of_ble_eq_true rfl, Nat.le_of_ble_eq_true rfl⟩) ⟨ds_blind, va_recv hK hP (ci := 7) (q0 := 1) rfl rfl, ds_at hP hD hK hE hS hA [1, 2, 0, 3] rfl rfl _⟩ rfl rfl hl.1 rfl (lv_room (Nat.le_of_ble_eq_true rfl)) dX8_flip_27 ⟨Nat.zero_le _, Nat.zero_le _⟩) hP hD hS hA [1, 2, 0, 3] [] rfl rfl rfl (by decide) (fun H locs hP hD hS => ?_)
      have hP : va_P (dC, dI) vwCl [(h_o, .inr (7, [.ref h_o_plans, .ref h_o_makers, .ref h_o_halves, .int (0 : Int32), .ref h_o_all, .ref h_o_text, .ref h_o_saved, .ref h_o_undone, .int o_undos, .int o_reached, .int o_length, .int o_begin, .int o_letters, .int o_sort, .long o_word, .int o_wrongAt, .int o_badAt, .int o_bad, .ref h_o_told, .ref h_o_shift, .int o_firstX, .int o_firstY, .int o_secondX, .int o_secondY, .ref h_o_rootOf, .ref h_o_becomes, .ref h_o_comes, .ref h_o_next, .int o_x])), (h_o_all, .inl (ca 0, 350, .inl o_all_r)), (h_o_plans, .inl (ca 0, 80, .inl o_plans_r)), (h_o_shift, .inl (ca 3, 768, .inl q6))] H := hP
      have hD : va_D A [(h_o, .inr (7, [.ref h_o_plans, .ref h_o_makers, .ref h_o_halves, .int (0 : Int32), .ref h_o_all, .ref h_o_text, .ref h_o_saved, .ref h_o_undone, .int o_undos, .int o_reached, .int o_length, .int o_begin, .int o_letters, .int o_sort, .long o_word, .int o_wrongAt, .int o_badAt, .int o_bad, .ref h_o_told, .ref h_o_shift, .int o_firstX, .int o_firstY, .int o_secondX, .int o_secondY, .ref h_o_rootOf, .ref h_o_becomes, .ref h_o_comes, .ref h_o_next, .int o_x])), (h_o_all, .inl (ca 0, 350, .inl o_all_r)), (h_o_plans, .inl (ca 0, 80, .inl o_plans_r)), (h_o_shift, .inl (ca 3, 768, .inl q6))] := hD
      refine lv_if_eq (tgt := 37) hx hb dX8_flip_30 (by decide) (fun c_30 => ?_) (fun c_30 => ?_)
      · replace hf := ds_t c_30 hf
        refine lv_iconst (v := 0) hx hb dX8_flip_37 (by decide) ?_
        have hf := Option.some.inj hf
        subst hf
        rw [eG0] at hG
        have hG : _ = res := hG
        subst hG
        exact W.iret (v := (0 : Int32)) hx hb hr (fun t ht hW => ⟨⟨(0 : Int32), (), rfl, rfl, by rw [ht]; exact hP, hD⟩, hS.F ht⟩) hS.2.2 dX8_flip_38
      · replace hf := ds_f c_30 hf
        refine lv_iconst (v := 1) hx hb dX8_flip_33 (by decide) ?_
        refine lv_goto (tgt := 38) hx hb dX8_flip_34 (by decide) ?_
        have hf := Option.some.inj hf
        subst hf
        rw [eG0] at hG
        have hG : _ = res := hG
        subst hG
        exact W.iret (v := (1 : Int32)) hx hb hr (fun t ht hW => ⟨⟨(1 : Int32), (), rfl, rfl, by rw [ht]; exact hP, hD⟩, hS.F ht⟩) hS.2.2 dX8_flip_38
    · replace hf := ds_t c_18 hf
      exact h1 (J_21 (0 : Int32) q6 _ hf hG _ _ (hP.sub [1, 2, 0, 3] rfl) (hD.sub [1, 2, 0, 3] rfl rfl) hS _ (lv_sub hl [] rfl))
theorem dX8_turnsAt_0 : decode cX8_turnsAt 0 = .ok (.iconst 0, 1) := by decide +kernel
theorem dX8_turnsAt_1 : decode cX8_turnsAt 1 = .ok (.istore_n 3, 1) := by decide +kernel
theorem dX8_turnsAt_2 : decode cX8_turnsAt 2 = .ok (.iconst 0, 1) := by decide +kernel
theorem dX8_turnsAt_3 : decode cX8_turnsAt 3 = .ok (.istore 4, 2) := by decide +kernel
theorem dX8_turnsAt_5 : decode cX8_turnsAt 5 = .ok (.iload 4, 2) := by decide +kernel
theorem dX8_turnsAt_7 : decode cX8_turnsAt 7 = .ok (.aload_n 0, 1) := by decide +kernel
theorem dX8_turnsAt_8 : decode cX8_turnsAt 8 = .ok (.invokevirtual 62, 3) := by decide +kernel
theorem dX8_turnsAt_11 : decode cX8_turnsAt 11 = .ok (.iconst 2, 1) := by decide +kernel
theorem dX8_turnsAt_12 : decode cX8_turnsAt 12 = .ok (.idiv, 1) := by decide +kernel
theorem dX8_turnsAt_13 : decode cX8_turnsAt 13 = .ok (.if_icmp .ge 88, 3) := by decide +kernel
theorem dX8_turnsAt_16 : decode cX8_turnsAt 16 = .ok (.iload_n 1, 1) := by decide +kernel
theorem dX8_turnsAt_17 : decode cX8_turnsAt 17 = .ok (.aload_n 0, 1) := by decide +kernel
theorem dX8_turnsAt_18 : decode cX8_turnsAt 18 = .ok (.iload 4, 2) := by decide +kernel
theorem dX8_turnsAt_20 : decode cX8_turnsAt 20 = .ok (.iload_n 1, 1) := by decide +kernel
theorem dX8_turnsAt_21 : decode cX8_turnsAt 21 = .ok (.iload_n 2, 1) := by decide +kernel
theorem dX8_turnsAt_22 : decode cX8_turnsAt 22 = .ok (.invokevirtual 130, 3) := by decide +kernel
theorem dX8_turnsAt_25 : decode cX8_turnsAt 25 = .ok (.isub, 1) := by decide +kernel
theorem dX8_turnsAt_26 : decode cX8_turnsAt 26 = .ok (.istore 5, 2) := by decide +kernel
theorem dX8_turnsAt_28 : decode cX8_turnsAt 28 = .ok (.iload_n 2, 1) := by decide +kernel
theorem dX8_turnsAt_29 : decode cX8_turnsAt 29 = .ok (.aload_n 0, 1) := by decide +kernel
theorem dX8_turnsAt_30 : decode cX8_turnsAt 30 = .ok (.iload 4, 2) := by decide +kernel
theorem dX8_turnsAt_32 : decode cX8_turnsAt 32 = .ok (.iload_n 1, 1) := by decide +kernel
theorem dX8_turnsAt_33 : decode cX8_turnsAt 33 = .ok (.iload_n 2, 1) := by decide +kernel
theorem dX8_turnsAt_34 : decode cX8_turnsAt 34 = .ok (.invokevirtual 134, 3) := by decide +kernel
theorem dX8_turnsAt_37 : decode cX8_turnsAt 37 = .ok (.isub, 1) := by decide +kernel
theorem dX8_turnsAt_38 : decode cX8_turnsAt 38 = .ok (.istore 6, 2) := by decide +kernel
theorem dX8_turnsAt_40 : decode cX8_turnsAt 40 = .ok (.iload 5, 2) := by decide +kernel
theorem dX8_turnsAt_42 : decode cX8_turnsAt 42 = .ok (.bipush 6, 2) := by decide +kernel
theorem dX8_turnsAt_44 : decode cX8_turnsAt 44 = .ok (.irem, 1) := by decide +kernel
theorem dX8_turnsAt_45 : decode cX8_turnsAt 45 = .ok (.ifCond .ne 15, 3) := by decide +kernel
theorem dX8_turnsAt_48 : decode cX8_turnsAt 48 = .ok (.iload 6, 2) := by decide +kernel
theorem dX8_turnsAt_50 : decode cX8_turnsAt 50 = .ok (.bipush 6, 2) := by decide +kernel
theorem dX8_turnsAt_52 : decode cX8_turnsAt 52 = .ok (.irem, 1) := by decide +kernel
theorem dX8_turnsAt_53 : decode cX8_turnsAt 53 = .ok (.ifCond .ne 7, 3) := by decide +kernel
theorem dX8_turnsAt_56 : decode cX8_turnsAt 56 = .ok (.iconst 1, 1) := by decide +kernel
theorem dX8_turnsAt_57 : decode cX8_turnsAt 57 = .ok (.goto 4, 3) := by decide +kernel
theorem dX8_turnsAt_60 : decode cX8_turnsAt 60 = .ok (.iconst 0, 1) := by decide +kernel
theorem dX8_turnsAt_61 : decode cX8_turnsAt 61 = .ok (.istore 7, 2) := by decide +kernel
theorem dX8_turnsAt_63 : decode cX8_turnsAt 63 = .ok (.iload_n 3, 1) := by decide +kernel
theorem dX8_turnsAt_64 : decode cX8_turnsAt 64 = .ok (.iload 7, 2) := by decide +kernel
theorem dX8_turnsAt_66 : decode cX8_turnsAt 66 = .ok (.ifCond .eq 26, 3) := by decide +kernel
theorem dX8_turnsAt_69 : decode cX8_turnsAt 69 = .ok (.aload_n 0, 1) := by decide +kernel
theorem dX8_turnsAt_70 : decode cX8_turnsAt 70 = .ok (.iload 4, 2) := by decide +kernel
theorem dX8_turnsAt_72 : decode cX8_turnsAt 72 = .ok (.iload 5, 2) := by decide +kernel
theorem dX8_turnsAt_74 : decode cX8_turnsAt 74 = .ok (.bipush 6, 2) := by decide +kernel
theorem dX8_turnsAt_76 : decode cX8_turnsAt 76 = .ok (.idiv, 1) := by decide +kernel
theorem dX8_turnsAt_77 : decode cX8_turnsAt 77 = .ok (.iload 6, 2) := by decide +kernel
theorem dX8_turnsAt_79 : decode cX8_turnsAt 79 = .ok (.bipush 6, 2) := by decide +kernel
theorem dX8_turnsAt_81 : decode cX8_turnsAt 81 = .ok (.idiv, 1) := by decide +kernel
theorem dX8_turnsAt_82 : decode cX8_turnsAt 82 = .ok (.invokevirtual 174, 3) := by decide +kernel
theorem dX8_turnsAt_85 : decode cX8_turnsAt 85 = .ok (.ifCond .eq 7, 3) := by decide +kernel
theorem dX8_turnsAt_88 : decode cX8_turnsAt 88 = .ok (.iconst 1, 1) := by decide +kernel
theorem dX8_turnsAt_89 : decode cX8_turnsAt 89 = .ok (.goto 4, 3) := by decide +kernel
theorem dX8_turnsAt_92 : decode cX8_turnsAt 92 = .ok (.iconst 0, 1) := by decide +kernel
theorem dX8_turnsAt_93 : decode cX8_turnsAt 93 = .ok (.iadd, 1) := by decide +kernel
theorem dX8_turnsAt_94 : decode cX8_turnsAt 94 = .ok (.istore_n 3, 1) := by decide +kernel
theorem dX8_turnsAt_95 : decode cX8_turnsAt 95 = .ok (.iinc 4 1, 3) := by decide +kernel
theorem dX8_turnsAt_98 : decode cX8_turnsAt 98 = .ok (.goto (-93), 3) := by decide +kernel
theorem dX8_turnsAt_101 : decode cX8_turnsAt 101 = .ok (.iload_n 3, 1) := by decide +kernel
theorem dX8_turnsAt_102 : decode cX8_turnsAt 102 = .ok (.ireturn, 1) := by decide +kernel
def fX8_turnsAt_93 (v4 : Int32) (s0 : Int32) (s1 : Int32) : Option ((Int32 × Int32) ⊕ (Int32)) :=
  some (.inl ((s1 + s0), (v4 + 1)))
def fX8_turnsAt_92 (v4 : Int32) (s0 : Int32) : Option ((Int32 × Int32) ⊕ (Int32)) :=
  fX8_turnsAt_93 v4 (0 : Int32) s0
def fX8_turnsAt_61 (o_all_r : Nat → Int32) (o_shift_r : Nat → Int32) (v3 : Int32) (v4 : Int32) (s0 : Int32) (v5 : Int32) (v6 : Int32) : Option ((Int32 × Int32) ⊕ (Int32)) :=
  if s0 = 0 then fX8_turnsAt_92 v4 v3 else Option.bind (fX8_isShiftOf o_all_r o_shift_r v4 (v5 / (6 : Int32)) (v6 / (6 : Int32))) fun q82 => if q82 = 0 then fX8_turnsAt_92 v4 v3 else fX8_turnsAt_93 v4 (1 : Int32) v3
def fX8_turnsAt_60 (o_all_r : Nat → Int32) (o_shift_r : Nat → Int32) (v3 : Int32) (v4 : Int32) (v5 : Int32) (v6 : Int32) : Option ((Int32 × Int32) ⊕ (Int32)) :=
  fX8_turnsAt_61 o_all_r o_shift_r v3 v4 (0 : Int32) v5 v6
def fX8_turnsAt_5_b (o_all_r : Nat → Int32) (o_plans_r : Nat → Int32) (o_shift_r : Nat → Int32) (p1 : Int32) (p2 : Int32) (v3 : Int32) (v4 : Int32) : Option ((Int32 × Int32) ⊕ (Int32)) :=
  Option.bind (fX8_turnings o_all_r) fun q8 => if (q8 / (2 : Int32)) ≤ v4 then some (.inr v3) else Option.bind (fX8_turnX o_all_r o_plans_r v4 p1 p2) fun q22 => Option.bind (fX8_turnY o_all_r o_plans_r v4 p1 p2) fun q34 => if (ds_rem (p1 - q22) (6 : Int32)) = 0 then if (ds_rem (p2 - q34) (6 : Int32)) = 0 then fX8_turnsAt_61 o_all_r o_shift_r v3 v4 (1 : Int32) (p1 - q22) (p2 - q34) else fX8_turnsAt_60 o_all_r o_shift_r v3 v4 (p1 - q22) (p2 - q34) else fX8_turnsAt_60 o_all_r o_shift_r v3 v4 (p1 - q22) (p2 - q34)
def fX8_turnsAt_5 (o_all_r : Nat → Int32) (o_plans_r : Nat → Int32) (o_shift_r : Nat → Int32) (p1 : Int32) (p2 : Int32) (v3 : Int32) (v4 : Int32) : Option (Int32) := ds_it (fun s => fX8_turnsAt_5_b o_all_r o_plans_r o_shift_r p1 p2 s.1 s.2) 1000 (v3, v4)
def fX8_turnsAt (o_all_r : Nat → Int32) (o_plans_r : Nat → Int32) (o_shift_r : Nat → Int32) (p1 : Int32) (p2 : Int32) : Option (Int32) :=
  fX8_turnsAt_5 o_all_r o_plans_r o_shift_r p1 p2 (0 : Int32) (0 : Int32)
set_option maxHeartbeats 4000000 in
set_option maxRecDepth 100000 in
theorem c_X8_turnsAt (l : Launch) (dC : Nat → ClassId) (dI : Nat → Nat → Nat) (ca : Nat → ClassId) (sa : Nat → Nat) (h_o : Nat) (h_o_plans : Nat) (h_o_makers : Nat) (h_o_halves : Nat) (h_o_all : Nat) (h_o_text : Nat) (h_o_saved : Nat) (h_o_undone : Nat) (h_o_told : Nat) (h_o_shift : Nat) (h_o_rootOf : Nat) (h_o_becomes : Nat) (h_o_comes : Nat) (h_o_next : Nat) (sz : Nat) (o_raised : Int32) (o_undos : Int32) (o_reached : Int32) (o_length : Int32) (o_begin : Int32) (o_letters : Int32) (o_sort : Int32) (o_word : Int64) (o_wrongAt : Int32) (o_badAt : Int32) (o_bad : Int32) (o_firstX : Int32) (o_firstY : Int32) (o_secondX : Int32) (o_secondY : Int32) (o_x : Int32) (o_all_r : Nat → Int32) (o_plans_r : Nat → Int32) (o_shift_r : Nat → Int32) (p1 : Int32) (p2 : Int32) (res : Int32) (hf : fX8_turnsAt o_all_r o_plans_r o_shift_r p1 p2 = some res) : Met l yX8_turnsAt (Cond.code yX8_turnsAt cX8_turnsAt 8 (some .int) :: ds_gw) { frames := 3, cells := 0, slots := 0, locals := 67 } (va_Pc [.ref h_o, .int p1, .int p2] (ds_Pre dC dI ca sa [(h_o, .inr (7, [.ref h_o_plans, .ref h_o_makers, .ref h_o_halves, .int o_raised, .ref h_o_all, .ref h_o_text, .ref h_o_saved, .ref h_o_undone, .int o_undos, .int o_reached, .int o_length, .int o_begin, .int o_letters, .int o_sort, .long o_word, .int o_wrongAt, .int o_badAt, .int o_bad, .ref h_o_told, .ref h_o_shift, .int o_firstX, .int o_firstY, .int o_secondX, .int o_secondY, .ref h_o_rootOf, .ref h_o_becomes, .ref h_o_comes, .ref h_o_next, .int o_x])), (h_o_all, .inl (ca 0, 350, .inl o_all_r)), (h_o_plans, .inl (ca 0, 80, .inl o_plans_r)), (h_o_shift, .inl (ca 3, 768, .inl o_shift_r))] sz)) (va_Qi (fun r (_ : Unit) => r = res) (ds_B dC dI (va_A [(h_o, .inr (7, [.ref h_o_plans, .ref h_o_makers, .ref h_o_halves, .int o_raised, .ref h_o_all, .ref h_o_text, .ref h_o_saved, .ref h_o_undone, .int o_undos, .int o_reached, .int o_length, .int o_begin, .int o_letters, .int o_sort, .long o_word, .int o_wrongAt, .int o_badAt, .int o_bad, .ref h_o_told, .ref h_o_shift, .int o_firstX, .int o_firstY, .int o_secondX, .int o_secondY, .ref h_o_rootOf, .ref h_o_becomes, .ref h_o_comes, .ref h_o_next, .int o_x])), (h_o_all, .inl (ca 0, 350, .inl o_all_r)), (h_o_plans, .inl (ca 0, 80, .inl o_plans_r)), (h_o_shift, .inl (ca 3, 768, .inl o_shift_r))] sz) [(h_o, .inr (7, [.ref h_o_plans, .ref h_o_makers, .ref h_o_halves, .int o_raised, .ref h_o_all, .ref h_o_text, .ref h_o_saved, .ref h_o_undone, .int o_undos, .int o_reached, .int o_length, .int o_begin, .int o_letters, .int o_sort, .long o_word, .int o_wrongAt, .int o_badAt, .int o_bad, .ref h_o_told, .ref h_o_shift, .int o_firstX, .int o_firstY, .int o_secondX, .int o_secondY, .ref h_o_rootOf, .ref h_o_becomes, .ref h_o_comes, .ref h_o_next, .int o_x])), (h_o_all, .inl (ca 0, 350, .inl o_all_r)), (h_o_plans, .inl (ca 0, 80, .inl o_plans_r)), (h_o_shift, .inl (ca 3, 768, .inl o_shift_r))]) (va_A [(h_o, .inr (7, [.ref h_o_plans, .ref h_o_makers, .ref h_o_halves, .int o_raised, .ref h_o_all, .ref h_o_text, .ref h_o_saved, .ref h_o_undone, .int o_undos, .int o_reached, .int o_length, .int o_begin, .int o_letters, .int o_sort, .long o_word, .int o_wrongAt, .int o_badAt, .int o_bad, .ref h_o_told, .ref h_o_shift, .int o_firstX, .int o_firstY, .int o_secondX, .int o_secondY, .ref h_o_rootOf, .ref h_o_becomes, .ref h_o_comes, .ref h_o_next, .int o_x])), (h_o_all, .inl (ca 0, 350, .inl o_all_r)), (h_o_plans, .inl (ca 0, 80, .inl o_plans_r)), (h_o_shift, .inl (ca 3, 768, .inl o_shift_r))] sz)) 0 0 (va_A [(h_o, .inr (7, [.ref h_o_plans, .ref h_o_makers, .ref h_o_halves, .int o_raised, .ref h_o_all, .ref h_o_text, .ref h_o_saved, .ref h_o_undone, .int o_undos, .int o_reached, .int o_length, .int o_begin, .int o_letters, .int o_sort, .long o_word, .int o_wrongAt, .int o_badAt, .int o_bad, .ref h_o_told, .ref h_o_shift, .int o_firstX, .int o_firstY, .int o_secondX, .int o_secondY, .ref h_o_rootOf, .ref h_o_becomes, .ref h_o_comes, .ref h_o_next, .int o_x])), (h_o_all, .inl (ca 0, 350, .inl o_all_r)), (h_o_plans, .inl (ca 0, 80, .inl o_plans_r)), (h_o_shift, .inl (ca 3, 768, .inl o_shift_r))] sz) := by
  refine Met.ofW (cc := cX8_turnsAt) (maxL := 8) (ret := (some .int)) (by decide) rfl ?_
  intro p e s m args below meth c s₁ B hml hv
  obtain ⟨rfl, hsz, hP, hK, hD0, hE⟩ := hv
  have hx := B.exec
  have hb := B.bytes
  have hr := B.returns
  have hts := atoms_spec (ws := Cond.code yX8_turnsAt cX8_turnsAt 8 (some .int) :: ds_gw) B.pre
  have hg : ∀ {w : Cond}, w ∈ ds_gw → w.before _ s = true := fun h => hts _ (List.mem_cons_of_mem _ h)
  have hown : s.vm.findClass RX8 = some m.cls := findClass_of_methodNamed B.named
  have hlocks := B.notSynchronized
  subst hsz
  have hD := hD0.self (sz := s.heap.size)
  generalize hAe : va_A [(h_o, .inr (7, [.ref h_o_plans, .ref h_o_makers, .ref h_o_halves, .int o_raised, .ref h_o_all, .ref h_o_text, .ref h_o_saved, .ref h_o_undone, .int o_undos, .int o_reached, .int o_length, .int o_begin, .int o_letters, .int o_sort, .long o_word, .int o_wrongAt, .int o_badAt, .int o_bad, .ref h_o_told, .ref h_o_shift, .int o_firstX, .int o_firstY, .int o_secondX, .int o_secondY, .ref h_o_rootOf, .ref h_o_becomes, .ref h_o_comes, .ref h_o_next, .int o_x])), (h_o_all, .inl (ca 0, 350, .inl o_all_r)), (h_o_plans, .inl (ca 0, 80, .inl o_plans_r)), (h_o_shift, .inl (ca 3, 768, .inl o_shift_r))] s.heap.size = A at hD hE ⊢
  have hA : ∀ q : Nat, s.heap.size ≤ q → A q := fun q h => by rw [← hAe]; exact Or.inr h
  have hS : va_S A s.heap s.heap [] := va_S.rf
  have hl := lv_entry ([.ref h_o, .int p1, .int p2]) (n := 8) (Nat.le_of_ble_eq_true rfl)
  rw [lg_entry_eq]
  generalize (lg_sl ([.ref h_o, .int p1, .int p2]) ++ List.replicate (8 - (lg_sl ([.ref h_o, .int p1, .int p2])).length) Slot.unset).toArray = ls at hl ⊢
  have hl : lv_has ls 8 [(0, .ref h_o), (1, .int p1), (2, .int p2)] := hl
  obtain ⟨G0, eG0⟩ : ∃ G : Int32 → Prop, G = (fun r => r = res) := ⟨_, rfl⟩
  obtain ⟨rr, hrr⟩ : ∃ z, z = res := ⟨_, rfl⟩
  rw [← hrr] at hf
  have hG : G0 rr := by subst eG0; exact hrr
  refine ds_cap (fun WW h1 h2 => ?_)
  have J_5 : ∀ (n : Nat) (v3 : Int32) (v4 : Int32) (rr : Int32) (hf : ds_it (fun s => fX8_turnsAt_5_b o_all_r o_plans_r o_shift_r p1 p2 s.1 s.2) n (v3, v4) = some rr) (hG : G0 rr) (H : Heap) (locs : List Loc) (hP : va_P (dC, dI) vwCl [(h_o, .inr (7, [.ref h_o_plans, .ref h_o_makers, .ref h_o_halves, .int o_raised, .ref h_o_all, .ref h_o_text, .ref h_o_saved, .ref h_o_undone, .int o_undos, .int o_reached, .int o_length, .int o_begin, .int o_letters, .int o_sort, .long o_word, .int o_wrongAt, .int o_badAt, .int o_bad, .ref h_o_told, .ref h_o_shift, .int o_firstX, .int o_firstY, .int o_secondX, .int o_secondY, .ref h_o_rootOf, .ref h_o_becomes, .ref h_o_comes, .ref h_o_next, .int o_x])), (h_o_all, .inl (ca 0, 350, .inl o_all_r)), (h_o_plans, .inl (ca 0, 80, .inl o_plans_r)), (h_o_shift, .inl (ca 3, 768, .inl o_shift_r))] H) (hD : va_D A [(h_o, .inr (7, [.ref h_o_plans, .ref h_o_makers, .ref h_o_halves, .int o_raised, .ref h_o_all, .ref h_o_text, .ref h_o_saved, .ref h_o_undone, .int o_undos, .int o_reached, .int o_length, .int o_begin, .int o_letters, .int o_sort, .long o_word, .int o_wrongAt, .int o_badAt, .int o_bad, .ref h_o_told, .ref h_o_shift, .int o_firstX, .int o_firstY, .int o_secondX, .int o_secondY, .ref h_o_rootOf, .ref h_o_becomes, .ref h_o_comes, .ref h_o_next, .int o_x])), (h_o_all, .inl (ca 0, 350, .inl o_all_r)), (h_o_plans, .inl (ca 0, 80, .inl o_plans_r)), (h_o_shift, .inl (ca 3, 768, .inl o_shift_r))]) (hS : va_S A s.heap H locs) (ls : Array Slot) (hl : lv_has ls 8 [(0, .ref h_o), (1, .int p1), (2, .int p2), (3, .int v3), (4, .int v4)]), WW H locs (F0 m 5 ls []) := by
    intro  n
    induction n with
    | zero => intro v3 v4 rr hf; exact (ds_it_zero hf).elim
    | succ n ih5 =>
      intro v3 v4 rr hf hG H locs hP hD hS ls hl
      refine h2 ?_
      obtain ⟨rr, hf, hG⟩ := ds_it_succ hf hG
      replace hf : fX8_turnsAt_5_b o_all_r o_plans_r o_shift_r p1 p2 v3 v4 = some rr := hf
      obtain ⟨G1, eG1⟩ : ∃ G : ((Int32 × Int32) ⊕ (Int32)) → Prop, G = ds_G (fun s' => ∃ r', ds_it (fun s => fX8_turnsAt_5_b o_all_r o_plans_r o_shift_r p1 p2 s.1 s.2) n s' = some r' ∧ G0 r') G0 := ⟨_, rfl⟩
      rw [← eG1] at hG
      have J_93 : ∀ (v4 : Int32) (s0 : Int32) (s1 : Int32) (rr : (Int32 × Int32) ⊕ (Int32)) (hf : fX8_turnsAt_93 v4 s0 s1 = some rr) (hG : G1 rr) (H : Heap) (locs : List Loc) (hP : va_P (dC, dI) vwCl [(h_o, .inr (7, [.ref h_o_plans, .ref h_o_makers, .ref h_o_halves, .int o_raised, .ref h_o_all, .ref h_o_text, .ref h_o_saved, .ref h_o_undone, .int o_undos, .int o_reached, .int o_length, .int o_begin, .int o_letters, .int o_sort, .long o_word, .int o_wrongAt, .int o_badAt, .int o_bad, .ref h_o_told, .ref h_o_shift, .int o_firstX, .int o_firstY, .int o_secondX, .int o_secondY, .ref h_o_rootOf, .ref h_o_becomes, .ref h_o_comes, .ref h_o_next, .int o_x])), (h_o_all, .inl (ca 0, 350, .inl o_all_r)), (h_o_plans, .inl (ca 0, 80, .inl o_plans_r)), (h_o_shift, .inl (ca 3, 768, .inl o_shift_r))] H) (hD : va_D A [(h_o, .inr (7, [.ref h_o_plans, .ref h_o_makers, .ref h_o_halves, .int o_raised, .ref h_o_all, .ref h_o_text, .ref h_o_saved, .ref h_o_undone, .int o_undos, .int o_reached, .int o_length, .int o_begin, .int o_letters, .int o_sort, .long o_word, .int o_wrongAt, .int o_badAt, .int o_bad, .ref h_o_told, .ref h_o_shift, .int o_firstX, .int o_firstY, .int o_secondX, .int o_secondY, .ref h_o_rootOf, .ref h_o_becomes, .ref h_o_comes, .ref h_o_next, .int o_x])), (h_o_all, .inl (ca 0, 350, .inl o_all_r)), (h_o_plans, .inl (ca 0, 80, .inl o_plans_r)), (h_o_shift, .inl (ca 3, 768, .inl o_shift_r))]) (hS : va_S A s.heap H locs) (ls : Array Slot) (hl : lv_has ls 8 [(0, .ref h_o), (1, .int p1), (2, .int p2), (4, .int v4)]), WW H locs (F0 m 93 ls [.int s0, .int s1]) := by
        intro v4 s0 s1 rr hf hG H locs hP hD hS ls hl
        refine h2 ?_
        unfold fX8_turnsAt_93 at hf
        refine lv_iadd hx hb dX8_turnsAt_93 ?_
        refine lv_istore_n (lv' := [(3, .int (s1 + s0)), (0, .ref h_o), (1, .int p1), (2, .int p2), (4, .int v4)]) hx hb dX8_turnsAt_94 rfl hl (by decide) rfl (fun ls hl => ?_)
        refine lv_iinc (v := (v4 + 1)) (lv' := [(4, .int (v4 + 1)), (3, .int (s1 + s0)), (0, .ref h_o), (1, .int p1), (2, .int p2)]) hx hb dX8_turnsAt_95 hl (k := 4) rfl rfl (by decide) rfl (fun ls hl => ?_)
        refine lv_goto (tgt := 5) hx hb dX8_turnsAt_98 (by decide) ?_
        have hf := Option.some.inj hf
        subst hf
        rw [eG1] at hG
        obtain ⟨rr, hf, hG⟩ := hG
        exact h1 (ih5 (s1 + s0) (v4 + 1) rr hf hG _ _ hP hD hS _ (lv_sub hl [2, 3, 4, 1, 0] rfl))
      have J_92 : ∀ (v4 : Int32) (s0 : Int32) (rr : (Int32 × Int32) ⊕ (Int32)) (hf : fX8_turnsAt_92 v4 s0 = some rr) (hG : G1 rr) (H : Heap) (locs : List Loc) (hP : va_P (dC, dI) vwCl [(h_o, .inr (7, [.ref h_o_plans, .ref h_o_makers, .ref h_o_halves, .int o_raised, .ref h_o_all, .ref h_o_text, .ref h_o_saved, .ref h_o_undone, .int o_undos, .int o_reached, .int o_length, .int o_begin, .int o_letters, .int o_sort, .long o_word, .int o_wrongAt, .int o_badAt, .int o_bad, .ref h_o_told, .ref h_o_shift, .int o_firstX, .int o_firstY, .int o_secondX, .int o_secondY, .ref h_o_rootOf, .ref h_o_becomes, .ref h_o_comes, .ref h_o_next, .int o_x])), (h_o_all, .inl (ca 0, 350, .inl o_all_r)), (h_o_plans, .inl (ca 0, 80, .inl o_plans_r)), (h_o_shift, .inl (ca 3, 768, .inl o_shift_r))] H) (hD : va_D A [(h_o, .inr (7, [.ref h_o_plans, .ref h_o_makers, .ref h_o_halves, .int o_raised, .ref h_o_all, .ref h_o_text, .ref h_o_saved, .ref h_o_undone, .int o_undos, .int o_reached, .int o_length, .int o_begin, .int o_letters, .int o_sort, .long o_word, .int o_wrongAt, .int o_badAt, .int o_bad, .ref h_o_told, .ref h_o_shift, .int o_firstX, .int o_firstY, .int o_secondX, .int o_secondY, .ref h_o_rootOf, .ref h_o_becomes, .ref h_o_comes, .ref h_o_next, .int o_x])), (h_o_all, .inl (ca 0, 350, .inl o_all_r)), (h_o_plans, .inl (ca 0, 80, .inl o_plans_r)), (h_o_shift, .inl (ca 3, 768, .inl o_shift_r))]) (hS : va_S A s.heap H locs) (ls : Array Slot) (hl : lv_has ls 8 [(0, .ref h_o), (1, .int p1), (2, .int p2), (4, .int v4)]), WW H locs (F0 m 92 ls [.int s0]) := by
        intro v4 s0 rr hf hG H locs hP hD hS ls hl
        refine h2 ?_
        unfold fX8_turnsAt_92 at hf
        refine lv_iconst (v := 0) hx hb dX8_turnsAt_92 (by decide) ?_
        exact h1 (J_93 v4 (0 : Int32) s0 _ hf hG _ _ hP hD hS _ (lv_sub hl [0, 1, 2, 3] rfl))
      have J_61 : ∀ (v3 : Int32) (v4 : Int32) (v5 : Int32) (v6 : Int32) (s0 : Int32) (rr : (Int32 × Int32) ⊕ (Int32)) (hf : fX8_turnsAt_61 o_all_r o_shift_r v3 v4 s0 v5 v6 = some rr) (hG : G1 rr) (H : Heap) (locs : List Loc) (hP : va_P (dC, dI) vwCl [(h_o, .inr (7, [.ref h_o_plans, .ref h_o_makers, .ref h_o_halves, .int o_raised, .ref h_o_all, .ref h_o_text, .ref h_o_saved, .ref h_o_undone, .int o_undos, .int o_reached, .int o_length, .int o_begin, .int o_letters, .int o_sort, .long o_word, .int o_wrongAt, .int o_badAt, .int o_bad, .ref h_o_told, .ref h_o_shift, .int o_firstX, .int o_firstY, .int o_secondX, .int o_secondY, .ref h_o_rootOf, .ref h_o_becomes, .ref h_o_comes, .ref h_o_next, .int o_x])), (h_o_all, .inl (ca 0, 350, .inl o_all_r)), (h_o_plans, .inl (ca 0, 80, .inl o_plans_r)), (h_o_shift, .inl (ca 3, 768, .inl o_shift_r))] H) (hD : va_D A [(h_o, .inr (7, [.ref h_o_plans, .ref h_o_makers, .ref h_o_halves, .int o_raised, .ref h_o_all, .ref h_o_text, .ref h_o_saved, .ref h_o_undone, .int o_undos, .int o_reached, .int o_length, .int o_begin, .int o_letters, .int o_sort, .long o_word, .int o_wrongAt, .int o_badAt, .int o_bad, .ref h_o_told, .ref h_o_shift, .int o_firstX, .int o_firstY, .int o_secondX, .int o_secondY, .ref h_o_rootOf, .ref h_o_becomes, .ref h_o_comes, .ref h_o_next, .int o_x])), (h_o_all, .inl (ca 0, 350, .inl o_all_r)), (h_o_plans, .inl (ca 0, 80, .inl o_plans_r)), (h_o_shift, .inl (ca 3, 768, .inl o_shift_r))]) (hS : va_S A s.heap H locs) (ls : Array Slot) (hl : lv_has ls 8 [(0, .ref h_o), (1, .int p1), (2, .int p2), (3, .int v3), (4, .int v4), (5, .int v5), (6, .int v6)]), WW H locs (F0 m 61 ls [.int s0]) := by
        intro v3 v4 v5 v6 s0 rr hf hG H locs hP hD hS ls hl
        refine h2 ?_
        unfold fX8_turnsAt_61 at hf
        refine lv_istore (lv' := [(7, .int s0), (0, .ref h_o), (1, .int p1), (2, .int p2), (3, .int v3), (4, .int v4), (5, .int v5), (6, .int v6)]) hx hb dX8_turnsAt_61 hl (by decide) rfl (fun ls hl => ?_)
        refine lv_iload_n hx hb dX8_turnsAt_63 rfl (lv_at hl 4 rfl) ?_
        refine lv_iload hx hb dX8_turnsAt_64 (lv_at hl 0 rfl) ?_
        refine lv_if_eq (tgt := 92) hx hb dX8_turnsAt_66 (by decide) (fun c_66 => ?_) (fun c_66 => ?_)
        · replace hf := ds_t c_66 hf
          exact h1 (J_92 v4 v3 _ hf hG _ _ hP hD hS _ (lv_sub hl [1, 2, 3, 5] rfl))
        · replace hf := ds_f c_66 hf
          refine lv_aload_n hx hb dX8_turnsAt_69 rfl (lv_at hl 1 rfl) ?_
          refine lv_iload hx hb dX8_turnsAt_70 (lv_at hl 5 rfl) ?_
          refine lv_iload hx hb dX8_turnsAt_72 (lv_at hl 6 rfl) ?_
          refine lv_bipush (v := 6) hx hb dX8_turnsAt_74 (by decide) ?_
          refine lv_idiv hx hb dX8_turnsAt_76 (by decide) ?_
          refine lv_iload hx hb dX8_turnsAt_77 (lv_at hl 7 rfl) ?_
          refine lv_bipush (v := 6) hx hb dX8_turnsAt_79 (by decide) ?_
          refine lv_idiv hx hb dX8_turnsAt_81 (by decide) ?_
          obtain ⟨q82, hq82, hf⟩ := ds_ob hf
          refine ds_calli (wr := [(h_o_plans, .inl (ca 0, 80, .inl o_plans_r))]) (va_runV (As := [.int v4, .int (v5 / (6 : Int32)), .int (v6 / (6 : Int32))]) (rest := [.int v3]) ⟨hx, hb, hml, hown, hts⟩ (c_X8_isShiftOf l dC dI ca sa h_o h_o_plans h_o_makers h_o_halves h_o_all h_o_text h_o_saved h_o_undone h_o_told h_o_shift h_o_rootOf h_o_becomes h_o_comes h_o_next H.size o_raised o_undos o_reached o_length o_begin o_letters o_sort o_word o_wrongAt o_badAt o_bad o_firstX o_firstY o_secondX o_secondY o_x o_all_r o_shift_r v4 (v5 / (6 : Int32)) (v6 / (6 : Int32)) q82 hq82) (cwV 3 hts (ds_gV kw_695 kw_696 kw_697 kw_597 kw_698) rfl rfl rfl (by decide +kernel) ⟨Nat.le_of_ble_eq_true rfl, Nat.le_of_ble_eq_true rfl⟩) ⟨ds_blind, va_recv hK hP (ci := 7) (q0 := 0) rfl rfl, ds_at hP hD hK hE hS hA [0, 1, 3] rfl rfl _⟩ rfl rfl hl.1 rfl (lv_room (Nat.le_of_ble_eq_true rfl)) dX8_turnsAt_82 ⟨Nat.zero_le _, Nat.zero_le _⟩) hP hD hS hA [0, 1, 3] [2] rfl rfl rfl (by decide) (fun H locs hP hD hS => ?_)
          have hP : va_P (dC, dI) vwCl [(h_o_plans, .inl (ca 0, 80, .inl o_plans_r)), (h_o, .inr (7, [.ref h_o_plans, .ref h_o_makers, .ref h_o_halves, .int o_raised, .ref h_o_all, .ref h_o_text, .ref h_o_saved, .ref h_o_undone, .int o_undos, .int o_reached, .int o_length, .int o_begin, .int o_letters, .int o_sort, .long o_word, .int o_wrongAt, .int o_badAt, .int o_bad, .ref h_o_told, .ref h_o_shift, .int o_firstX, .int o_firstY, .int o_secondX, .int o_secondY, .ref h_o_rootOf, .ref h_o_becomes, .ref h_o_comes, .ref h_o_next, .int o_x])), (h_o_all, .inl (ca 0, 350, .inl o_all_r)), (h_o_shift, .inl (ca 3, 768, .inl o_shift_r))] H := hP
          have hD : va_D A [(h_o_plans, .inl (ca 0, 80, .inl o_plans_r)), (h_o, .inr (7, [.ref h_o_plans, .ref h_o_makers, .ref h_o_halves, .int o_raised, .ref h_o_all, .ref h_o_text, .ref h_o_saved, .ref h_o_undone, .int o_undos, .int o_reached, .int o_length, .int o_begin, .int o_letters, .int o_sort, .long o_word, .int o_wrongAt, .int o_badAt, .int o_bad, .ref h_o_told, .ref h_o_shift, .int o_firstX, .int o_firstY, .int o_secondX, .int o_secondY, .ref h_o_rootOf, .ref h_o_becomes, .ref h_o_comes, .ref h_o_next, .int o_x])), (h_o_all, .inl (ca 0, 350, .inl o_all_r)), (h_o_shift, .inl (ca 3, 768, .inl o_shift_r))] := hD
          refine lv_if_eq (tgt := 92) hx hb dX8_turnsAt_85 (by decide) (fun c_85 => ?_) (fun c_85 => ?_)
          · replace hf := ds_t c_85 hf
            exact h1 (J_92 v4 v3 _ hf hG _ _ (hP.sub [1, 2, 0, 3] rfl) (hD.sub [1, 2, 0, 3] rfl rfl) hS _ (lv_sub hl [1, 2, 3, 5] rfl))
          · replace hf := ds_f c_85 hf
            refine lv_iconst (v := 1) hx hb dX8_turnsAt_88 (by decide) ?_
            refine lv_goto (tgt := 93) hx hb dX8_turnsAt_89 (by decide) ?_
            exact h1 (J_93 v4 (1 : Int32) v3 _ hf hG _ _ (hP.sub [1, 2, 0, 3] rfl) (hD.sub [1, 2, 0, 3] rfl rfl) hS _ (lv_sub hl [1, 2, 3, 5] rfl))
      have J_60 : ∀ (v3 : Int32) (v4 : Int32) (v5 : Int32) (v6 : Int32) (rr : (Int32 × Int32) ⊕ (Int32)) (hf : fX8_turnsAt_60 o_all_r o_shift_r v3 v4 v5 v6 = some rr) (hG : G1 rr) (H : Heap) (locs : List Loc) (hP : va_P (dC, dI) vwCl [(h_o, .inr (7, [.ref h_o_plans, .ref h_o_makers, .ref h_o_halves, .int o_raised, .ref h_o_all, .ref h_o_text, .ref h_o_saved, .ref h_o_undone, .int o_undos, .int o_reached, .int o_length, .int o_begin, .int o_letters, .int o_sort, .long o_word, .int o_wrongAt, .int o_badAt, .int o_bad, .ref h_o_told, .ref h_o_shift, .int o_firstX, .int o_firstY, .int o_secondX, .int o_secondY, .ref h_o_rootOf, .ref h_o_becomes, .ref h_o_comes, .ref h_o_next, .int o_x])), (h_o_all, .inl (ca 0, 350, .inl o_all_r)), (h_o_plans, .inl (ca 0, 80, .inl o_plans_r)), (h_o_shift, .inl (ca 3, 768, .inl o_shift_r))] H) (hD : va_D A [(h_o, .inr (7, [.ref h_o_plans, .ref h_o_makers, .ref h_o_halves, .int o_raised, .ref h_o_all, .ref h_o_text, .ref h_o_saved, .ref h_o_undone, .int o_undos, .int o_reached, .int o_length, .int o_begin, .int o_letters, .int o_sort, .long o_word, .int o_wrongAt, .int o_badAt, .int o_bad, .ref h_o_told, .ref h_o_shift, .int o_firstX, .int o_firstY, .int o_secondX, .int o_secondY, .ref h_o_rootOf, .ref h_o_becomes, .ref h_o_comes, .ref h_o_next, .int o_x])), (h_o_all, .inl (ca 0, 350, .inl o_all_r)), (h_o_plans, .inl (ca 0, 80, .inl o_plans_r)), (h_o_shift, .inl (ca 3, 768, .inl o_shift_r))]) (hS : va_S A s.heap H locs) (ls : Array Slot) (hl : lv_has ls 8 [(0, .ref h_o), (1, .int p1), (2, .int p2), (3, .int v3), (4, .int v4), (5, .int v5), (6, .int v6)]), WW H locs (F0 m 60 ls []) := by
        intro v3 v4 v5 v6 rr hf hG H locs hP hD hS ls hl
        refine h2 ?_
        unfold fX8_turnsAt_60 at hf
        refine lv_iconst (v := 0) hx hb dX8_turnsAt_60 (by decide) ?_
        exact h1 (J_61 v3 v4 v5 v6 (0 : Int32) _ hf hG _ _ hP hD hS _ (lv_sub hl [0, 1, 2, 3, 4, 5, 6] rfl))
      unfold fX8_turnsAt_5_b at hf
      refine lv_iload hx hb dX8_turnsAt_5 (lv_at hl 4 rfl) ?_
      refine lv_aload_n hx hb dX8_turnsAt_7 rfl (lv_at hl 0 rfl) ?_
      obtain ⟨q8, hq8, hf⟩ := ds_ob hf
      refine ds_calli (wr := [(h_o_plans, .inl (ca 0, 80, .inl o_plans_r)), (h_o_shift, .inl (ca 3, 768, .inl o_shift_r))]) (va_runV (As := []) (rest := [.int v4]) ⟨hx, hb, hml, hown, hts⟩ (c_X8_turnings l dC dI ca sa h_o h_o_plans h_o_makers h_o_halves h_o_all h_o_text h_o_saved h_o_undone h_o_told h_o_shift h_o_rootOf h_o_becomes h_o_comes h_o_next H.size o_raised o_undos o_reached o_length o_begin o_letters o_sort o_word o_wrongAt o_badAt o_bad o_firstX o_firstY o_secondX o_secondY o_x o_all_r  q8 hq8) (cwV 0 hts (ds_gV kw_604 kw_605 kw_606 kw_597 kw_607) rfl rfl rfl (by decide +kernel) ⟨Nat.le_of_ble_eq_true rfl, Nat.le_of_ble_eq_true rfl⟩) ⟨ds_blind, va_recv hK hP (ci := 7) (q0 := 0) rfl rfl, ds_at hP hD hK hE hS hA [0, 1] rfl rfl _⟩ rfl rfl hl.1 rfl (lv_room (Nat.le_of_ble_eq_true rfl)) dX8_turnsAt_8 ⟨Nat.zero_le _, Nat.zero_le _⟩) hP hD hS hA [0, 1] [2, 3] rfl rfl rfl (by decide) (fun H locs hP hD hS => ?_)
      have hP : va_P (dC, dI) vwCl [(h_o_plans, .inl (ca 0, 80, .inl o_plans_r)), (h_o_shift, .inl (ca 3, 768, .inl o_shift_r)), (h_o, .inr (7, [.ref h_o_plans, .ref h_o_makers, .ref h_o_halves, .int o_raised, .ref h_o_all, .ref h_o_text, .ref h_o_saved, .ref h_o_undone, .int o_undos, .int o_reached, .int o_length, .int o_begin, .int o_letters, .int o_sort, .long o_word, .int o_wrongAt, .int o_badAt, .int o_bad, .ref h_o_told, .ref h_o_shift, .int o_firstX, .int o_firstY, .int o_secondX, .int o_secondY, .ref h_o_rootOf, .ref h_o_becomes, .ref h_o_comes, .ref h_o_next, .int o_x])), (h_o_all, .inl (ca 0, 350, .inl o_all_r))] H := hP
      have hD : va_D A [(h_o_plans, .inl (ca 0, 80, .inl o_plans_r)), (h_o_shift, .inl (ca 3, 768, .inl o_shift_r)), (h_o, .inr (7, [.ref h_o_plans, .ref h_o_makers, .ref h_o_halves, .int o_raised, .ref h_o_all, .ref h_o_text, .ref h_o_saved, .ref h_o_undone, .int o_undos, .int o_reached, .int o_length, .int o_begin, .int o_letters, .int o_sort, .long o_word, .int o_wrongAt, .int o_badAt, .int o_bad, .ref h_o_told, .ref h_o_shift, .int o_firstX, .int o_firstY, .int o_secondX, .int o_secondY, .ref h_o_rootOf, .ref h_o_becomes, .ref h_o_comes, .ref h_o_next, .int o_x])), (h_o_all, .inl (ca 0, 350, .inl o_all_r))] := hD
      refine lv_iconst (v := 2) hx hb dX8_turnsAt_11 (by decide) ?_
      refine lv_idiv hx hb dX8_turnsAt_12 (by decide) ?_
      refine lv_icmp_ge (tgt := 101) hx hb dX8_turnsAt_13 (by decide) (fun c_13 => ?_) (fun c_13 => ?_)
      · replace hf := ds_t c_13 hf
        refine lv_iload_n hx hb dX8_turnsAt_101 rfl (lv_at hl 3 rfl) ?_
        have hf := Option.some.inj hf
        subst hf
        rw [eG1] at hG
        replace hG : G0 _ := hG
        rw [eG0] at hG
        have hG : _ = res := hG
        subst hG
        exact W.iret (v := v3) hx hb hr (fun t ht hW => ⟨⟨v3, (), rfl, rfl, by rw [ht]; exact (hP.sub [2, 3, 0, 1] rfl), (hD.sub [2, 3, 0, 1] rfl rfl)⟩, hS.F ht⟩) hS.2.2 dX8_turnsAt_102
      · replace hf := ds_f c_13 hf
        refine lv_iload_n hx hb dX8_turnsAt_16 rfl (lv_at hl 1 rfl) ?_
        refine lv_aload_n hx hb dX8_turnsAt_17 rfl (lv_at hl 0 rfl) ?_
        refine lv_iload hx hb dX8_turnsAt_18 (lv_at hl 4 rfl) ?_
        refine lv_iload_n hx hb dX8_turnsAt_20 rfl (lv_at hl 1 rfl) ?_
        refine lv_iload_n hx hb dX8_turnsAt_21 rfl (lv_at hl 2 rfl) ?_
        obtain ⟨q22, hq22, hf⟩ := ds_ob hf
        refine ds_calli (wr := [(h_o_shift, .inl (ca 3, 768, .inl o_shift_r))]) (va_runV (As := [.int v4, .int p1, .int p2]) (rest := [.int p1]) ⟨hx, hb, hml, hown, hts⟩ (c_X8_turnX l dC dI ca sa h_o h_o_plans h_o_makers h_o_halves h_o_all h_o_text h_o_saved h_o_undone h_o_told h_o_shift h_o_rootOf h_o_becomes h_o_comes h_o_next H.size o_raised o_undos o_reached o_length o_begin o_letters o_sort o_word o_wrongAt o_badAt o_bad o_firstX o_firstY o_secondX o_secondY o_x o_all_r o_plans_r v4 p1 p2 q22 hq22) (cwV 3 hts (ds_gV kw_655 kw_656 kw_657 kw_597 kw_658) rfl rfl rfl (by decide +kernel) ⟨Nat.le_of_ble_eq_true rfl, Nat.le_of_ble_eq_true rfl⟩) ⟨ds_blind, va_recv hK hP (ci := 7) (q0 := 2) rfl rfl, ds_at hP hD hK hE hS hA [2, 3, 0] rfl rfl _⟩ rfl rfl hl.1 rfl (lv_room (Nat.le_of_ble_eq_true rfl)) dX8_turnsAt_22 ⟨Nat.zero_le _, Nat.zero_le _⟩) hP hD hS hA [2, 3, 0] [1] rfl rfl rfl (by decide) (fun H locs hP hD hS => ?_)
        have hP : va_P (dC, dI) vwCl [(h_o_shift, .inl (ca 3, 768, .inl o_shift_r)), (h_o, .inr (7, [.ref h_o_plans, .ref h_o_makers, .ref h_o_halves, .int o_raised, .ref h_o_all, .ref h_o_text, .ref h_o_saved, .ref h_o_undone, .int o_undos, .int o_reached, .int o_length, .int o_begin, .int o_letters, .int o_sort, .long o_word, .int o_wrongAt, .int o_badAt, .int o_bad, .ref h_o_told, .ref h_o_shift, .int o_firstX, .int o_firstY, .int o_secondX, .int o_secondY, .ref h_o_rootOf, .ref h_o_becomes, .ref h_o_comes, .ref h_o_next, .int o_x])), (h_o_all, .inl (ca 0, 350, .inl o_all_r)), (h_o_plans, .inl (ca 0, 80, .inl o_plans_r))] H := hP
        have hD : va_D A [(h_o_shift, .inl (ca 3, 768, .inl o_shift_r)), (h_o, .inr (7, [.ref h_o_plans, .ref h_o_makers, .ref h_o_halves, .int o_raised, .ref h_o_all, .ref h_o_text, .ref h_o_saved, .ref h_o_undone, .int o_undos, .int o_reached, .int o_length, .int o_begin, .int o_letters, .int o_sort, .long o_word, .int o_wrongAt, .int o_badAt, .int o_bad, .ref h_o_told, .ref h_o_shift, .int o_firstX, .int o_firstY, .int o_secondX, .int o_secondY, .ref h_o_rootOf, .ref h_o_becomes, .ref h_o_comes, .ref h_o_next, .int o_x])), (h_o_all, .inl (ca 0, 350, .inl o_all_r)), (h_o_plans, .inl (ca 0, 80, .inl o_plans_r))] := hD
        refine lv_isub hx hb dX8_turnsAt_25 ?_
        refine lv_istore (lv' := [(5, .int (p1 - q22)), (0, .ref h_o), (1, .int p1), (2, .int p2), (3, .int v3), (4, .int v4)]) hx hb dX8_turnsAt_26 hl (by decide) rfl (fun ls hl => ?_)
        refine lv_iload_n hx hb dX8_turnsAt_28 rfl (lv_at hl 3 rfl) ?_
        refine lv_aload_n hx hb dX8_turnsAt_29 rfl (lv_at hl 1 rfl) ?_
        refine lv_iload hx hb dX8_turnsAt_30 (lv_at hl 5 rfl) ?_
        refine lv_iload_n hx hb dX8_turnsAt_32 rfl (lv_at hl 2 rfl) ?_
        refine lv_iload_n hx hb dX8_turnsAt_33 rfl (lv_at hl 3 rfl) ?_
        obtain ⟨q34, hq34, hf⟩ := ds_ob hf
        refine ds_calli (wr := [(h_o_shift, .inl (ca 3, 768, .inl o_shift_r))]) (va_runV (As := [.int v4, .int p1, .int p2]) (rest := [.int p2]) ⟨hx, hb, hml, hown, hts⟩ (c_X8_turnY l dC dI ca sa h_o h_o_plans h_o_makers h_o_halves h_o_all h_o_text h_o_saved h_o_undone h_o_told h_o_shift h_o_rootOf h_o_becomes h_o_comes h_o_next H.size o_raised o_undos o_reached o_length o_begin o_letters o_sort o_word o_wrongAt o_badAt o_bad o_firstX o_firstY o_secondX o_secondY o_x o_all_r o_plans_r v4 p1 p2 q34 hq34) (cwV 3 hts (ds_gV kw_659 kw_660 kw_661 kw_597 kw_662) rfl rfl rfl (by decide +kernel) ⟨Nat.le_of_ble_eq_true rfl, Nat.le_of_ble_eq_true rfl⟩) ⟨ds_blind, va_recv hK hP (ci := 7) (q0 := 1) rfl rfl, ds_at hP hD hK hE hS hA [1, 2, 3] rfl rfl _⟩ rfl rfl hl.1 rfl (lv_room (Nat.le_of_ble_eq_true rfl)) dX8_turnsAt_34 ⟨Nat.zero_le _, Nat.zero_le _⟩) hP hD hS hA [1, 2, 3] [0] rfl rfl rfl (by decide) (fun H locs hP hD hS => ?_)
        have hP : va_P (dC, dI) vwCl [(h_o_shift, .inl (ca 3, 768, .inl o_shift_r)), (h_o, .inr (7, [.ref h_o_plans, .ref h_o_makers, .ref h_o_halves, .int o_raised, .ref h_o_all, .ref h_o_text, .ref h_o_saved, .ref h_o_undone, .int o_undos, .int o_reached, .int o_length, .int o_begin, .int o_letters, .int o_sort, .long o_word, .int o_wrongAt, .int o_badAt, .int o_bad, .ref h_o_told, .ref h_o_shift, .int o_firstX, .int o_firstY, .int o_secondX, .int o_secondY, .ref h_o_rootOf, .ref h_o_becomes, .ref h_o_comes, .ref h_o_next, .int o_x])), (h_o_all, .inl (ca 0, 350, .inl o_all_r)), (h_o_plans, .inl (ca 0, 80, .inl o_plans_r))] H := hP
        have hD : va_D A [(h_o_shift, .inl (ca 3, 768, .inl o_shift_r)), (h_o, .inr (7, [.ref h_o_plans, .ref h_o_makers, .ref h_o_halves, .int o_raised, .ref h_o_all, .ref h_o_text, .ref h_o_saved, .ref h_o_undone, .int o_undos, .int o_reached, .int o_length, .int o_begin, .int o_letters, .int o_sort, .long o_word, .int o_wrongAt, .int o_badAt, .int o_bad, .ref h_o_told, .ref h_o_shift, .int o_firstX, .int o_firstY, .int o_secondX, .int o_secondY, .ref h_o_rootOf, .ref h_o_becomes, .ref h_o_comes, .ref h_o_next, .int o_x])), (h_o_all, .inl (ca 0, 350, .inl o_all_r)), (h_o_plans, .inl (ca 0, 80, .inl o_plans_r))] := hD
        refine lv_isub hx hb dX8_turnsAt_37 ?_
        refine lv_istore (lv' := [(6, .int (p2 - q34)), (5, .int (p1 - q22)), (0, .ref h_o), (1, .int p1), (2, .int p2), (3, .int v3), (4, .int v4)]) hx hb dX8_turnsAt_38 hl (by decide) rfl (fun ls hl => ?_)
        refine lv_iload hx hb dX8_turnsAt_40 (lv_at hl 1 rfl) ?_
        refine lv_bipush (v := 6) hx hb dX8_turnsAt_42 (by decide) ?_
        refine lv_irem hx hb dX8_turnsAt_44 (by decide) ?_
        refine lv_if_ne (tgt := 60) hx hb dX8_turnsAt_45 (by decide) (fun c_45 => ?_) (fun c_45 => ?_)
        · replace hf := ds_f c_45 hf
          exact h1 (J_60 v3 v4 (p1 - q22) (p2 - q34) _ hf hG _ _ (hP.sub [1, 2, 3, 0] rfl) (hD.sub [1, 2, 3, 0] rfl rfl) hS _ (lv_sub hl [2, 3, 4, 5, 6, 1, 0] rfl))
        · replace hf := ds_t c_45 hf
          refine lv_iload hx hb dX8_turnsAt_48 (lv_at hl 0 rfl) ?_
          refine lv_bipush (v := 6) hx hb dX8_turnsAt_50 (by decide) ?_
          refine lv_irem hx hb dX8_turnsAt_52 (by decide) ?_
          refine lv_if_ne (tgt := 60) hx hb dX8_turnsAt_53 (by decide) (fun c_53 => ?_) (fun c_53 => ?_)
          · replace hf := ds_f c_53 hf
            exact h1 (J_60 v3 v4 (p1 - q22) (p2 - q34) _ hf hG _ _ (hP.sub [1, 2, 3, 0] rfl) (hD.sub [1, 2, 3, 0] rfl rfl) hS _ (lv_sub hl [2, 3, 4, 5, 6, 1, 0] rfl))
          · replace hf := ds_t c_53 hf
            refine lv_iconst (v := 1) hx hb dX8_turnsAt_56 (by decide) ?_
            refine lv_goto (tgt := 61) hx hb dX8_turnsAt_57 (by decide) ?_
            exact h1 (J_61 v3 v4 (p1 - q22) (p2 - q34) (1 : Int32) _ hf hG _ _ (hP.sub [1, 2, 3, 0] rfl) (hD.sub [1, 2, 3, 0] rfl rfl) hS _ (lv_sub hl [2, 3, 4, 5, 6, 1, 0] rfl))
  unfold fX8_turnsAt at hf
  refine lv_iconst (v := 0) hx hb dX8_turnsAt_0 (by decide) ?_
  refine lv_istore_n (lv' := [(3, .int (0 : Int32)), (0, .ref h_o), (1, .int p1), (2, .int p2)]) hx hb dX8_turnsAt_1 rfl hl (by decide) rfl (fun ls hl => ?_)
  refine lv_iconst (v := 0) hx hb dX8_turnsAt_2 (by decide) ?_
  refine lv_istore (lv' := [(4, .int (0 : Int32)), (3, .int (0 : Int32)), (0, .ref h_o), (1, .int p1), (2, .int p2)]) hx hb dX8_turnsAt_3 hl (by decide) rfl (fun ls hl => ?_)
  exact h1 (J_5  1000 (0 : Int32) (0 : Int32) _ hf hG _ _ hP hD hS _ (lv_sub hl [2, 3, 4, 1, 0] rfl))
theorem dX8_centre_0 : decode cX8_centre 0 = .ok (.aload_n 0, 1) := by decide +kernel
theorem dX8_centre_1 : decode cX8_centre 1 = .ok (.iconst 0, 1) := by decide +kernel
theorem dX8_centre_2 : decode cX8_centre 2 = .ok (.putfield 51, 3) := by decide +kernel
theorem dX8_centre_5 : decode cX8_centre 5 = .ok (.iload_n 1, 1) := by decide +kernel
theorem dX8_centre_6 : decode cX8_centre 6 = .ok (.iconst 1, 1) := by decide +kernel
theorem dX8_centre_7 : decode cX8_centre 7 = .ok (.bipush 6, 2) := by decide +kernel
theorem dX8_centre_9 : decode cX8_centre 9 = .ok (.invokestatic 90, 3) := by decide +kernel
theorem dX8_centre_12 : decode cX8_centre 12 = .ok (.ifCond .eq 27, 3) := by decide +kernel
theorem dX8_centre_15 : decode cX8_centre 15 = .ok (.iload_n 1, 1) := by decide +kernel
theorem dX8_centre_16 : decode cX8_centre 16 = .ok (.iconst 5, 1) := by decide +kernel
theorem dX8_centre_17 : decode cX8_centre 17 = .ok (.if_icmp .eq 22, 3) := by decide +kernel
theorem dX8_centre_20 : decode cX8_centre 20 = .ok (.iload_n 3, 1) := by decide +kernel
theorem dX8_centre_21 : decode cX8_centre 21 = .ok (.iconst 0, 1) := by decide +kernel
theorem dX8_centre_22 : decode cX8_centre 22 = .ok (.iconst 1, 1) := by decide +kernel
theorem dX8_centre_23 : decode cX8_centre 23 = .ok (.invokestatic 90, 3) := by decide +kernel
theorem dX8_centre_26 : decode cX8_centre 26 = .ok (.ifCond .eq 13, 3) := by decide +kernel
theorem dX8_centre_29 : decode cX8_centre 29 = .ok (.iload_n 2, 1) := by decide +kernel
theorem dX8_centre_30 : decode cX8_centre 30 = .ok (.iconst (-1), 1) := by decide +kernel
theorem dX8_centre_31 : decode cX8_centre 31 = .ok (.if_icmp .ne 11, 3) := by decide +kernel
theorem dX8_centre_34 : decode cX8_centre 34 = .ok (.iload_n 3, 1) := by decide +kernel
theorem dX8_centre_35 : decode cX8_centre 35 = .ok (.iconst 1, 1) := by decide +kernel
theorem dX8_centre_36 : decode cX8_centre 36 = .ok (.if_icmp .ne 6, 3) := by decide +kernel
theorem dX8_centre_39 : decode cX8_centre 39 = .ok (.bipush (-2), 2) := by decide +kernel
theorem dX8_centre_41 : decode cX8_centre 41 = .ok (.ireturn, 1) := by decide +kernel
theorem dX8_centre_42 : decode cX8_centre 42 = .ok (.aload_n 0, 1) := by decide +kernel
theorem dX8_centre_43 : decode cX8_centre 43 = .ok (.invokevirtual 227, 3) := by decide +kernel
theorem dX8_centre_46 : decode cX8_centre 46 = .ok (.iconst 0, 1) := by decide +kernel
theorem dX8_centre_47 : decode cX8_centre 47 = .ok (.istore 4, 2) := by decide +kernel
theorem dX8_centre_49 : decode cX8_centre 49 = .ok (.iconst 0, 1) := by decide +kernel
theorem dX8_centre_50 : decode cX8_centre 50 = .ok (.istore 5, 2) := by decide +kernel
theorem dX8_centre_52 : decode cX8_centre 52 = .ok (.iload 5, 2) := by decide +kernel
theorem dX8_centre_54 : decode cX8_centre 54 = .ok (.bipush 6, 2) := by decide +kernel
theorem dX8_centre_56 : decode cX8_centre 56 = .ok (.aload_n 0, 1) := by decide +kernel
theorem dX8_centre_57 : decode cX8_centre 57 = .ok (.getfield 19, 3) := by decide +kernel
theorem dX8_centre_60 : decode cX8_centre 60 = .ok (.iconst 1, 1) := by decide +kernel
theorem dX8_centre_61 : decode cX8_centre 61 = .ok (.iaload, 1) := by decide +kernel
theorem dX8_centre_62 : decode cX8_centre 62 = .ok (.imul, 1) := by decide +kernel
theorem dX8_centre_63 : decode cX8_centre 63 = .ok (.if_icmp .ge 65, 3) := by decide +kernel
theorem dX8_centre_66 : decode cX8_centre 66 = .ok (.iconst 0, 1) := by decide +kernel
theorem dX8_centre_67 : decode cX8_centre 67 = .ok (.istore 6, 2) := by decide +kernel
theorem dX8_centre_69 : decode cX8_centre 69 = .ok (.iload 6, 2) := by decide +kernel
theorem dX8_centre_71 : decode cX8_centre 71 = .ok (.bipush 6, 2) := by decide +kernel
theorem dX8_centre_73 : decode cX8_centre 73 = .ok (.aload_n 0, 1) := by decide +kernel
theorem dX8_centre_74 : decode cX8_centre 74 = .ok (.getfield 19, 3) := by decide +kernel
theorem dX8_centre_77 : decode cX8_centre 77 = .ok (.iconst 0, 1) := by decide +kernel
theorem dX8_centre_78 : decode cX8_centre 78 = .ok (.iaload, 1) := by decide +kernel
theorem dX8_centre_79 : decode cX8_centre 79 = .ok (.imul, 1) := by decide +kernel
theorem dX8_centre_80 : decode cX8_centre 80 = .ok (.if_icmp .ge 42, 3) := by decide +kernel
theorem dX8_centre_83 : decode cX8_centre 83 = .ok (.aload_n 0, 1) := by decide +kernel
theorem dX8_centre_84 : decode cX8_centre 84 = .ok (.iload 6, 2) := by decide +kernel
theorem dX8_centre_86 : decode cX8_centre 86 = .ok (.iload 5, 2) := by decide +kernel
theorem dX8_centre_88 : decode cX8_centre 88 = .ok (.invokevirtual 248, 3) := by decide +kernel
theorem dX8_centre_91 : decode cX8_centre 91 = .ok (.iload_n 1, 1) := by decide +kernel
theorem dX8_centre_92 : decode cX8_centre 92 = .ok (.if_icmp .ne 24, 3) := by decide +kernel
theorem dX8_centre_95 : decode cX8_centre 95 = .ok (.iload 4, 2) := by decide +kernel
theorem dX8_centre_97 : decode cX8_centre 97 = .ok (.iload_n 2, 1) := by decide +kernel
theorem dX8_centre_98 : decode cX8_centre 98 = .ok (.if_icmp .ne 15, 3) := by decide +kernel
theorem dX8_centre_101 : decode cX8_centre 101 = .ok (.iload_n 3, 1) := by decide +kernel
theorem dX8_centre_102 : decode cX8_centre 102 = .ok (.ifCond .ne 8, 3) := by decide +kernel
theorem dX8_centre_105 : decode cX8_centre 105 = .ok (.iload 6, 2) := by decide +kernel
theorem dX8_centre_107 : decode cX8_centre 107 = .ok (.goto 5, 3) := by decide +kernel
theorem dX8_centre_110 : decode cX8_centre 110 = .ok (.iload 5, 2) := by decide +kernel
theorem dX8_centre_112 : decode cX8_centre 112 = .ok (.ireturn, 1) := by decide +kernel
theorem dX8_centre_113 : decode cX8_centre 113 = .ok (.iinc 4 1, 3) := by decide +kernel
theorem dX8_centre_116 : decode cX8_centre 116 = .ok (.iinc 6 1, 3) := by decide +kernel
theorem dX8_centre_119 : decode cX8_centre 119 = .ok (.goto (-50), 3) := by decide +kernel
theorem dX8_centre_122 : decode cX8_centre 122 = .ok (.iinc 5 1, 3) := by decide +kernel
theorem dX8_centre_125 : decode cX8_centre 125 = .ok (.goto (-73), 3) := by decide +kernel
theorem dX8_centre_128 : decode cX8_centre 128 = .ok (.iload_n 2, 1) := by decide +kernel
theorem dX8_centre_129 : decode cX8_centre 129 = .ok (.iconst (-1), 1) := by decide +kernel
theorem dX8_centre_130 : decode cX8_centre 130 = .ok (.if_icmp .ne 8, 3) := by decide +kernel
theorem dX8_centre_133 : decode cX8_centre 133 = .ok (.iload 4, 2) := by decide +kernel
theorem dX8_centre_135 : decode cX8_centre 135 = .ok (.goto 5, 3) := by decide +kernel
theorem dX8_centre_138 : decode cX8_centre 138 = .ok (.bipush (-2), 2) := by decide +kernel
theorem dX8_centre_140 : decode cX8_centre 140 = .ok (.ireturn, 1) := by decide +kernel
def fX8_centre_128 (o_raised : Int32) (o_shift_r : Nat → Int32) (p2 : Int32) (v4 : Int32) : Option (Int32 × Int32 × (Nat → Int32)) :=
  if p2 = (-1 : Int32) then some (v4, o_raised, o_shift_r) else some ((-2 : Int32), o_raised, o_shift_r)
def fX8_centre_101 (o_raised : Int32) (o_shift_r : Nat → Int32) (p3 : Int32) (v5 : Int32) (v6 : Int32) : Option (Int32 × Int32 × (Nat → Int32)) :=
  if p3 = 0 then some (v6, o_raised, o_shift_r) else some (v5, o_raised, o_shift_r)
def fX8_centre_122 (v4 : Int32) (v5 : Int32) : Option ((Int32 × Int32) ⊕ (Int32 × Int32 × (Nat → Int32))) :=
  some (.inl (v4, (v5 + 1)))
def fX8_centre_116 (v4 : Int32) (v6 : Int32) : Option ((Int32 × Int32) ⊕ ((Int32 × Int32) ⊕ (Int32 × Int32 × (Nat → Int32)))) :=
  some (.inl (v4, (v6 + 1)))
def fX8_centre_69_b (o_raised : Int32) (o_all_r : Nat → Int32) (o_plans_r : Nat → Int32) (o_shift_r : Nat → Int32) (p1 : Int32) (p2 : Int32) (p3 : Int32) (v5 : Int32) (v4 : Int32) (v6 : Int32) : Option ((Int32 × Int32) ⊕ ((Int32 × Int32) ⊕ (Int32 × Int32 × (Nat → Int32)))) :=
  if ((6 : Int32) * (o_all_r (0 : Int32).toNatClampNeg)) ≤ v6 then Option.bind (fX8_centre_122 v4 v5) fun z => some (.inr z) else Option.bind (fX8_turnsAt o_all_r o_plans_r o_shift_r v6 v5) fun q88 => if q88 = p1 then if v4 = p2 then Option.bind (Option.bind (fX8_centre_101 o_raised o_shift_r p3 v5 v6) fun z => some (.inr z)) fun z => some (.inr z) else fX8_centre_116 (v4 + 1) v6 else fX8_centre_116 v4 v6
def fX8_centre_69 (o_raised : Int32) (o_all_r : Nat → Int32) (o_plans_r : Nat → Int32) (o_shift_r : Nat → Int32) (p1 : Int32) (p2 : Int32) (p3 : Int32) (v5 : Int32) (v4 : Int32) (v6 : Int32) : Option ((Int32 × Int32) ⊕ (Int32 × Int32 × (Nat → Int32))) := ds_it (fun s => fX8_centre_69_b o_raised o_all_r o_plans_r o_shift_r p1 p2 p3 v5 s.1 s.2) 1000 (v4, v6)
def fX8_centre_52_b (o_raised : Int32) (o_all_r : Nat → Int32) (o_plans_r : Nat → Int32) (o_shift_r : Nat → Int32) (p1 : Int32) (p2 : Int32) (p3 : Int32) (v4 : Int32) (v5 : Int32) : Option ((Int32 × Int32) ⊕ (Int32 × Int32 × (Nat → Int32))) :=
  if ((6 : Int32) * (o_all_r (1 : Int32).toNatClampNeg)) ≤ v5 then Option.bind (fX8_centre_128 o_raised o_shift_r p2 v4) fun z => some (.inr z) else fX8_centre_69 o_raised o_all_r o_plans_r o_shift_r p1 p2 p3 v5 v4 (0 : Int32)
def fX8_centre_52 (o_raised : Int32) (o_all_r : Nat → Int32) (o_plans_r : Nat → Int32) (o_shift_r : Nat → Int32) (p1 : Int32) (p2 : Int32) (p3 : Int32) (v4 : Int32) (v5 : Int32) : Option (Int32 × Int32 × (Nat → Int32)) := ds_it (fun s => fX8_centre_52_b o_raised o_all_r o_plans_r o_shift_r p1 p2 p3 s.1 s.2) 1000 (v4, v5)
def fX8_centre_42 (o_raised : Int32) (o_all_r : Nat → Int32) (o_plans_r : Nat → Int32) (o_shift_r : Nat → Int32) (p1 : Int32) (p2 : Int32) (p3 : Int32) : Option (Int32 × Int32 × (Nat → Int32)) :=
  Option.bind (fX8_laysShifts o_all_r o_plans_r o_shift_r) fun q43 => fX8_centre_52 o_raised o_all_r o_plans_r q43 p1 p2 p3 (0 : Int32) (0 : Int32)
def fX8_centre (o_all_r : Nat → Int32) (o_plans_r : Nat → Int32) (o_shift_r : Nat → Int32) (p1 : Int32) (p2 : Int32) (p3 : Int32) : Option (Int32 × Int32 × (Nat → Int32)) :=
  Option.bind (fX8_in p1 (1 : Int32) (6 : Int32)) fun q9 => if q9 = 0 then some ((-2 : Int32), (0 : Int32), o_shift_r) else if p1 = (5 : Int32) then some ((-2 : Int32), (0 : Int32), o_shift_r) else Option.bind (fX8_in p3 (0 : Int32) (1 : Int32)) fun q23 => if q23 = 0 then some ((-2 : Int32), (0 : Int32), o_shift_r) else if p2 = (-1 : Int32) then if p3 = (1 : Int32) then some ((-2 : Int32), (0 : Int32), o_shift_r) else fX8_centre_42 (0 : Int32) o_all_r o_plans_r o_shift_r p1 p2 p3 else fX8_centre_42 (0 : Int32) o_all_r o_plans_r o_shift_r p1 p2 p3
set_option maxHeartbeats 4000000 in
set_option maxRecDepth 100000 in
theorem c_X8_centre (l : Launch) (dC : Nat → ClassId) (dI : Nat → Nat → Nat) (ca : Nat → ClassId) (sa : Nat → Nat) (h_o : Nat) (h_o_plans : Nat) (h_o_makers : Nat) (h_o_halves : Nat) (h_o_all : Nat) (h_o_text : Nat) (h_o_saved : Nat) (h_o_undone : Nat) (h_o_told : Nat) (h_o_shift : Nat) (h_o_rootOf : Nat) (h_o_becomes : Nat) (h_o_comes : Nat) (h_o_next : Nat) (sz : Nat) (o_raised : Int32) (o_undos : Int32) (o_reached : Int32) (o_length : Int32) (o_begin : Int32) (o_letters : Int32) (o_sort : Int32) (o_word : Int64) (o_wrongAt : Int32) (o_badAt : Int32) (o_bad : Int32) (o_firstX : Int32) (o_firstY : Int32) (o_secondX : Int32) (o_secondY : Int32) (o_x : Int32) (o_all_r : Nat → Int32) (o_plans_r : Nat → Int32) (o_shift_r : Nat → Int32) (p1 : Int32) (p2 : Int32) (p3 : Int32) (res : Int32 × Int32 × (Nat → Int32)) (hf : fX8_centre o_all_r o_plans_r o_shift_r p1 p2 p3 = some res) : Met l yX8_centre (Cond.code yX8_centre cX8_centre 7 (some .int) :: ds_gw) { frames := 5, cells := 0, slots := 0, locals := 115 } (va_Pc [.ref h_o, .int p1, .int p2, .int p3] (ds_Pre dC dI ca sa [(h_o, .inr (7, [.ref h_o_plans, .ref h_o_makers, .ref h_o_halves, .int o_raised, .ref h_o_all, .ref h_o_text, .ref h_o_saved, .ref h_o_undone, .int o_undos, .int o_reached, .int o_length, .int o_begin, .int o_letters, .int o_sort, .long o_word, .int o_wrongAt, .int o_badAt, .int o_bad, .ref h_o_told, .ref h_o_shift, .int o_firstX, .int o_firstY, .int o_secondX, .int o_secondY, .ref h_o_rootOf, .ref h_o_becomes, .ref h_o_comes, .ref h_o_next, .int o_x])), (h_o_all, .inl (ca 0, 350, .inl o_all_r)), (h_o_plans, .inl (ca 0, 80, .inl o_plans_r)), (h_o_shift, .inl (ca 3, 768, .inl o_shift_r))] sz)) (va_Qi (fun r (_ : Unit) => r = res.1) (ds_B dC dI (va_A [(h_o, .inr (7, [.ref h_o_plans, .ref h_o_makers, .ref h_o_halves, .int o_raised, .ref h_o_all, .ref h_o_text, .ref h_o_saved, .ref h_o_undone, .int o_undos, .int o_reached, .int o_length, .int o_begin, .int o_letters, .int o_sort, .long o_word, .int o_wrongAt, .int o_badAt, .int o_bad, .ref h_o_told, .ref h_o_shift, .int o_firstX, .int o_firstY, .int o_secondX, .int o_secondY, .ref h_o_rootOf, .ref h_o_becomes, .ref h_o_comes, .ref h_o_next, .int o_x])), (h_o_all, .inl (ca 0, 350, .inl o_all_r)), (h_o_plans, .inl (ca 0, 80, .inl o_plans_r)), (h_o_shift, .inl (ca 3, 768, .inl o_shift_r))] sz) [(h_o, .inr (7, [.ref h_o_plans, .ref h_o_makers, .ref h_o_halves, .int res.2.1, .ref h_o_all, .ref h_o_text, .ref h_o_saved, .ref h_o_undone, .int o_undos, .int o_reached, .int o_length, .int o_begin, .int o_letters, .int o_sort, .long o_word, .int o_wrongAt, .int o_badAt, .int o_bad, .ref h_o_told, .ref h_o_shift, .int o_firstX, .int o_firstY, .int o_secondX, .int o_secondY, .ref h_o_rootOf, .ref h_o_becomes, .ref h_o_comes, .ref h_o_next, .int o_x])), (h_o_all, .inl (ca 0, 350, .inl o_all_r)), (h_o_plans, .inl (ca 0, 80, .inl o_plans_r)), (h_o_shift, .inl (ca 3, 768, .inl res.2.2))]) (va_A [(h_o, .inr (7, [.ref h_o_plans, .ref h_o_makers, .ref h_o_halves, .int o_raised, .ref h_o_all, .ref h_o_text, .ref h_o_saved, .ref h_o_undone, .int o_undos, .int o_reached, .int o_length, .int o_begin, .int o_letters, .int o_sort, .long o_word, .int o_wrongAt, .int o_badAt, .int o_bad, .ref h_o_told, .ref h_o_shift, .int o_firstX, .int o_firstY, .int o_secondX, .int o_secondY, .ref h_o_rootOf, .ref h_o_becomes, .ref h_o_comes, .ref h_o_next, .int o_x])), (h_o_all, .inl (ca 0, 350, .inl o_all_r)), (h_o_plans, .inl (ca 0, 80, .inl o_plans_r)), (h_o_shift, .inl (ca 3, 768, .inl o_shift_r))] sz)) 0 0 (va_A [(h_o, .inr (7, [.ref h_o_plans, .ref h_o_makers, .ref h_o_halves, .int o_raised, .ref h_o_all, .ref h_o_text, .ref h_o_saved, .ref h_o_undone, .int o_undos, .int o_reached, .int o_length, .int o_begin, .int o_letters, .int o_sort, .long o_word, .int o_wrongAt, .int o_badAt, .int o_bad, .ref h_o_told, .ref h_o_shift, .int o_firstX, .int o_firstY, .int o_secondX, .int o_secondY, .ref h_o_rootOf, .ref h_o_becomes, .ref h_o_comes, .ref h_o_next, .int o_x])), (h_o_all, .inl (ca 0, 350, .inl o_all_r)), (h_o_plans, .inl (ca 0, 80, .inl o_plans_r)), (h_o_shift, .inl (ca 3, 768, .inl o_shift_r))] sz) := by
  refine Met.ofW (cc := cX8_centre) (maxL := 7) (ret := (some .int)) (by decide) rfl ?_
  intro p e s m args below meth c s₁ B hml hv
  obtain ⟨rfl, hsz, hP, hK, hD0, hE⟩ := hv
  have hx := B.exec
  have hb := B.bytes
  have hr := B.returns
  have hts := atoms_spec (ws := Cond.code yX8_centre cX8_centre 7 (some .int) :: ds_gw) B.pre
  have hg : ∀ {w : Cond}, w ∈ ds_gw → w.before _ s = true := fun h => hts _ (List.mem_cons_of_mem _ h)
  have hown : s.vm.findClass RX8 = some m.cls := findClass_of_methodNamed B.named
  have hlocks := B.notSynchronized
  subst hsz
  have hD := hD0.self (sz := s.heap.size)
  generalize hAe : va_A [(h_o, .inr (7, [.ref h_o_plans, .ref h_o_makers, .ref h_o_halves, .int o_raised, .ref h_o_all, .ref h_o_text, .ref h_o_saved, .ref h_o_undone, .int o_undos, .int o_reached, .int o_length, .int o_begin, .int o_letters, .int o_sort, .long o_word, .int o_wrongAt, .int o_badAt, .int o_bad, .ref h_o_told, .ref h_o_shift, .int o_firstX, .int o_firstY, .int o_secondX, .int o_secondY, .ref h_o_rootOf, .ref h_o_becomes, .ref h_o_comes, .ref h_o_next, .int o_x])), (h_o_all, .inl (ca 0, 350, .inl o_all_r)), (h_o_plans, .inl (ca 0, 80, .inl o_plans_r)), (h_o_shift, .inl (ca 3, 768, .inl o_shift_r))] s.heap.size = A at hD hE ⊢
  have hA : ∀ q : Nat, s.heap.size ≤ q → A q := fun q h => by rw [← hAe]; exact Or.inr h
  have hS : va_S A s.heap s.heap [] := va_S.rf
  have hl := lv_entry ([.ref h_o, .int p1, .int p2, .int p3]) (n := 7) (Nat.le_of_ble_eq_true rfl)
  rw [lg_entry_eq]
  generalize (lg_sl ([.ref h_o, .int p1, .int p2, .int p3]) ++ List.replicate (7 - (lg_sl ([.ref h_o, .int p1, .int p2, .int p3])).length) Slot.unset).toArray = ls at hl ⊢
  have hl : lv_has ls 7 [(0, .ref h_o), (1, .int p1), (2, .int p2), (3, .int p3)] := hl
  obtain ⟨G0, eG0⟩ : ∃ G : (Int32 × Int32 × (Nat → Int32)) → Prop, G = (fun r => r = res) := ⟨_, rfl⟩
  obtain ⟨rr, hrr⟩ : ∃ z, z = res := ⟨_, rfl⟩
  rw [← hrr] at hf
  have hG : G0 rr := by subst eG0; exact hrr
  refine ds_cap (fun WW h1 h2 => ?_)
  have J_128 : ∀ (v4 : Int32) (o_raised : Int32) (o_shift_r : Nat → Int32) (rr : Int32 × Int32 × (Nat → Int32)) (hf : fX8_centre_128 o_raised o_shift_r p2 v4 = some rr) (hG : G0 rr) (H : Heap) (locs : List Loc) (hP : va_P (dC, dI) vwCl [(h_o, .inr (7, [.ref h_o_plans, .ref h_o_makers, .ref h_o_halves, .int o_raised, .ref h_o_all, .ref h_o_text, .ref h_o_saved, .ref h_o_undone, .int o_undos, .int o_reached, .int o_length, .int o_begin, .int o_letters, .int o_sort, .long o_word, .int o_wrongAt, .int o_badAt, .int o_bad, .ref h_o_told, .ref h_o_shift, .int o_firstX, .int o_firstY, .int o_secondX, .int o_secondY, .ref h_o_rootOf, .ref h_o_becomes, .ref h_o_comes, .ref h_o_next, .int o_x])), (h_o_all, .inl (ca 0, 350, .inl o_all_r)), (h_o_plans, .inl (ca 0, 80, .inl o_plans_r)), (h_o_shift, .inl (ca 3, 768, .inl o_shift_r))] H) (hD : va_D A [(h_o, .inr (7, [.ref h_o_plans, .ref h_o_makers, .ref h_o_halves, .int o_raised, .ref h_o_all, .ref h_o_text, .ref h_o_saved, .ref h_o_undone, .int o_undos, .int o_reached, .int o_length, .int o_begin, .int o_letters, .int o_sort, .long o_word, .int o_wrongAt, .int o_badAt, .int o_bad, .ref h_o_told, .ref h_o_shift, .int o_firstX, .int o_firstY, .int o_secondX, .int o_secondY, .ref h_o_rootOf, .ref h_o_becomes, .ref h_o_comes, .ref h_o_next, .int o_x])), (h_o_all, .inl (ca 0, 350, .inl o_all_r)), (h_o_plans, .inl (ca 0, 80, .inl o_plans_r)), (h_o_shift, .inl (ca 3, 768, .inl o_shift_r))]) (hS : va_S A s.heap H locs) (ls : Array Slot) (hl : lv_has ls 7 [(2, .int p2), (4, .int v4)]), WW H locs (F0 m 128 ls []) := by
    intro v4 o_raised o_shift_r rr hf hG H locs hP hD hS ls hl
    refine h2 ?_
    unfold fX8_centre_128 at hf
    refine lv_iload_n hx hb dX8_centre_128 rfl (lv_at hl 0 rfl) ?_
    refine lv_iconst (v := -1) hx hb dX8_centre_129 (by decide) ?_
    refine lv_icmp_ne (tgt := 138) hx hb dX8_centre_130 (by decide) (fun c_130 => ?_) (fun c_130 => ?_)
    · replace hf := ds_f c_130 hf
      refine lv_bipush (v := -2) hx hb dX8_centre_138 (by decide) ?_
      have hf := Option.some.inj hf
      subst hf
      rw [eG0] at hG
      have hG : _ = res := hG
      subst hG
      exact W.iret (v := (-2 : Int32)) hx hb hr (fun t ht hW => ⟨⟨(-2 : Int32), (), rfl, rfl, by rw [ht]; exact hP, hD⟩, hS.F ht⟩) hS.2.2 dX8_centre_140
    · replace hf := ds_t c_130 hf
      refine lv_iload hx hb dX8_centre_133 (lv_at hl 1 rfl) ?_
      refine lv_goto (tgt := 140) hx hb dX8_centre_135 (by decide) ?_
      have hf := Option.some.inj hf
      subst hf
      rw [eG0] at hG
      have hG : _ = res := hG
      subst hG
      exact W.iret (v := v4) hx hb hr (fun t ht hW => ⟨⟨v4, (), rfl, rfl, by rw [ht]; exact hP, hD⟩, hS.F ht⟩) hS.2.2 dX8_centre_140
  have J_101 : ∀ (v5 : Int32) (v6 : Int32) (o_raised : Int32) (o_shift_r : Nat → Int32) (rr : Int32 × Int32 × (Nat → Int32)) (hf : fX8_centre_101 o_raised o_shift_r p3 v5 v6 = some rr) (hG : G0 rr) (H : Heap) (locs : List Loc) (hP : va_P (dC, dI) vwCl [(h_o, .inr (7, [.ref h_o_plans, .ref h_o_makers, .ref h_o_halves, .int o_raised, .ref h_o_all, .ref h_o_text, .ref h_o_saved, .ref h_o_undone, .int o_undos, .int o_reached, .int o_length, .int o_begin, .int o_letters, .int o_sort, .long o_word, .int o_wrongAt, .int o_badAt, .int o_bad, .ref h_o_told, .ref h_o_shift, .int o_firstX, .int o_firstY, .int o_secondX, .int o_secondY, .ref h_o_rootOf, .ref h_o_becomes, .ref h_o_comes, .ref h_o_next, .int o_x])), (h_o_all, .inl (ca 0, 350, .inl o_all_r)), (h_o_plans, .inl (ca 0, 80, .inl o_plans_r)), (h_o_shift, .inl (ca 3, 768, .inl o_shift_r))] H) (hD : va_D A [(h_o, .inr (7, [.ref h_o_plans, .ref h_o_makers, .ref h_o_halves, .int o_raised, .ref h_o_all, .ref h_o_text, .ref h_o_saved, .ref h_o_undone, .int o_undos, .int o_reached, .int o_length, .int o_begin, .int o_letters, .int o_sort, .long o_word, .int o_wrongAt, .int o_badAt, .int o_bad, .ref h_o_told, .ref h_o_shift, .int o_firstX, .int o_firstY, .int o_secondX, .int o_secondY, .ref h_o_rootOf, .ref h_o_becomes, .ref h_o_comes, .ref h_o_next, .int o_x])), (h_o_all, .inl (ca 0, 350, .inl o_all_r)), (h_o_plans, .inl (ca 0, 80, .inl o_plans_r)), (h_o_shift, .inl (ca 3, 768, .inl o_shift_r))]) (hS : va_S A s.heap H locs) (ls : Array Slot) (hl : lv_has ls 7 [(3, .int p3), (5, .int v5), (6, .int v6)]), WW H locs (F0 m 101 ls []) := by
    intro v5 v6 o_raised o_shift_r rr hf hG H locs hP hD hS ls hl
    refine h2 ?_
    unfold fX8_centre_101 at hf
    refine lv_iload_n hx hb dX8_centre_101 rfl (lv_at hl 0 rfl) ?_
    refine lv_if_ne (tgt := 110) hx hb dX8_centre_102 (by decide) (fun c_102 => ?_) (fun c_102 => ?_)
    · replace hf := ds_f c_102 hf
      refine lv_iload hx hb dX8_centre_110 (lv_at hl 1 rfl) ?_
      have hf := Option.some.inj hf
      subst hf
      rw [eG0] at hG
      have hG : _ = res := hG
      subst hG
      exact W.iret (v := v5) hx hb hr (fun t ht hW => ⟨⟨v5, (), rfl, rfl, by rw [ht]; exact hP, hD⟩, hS.F ht⟩) hS.2.2 dX8_centre_112
    · replace hf := ds_t c_102 hf
      refine lv_iload hx hb dX8_centre_105 (lv_at hl 2 rfl) ?_
      refine lv_goto (tgt := 112) hx hb dX8_centre_107 (by decide) ?_
      have hf := Option.some.inj hf
      subst hf
      rw [eG0] at hG
      have hG : _ = res := hG
      subst hG
      exact W.iret (v := v6) hx hb hr (fun t ht hW => ⟨⟨v6, (), rfl, rfl, by rw [ht]; exact hP, hD⟩, hS.F ht⟩) hS.2.2 dX8_centre_112
  have J_52 : ∀ (o_raised : Int32) (o_shift_r : Nat → Int32) (n : Nat) (v4 : Int32) (v5 : Int32) (rr : Int32 × Int32 × (Nat → Int32)) (hf : ds_it (fun s => fX8_centre_52_b o_raised o_all_r o_plans_r o_shift_r p1 p2 p3 s.1 s.2) n (v4, v5) = some rr) (hG : G0 rr) (H : Heap) (locs : List Loc) (hP : va_P (dC, dI) vwCl [(h_o, .inr (7, [.ref h_o_plans, .ref h_o_makers, .ref h_o_halves, .int o_raised, .ref h_o_all, .ref h_o_text, .ref h_o_saved, .ref h_o_undone, .int o_undos, .int o_reached, .int o_length, .int o_begin, .int o_letters, .int o_sort, .long o_word, .int o_wrongAt, .int o_badAt, .int o_bad, .ref h_o_told, .ref h_o_shift, .int o_firstX, .int o_firstY, .int o_secondX, .int o_secondY, .ref h_o_rootOf, .ref h_o_becomes, .ref h_o_comes, .ref h_o_next, .int o_x])), (h_o_all, .inl (ca 0, 350, .inl o_all_r)), (h_o_plans, .inl (ca 0, 80, .inl o_plans_r)), (h_o_shift, .inl (ca 3, 768, .inl o_shift_r))] H) (hD : va_D A [(h_o, .inr (7, [.ref h_o_plans, .ref h_o_makers, .ref h_o_halves, .int o_raised, .ref h_o_all, .ref h_o_text, .ref h_o_saved, .ref h_o_undone, .int o_undos, .int o_reached, .int o_length, .int o_begin, .int o_letters, .int o_sort, .long o_word, .int o_wrongAt, .int o_badAt, .int o_bad, .ref h_o_told, .ref h_o_shift, .int o_firstX, .int o_firstY, .int o_secondX, .int o_secondY, .ref h_o_rootOf, .ref h_o_becomes, .ref h_o_comes, .ref h_o_next, .int o_x])), (h_o_all, .inl (ca 0, 350, .inl o_all_r)), (h_o_plans, .inl (ca 0, 80, .inl o_plans_r)), (h_o_shift, .inl (ca 3, 768, .inl o_shift_r))]) (hS : va_S A s.heap H locs) (ls : Array Slot) (hl : lv_has ls 7 [(0, .ref h_o), (1, .int p1), (2, .int p2), (3, .int p3), (4, .int v4), (5, .int v5)]), WW H locs (F0 m 52 ls []) := by
    intro o_raised o_shift_r n
    induction n with
    | zero => intro v4 v5 rr hf; exact (ds_it_zero hf).elim
    | succ n ih52 =>
      intro v4 v5 rr hf hG H locs hP hD hS ls hl
      refine h2 ?_
      obtain ⟨rr, hf, hG⟩ := ds_it_succ hf hG
      replace hf : fX8_centre_52_b o_raised o_all_r o_plans_r o_shift_r p1 p2 p3 v4 v5 = some rr := hf
      obtain ⟨G1, eG1⟩ : ∃ G : ((Int32 × Int32) ⊕ (Int32 × Int32 × (Nat → Int32))) → Prop, G = ds_G (fun s' => ∃ r', ds_it (fun s => fX8_centre_52_b o_raised o_all_r o_plans_r o_shift_r p1 p2 p3 s.1 s.2) n s' = some r' ∧ G0 r') G0 := ⟨_, rfl⟩
      rw [← eG1] at hG
      have J_122 : ∀ (v4 : Int32) (v5 : Int32) (rr : (Int32 × Int32) ⊕ (Int32 × Int32 × (Nat → Int32))) (hf : fX8_centre_122 v4 v5 = some rr) (hG : G1 rr) (H : Heap) (locs : List Loc) (hP : va_P (dC, dI) vwCl [(h_o, .inr (7, [.ref h_o_plans, .ref h_o_makers, .ref h_o_halves, .int o_raised, .ref h_o_all, .ref h_o_text, .ref h_o_saved, .ref h_o_undone, .int o_undos, .int o_reached, .int o_length, .int o_begin, .int o_letters, .int o_sort, .long o_word, .int o_wrongAt, .int o_badAt, .int o_bad, .ref h_o_told, .ref h_o_shift, .int o_firstX, .int o_firstY, .int o_secondX, .int o_secondY, .ref h_o_rootOf, .ref h_o_becomes, .ref h_o_comes, .ref h_o_next, .int o_x])), (h_o_all, .inl (ca 0, 350, .inl o_all_r)), (h_o_plans, .inl (ca 0, 80, .inl o_plans_r)), (h_o_shift, .inl (ca 3, 768, .inl o_shift_r))] H) (hD : va_D A [(h_o, .inr (7, [.ref h_o_plans, .ref h_o_makers, .ref h_o_halves, .int o_raised, .ref h_o_all, .ref h_o_text, .ref h_o_saved, .ref h_o_undone, .int o_undos, .int o_reached, .int o_length, .int o_begin, .int o_letters, .int o_sort, .long o_word, .int o_wrongAt, .int o_badAt, .int o_bad, .ref h_o_told, .ref h_o_shift, .int o_firstX, .int o_firstY, .int o_secondX, .int o_secondY, .ref h_o_rootOf, .ref h_o_becomes, .ref h_o_comes, .ref h_o_next, .int o_x])), (h_o_all, .inl (ca 0, 350, .inl o_all_r)), (h_o_plans, .inl (ca 0, 80, .inl o_plans_r)), (h_o_shift, .inl (ca 3, 768, .inl o_shift_r))]) (hS : va_S A s.heap H locs) (ls : Array Slot) (hl : lv_has ls 7 [(0, .ref h_o), (1, .int p1), (2, .int p2), (3, .int p3), (4, .int v4), (5, .int v5)]), WW H locs (F0 m 122 ls []) := by
        intro v4 v5 rr hf hG H locs hP hD hS ls hl
        refine h2 ?_
        unfold fX8_centre_122 at hf
        refine lv_iinc (v := (v5 + 1)) (lv' := [(5, .int (v5 + 1)), (0, .ref h_o), (1, .int p1), (2, .int p2), (3, .int p3), (4, .int v4)]) hx hb dX8_centre_122 hl (k := 5) rfl rfl (by decide) rfl (fun ls hl => ?_)
        refine lv_goto (tgt := 52) hx hb dX8_centre_125 (by decide) ?_
        have hf := Option.some.inj hf
        subst hf
        rw [eG1] at hG
        obtain ⟨rr, hf, hG⟩ := hG
        exact h1 (ih52 v4 (v5 + 1) rr hf hG _ _ hP hD hS _ (lv_sub hl [1, 2, 3, 4, 5, 0] rfl))
      have J_69 : ∀ (v5 : Int32) (n : Nat) (v4 : Int32) (v6 : Int32) (rr : (Int32 × Int32) ⊕ (Int32 × Int32 × (Nat → Int32))) (hf : ds_it (fun s => fX8_centre_69_b o_raised o_all_r o_plans_r o_shift_r p1 p2 p3 v5 s.1 s.2) n (v4, v6) = some rr) (hG : G1 rr) (H : Heap) (locs : List Loc) (hP : va_P (dC, dI) vwCl [(h_o, .inr (7, [.ref h_o_plans, .ref h_o_makers, .ref h_o_halves, .int o_raised, .ref h_o_all, .ref h_o_text, .ref h_o_saved, .ref h_o_undone, .int o_undos, .int o_reached, .int o_length, .int o_begin, .int o_letters, .int o_sort, .long o_word, .int o_wrongAt, .int o_badAt, .int o_bad, .ref h_o_told, .ref h_o_shift, .int o_firstX, .int o_firstY, .int o_secondX, .int o_secondY, .ref h_o_rootOf, .ref h_o_becomes, .ref h_o_comes, .ref h_o_next, .int o_x])), (h_o_all, .inl (ca 0, 350, .inl o_all_r)), (h_o_plans, .inl (ca 0, 80, .inl o_plans_r)), (h_o_shift, .inl (ca 3, 768, .inl o_shift_r))] H) (hD : va_D A [(h_o, .inr (7, [.ref h_o_plans, .ref h_o_makers, .ref h_o_halves, .int o_raised, .ref h_o_all, .ref h_o_text, .ref h_o_saved, .ref h_o_undone, .int o_undos, .int o_reached, .int o_length, .int o_begin, .int o_letters, .int o_sort, .long o_word, .int o_wrongAt, .int o_badAt, .int o_bad, .ref h_o_told, .ref h_o_shift, .int o_firstX, .int o_firstY, .int o_secondX, .int o_secondY, .ref h_o_rootOf, .ref h_o_becomes, .ref h_o_comes, .ref h_o_next, .int o_x])), (h_o_all, .inl (ca 0, 350, .inl o_all_r)), (h_o_plans, .inl (ca 0, 80, .inl o_plans_r)), (h_o_shift, .inl (ca 3, 768, .inl o_shift_r))]) (hS : va_S A s.heap H locs) (ls : Array Slot) (hl : lv_has ls 7 [(0, .ref h_o), (1, .int p1), (2, .int p2), (3, .int p3), (4, .int v4), (5, .int v5), (6, .int v6)]), WW H locs (F0 m 69 ls []) := by
        intro v5 n
        induction n with
        | zero => intro v4 v6 rr hf; exact (ds_it_zero hf).elim
        | succ n ih69 =>
          intro v4 v6 rr hf hG H locs hP hD hS ls hl
          refine h2 ?_
          obtain ⟨rr, hf, hG⟩ := ds_it_succ hf hG
          replace hf : fX8_centre_69_b o_raised o_all_r o_plans_r o_shift_r p1 p2 p3 v5 v4 v6 = some rr := hf
          obtain ⟨G2, eG2⟩ : ∃ G : ((Int32 × Int32) ⊕ ((Int32 × Int32) ⊕ (Int32 × Int32 × (Nat → Int32)))) → Prop, G = ds_G (fun s' => ∃ r', ds_it (fun s => fX8_centre_69_b o_raised o_all_r o_plans_r o_shift_r p1 p2 p3 v5 s.1 s.2) n s' = some r' ∧ G1 r') G1 := ⟨_, rfl⟩
          rw [← eG2] at hG
          have J_116 : ∀ (v4 : Int32) (v6 : Int32) (rr : (Int32 × Int32) ⊕ ((Int32 × Int32) ⊕ (Int32 × Int32 × (Nat → Int32)))) (hf : fX8_centre_116 v4 v6 = some rr) (hG : G2 rr) (H : Heap) (locs : List Loc) (hP : va_P (dC, dI) vwCl [(h_o, .inr (7, [.ref h_o_plans, .ref h_o_makers, .ref h_o_halves, .int o_raised, .ref h_o_all, .ref h_o_text, .ref h_o_saved, .ref h_o_undone, .int o_undos, .int o_reached, .int o_length, .int o_begin, .int o_letters, .int o_sort, .long o_word, .int o_wrongAt, .int o_badAt, .int o_bad, .ref h_o_told, .ref h_o_shift, .int o_firstX, .int o_firstY, .int o_secondX, .int o_secondY, .ref h_o_rootOf, .ref h_o_becomes, .ref h_o_comes, .ref h_o_next, .int o_x])), (h_o_all, .inl (ca 0, 350, .inl o_all_r)), (h_o_plans, .inl (ca 0, 80, .inl o_plans_r)), (h_o_shift, .inl (ca 3, 768, .inl o_shift_r))] H) (hD : va_D A [(h_o, .inr (7, [.ref h_o_plans, .ref h_o_makers, .ref h_o_halves, .int o_raised, .ref h_o_all, .ref h_o_text, .ref h_o_saved, .ref h_o_undone, .int o_undos, .int o_reached, .int o_length, .int o_begin, .int o_letters, .int o_sort, .long o_word, .int o_wrongAt, .int o_badAt, .int o_bad, .ref h_o_told, .ref h_o_shift, .int o_firstX, .int o_firstY, .int o_secondX, .int o_secondY, .ref h_o_rootOf, .ref h_o_becomes, .ref h_o_comes, .ref h_o_next, .int o_x])), (h_o_all, .inl (ca 0, 350, .inl o_all_r)), (h_o_plans, .inl (ca 0, 80, .inl o_plans_r)), (h_o_shift, .inl (ca 3, 768, .inl o_shift_r))]) (hS : va_S A s.heap H locs) (ls : Array Slot) (hl : lv_has ls 7 [(0, .ref h_o), (1, .int p1), (2, .int p2), (3, .int p3), (4, .int v4), (5, .int v5), (6, .int v6)]), WW H locs (F0 m 116 ls []) := by
            intro v4 v6 rr hf hG H locs hP hD hS ls hl
            refine h2 ?_
            unfold fX8_centre_116 at hf
            refine lv_iinc (v := (v6 + 1)) (lv' := [(6, .int (v6 + 1)), (0, .ref h_o), (1, .int p1), (2, .int p2), (3, .int p3), (4, .int v4), (5, .int v5)]) hx hb dX8_centre_116 hl (k := 6) rfl rfl (by decide) rfl (fun ls hl => ?_)
            refine lv_goto (tgt := 69) hx hb dX8_centre_119 (by decide) ?_
            have hf := Option.some.inj hf
            subst hf
            rw [eG2] at hG
            obtain ⟨rr, hf, hG⟩ := hG
            exact h1 (ih69 v4 (v6 + 1) rr hf hG _ _ hP hD hS _ (lv_sub hl [1, 2, 3, 4, 5, 6, 0] rfl))
          unfold fX8_centre_69_b at hf
          refine lv_iload hx hb dX8_centre_69 (lv_at hl 6 rfl) ?_
          refine lv_bipush (v := 6) hx hb dX8_centre_71 (by decide) ?_
          refine lv_aload_n hx hb dX8_centre_73 rfl (lv_at hl 0 rfl) ?_
          refine va_get (D := (dC, dI)) (ci := 7) (v := .ref h_o_all) (C := RX8) (T := TX8) (N := 29) hx hb hts (fun w h => List.mem_cons_of_mem _ (kc_X8 w h)) hown hK hP 0 rfl rfl 4 (by decide) (hg kw_594) (fun _ h9 => h9) rfl dX8_centre_74 ?_
          refine lv_iconst (v := 0) hx hb dX8_centre_77 (by decide) ?_
          refine va_iald hx hb hK hP 1 0 rfl rfl (ds_in_ok (i := 0) (n := 350) (by decide)) dX8_centre_78 ?_
          refine lv_imul hx hb dX8_centre_79 ?_
          refine lv_icmp_ge (tgt := 122) hx hb dX8_centre_80 (by decide) (fun c_80 => ?_) (fun c_80 => ?_)
          · replace hf := ds_t c_80 hf
            obtain ⟨rr, hr_0, hf⟩ := ds_ob hf
            have hf := Option.some.inj hf
            subst hf
            rw [eG2] at hG
            replace hG : G1 rr := hG
            have hf := hr_0
            exact h1 (J_122 v4 v5 _ hf hG _ _ hP hD hS _ (lv_sub hl [0, 1, 2, 3, 4, 5] rfl))
          · replace hf := ds_f c_80 hf
            refine lv_aload_n hx hb dX8_centre_83 rfl (lv_at hl 0 rfl) ?_
            refine lv_iload hx hb dX8_centre_84 (lv_at hl 6 rfl) ?_
            refine lv_iload hx hb dX8_centre_86 (lv_at hl 5 rfl) ?_
            obtain ⟨q88, hq88, hf⟩ := ds_ob hf
            refine ds_calli (wr := []) (va_runV (As := [.int v6, .int v5]) (rest := []) ⟨hx, hb, hml, hown, hts⟩ (c_X8_turnsAt l dC dI ca sa h_o h_o_plans h_o_makers h_o_halves h_o_all h_o_text h_o_saved h_o_undone h_o_told h_o_shift h_o_rootOf h_o_becomes h_o_comes h_o_next H.size o_raised o_undos o_reached o_length o_begin o_letters o_sort o_word o_wrongAt o_badAt o_bad o_firstX o_firstY o_secondX o_secondY o_x o_all_r o_plans_r o_shift_r v6 v5 q88 hq88) (cwV 2 hts (ds_gV kw_791 kw_792 kw_793 kw_597 kw_794) rfl rfl rfl (by decide +kernel) ⟨Nat.le_of_ble_eq_true rfl, Nat.le_of_ble_eq_true rfl⟩) ⟨ds_blind, va_recv hK hP (ci := 7) (q0 := 0) rfl rfl, ds_at hP hD hK hE hS hA [0, 1, 2, 3] rfl rfl _⟩ rfl rfl hl.1 rfl (lv_room (Nat.le_of_ble_eq_true rfl)) dX8_centre_88 ⟨Nat.zero_le _, Nat.zero_le _⟩) hP hD hS hA [0, 1, 2, 3] [] rfl rfl rfl (by decide) (fun H locs hP hD hS => ?_)
            have hP : va_P (dC, dI) vwCl [(h_o, .inr (7, [.ref h_o_plans, .ref h_o_makers, .ref h_o_halves, .int o_raised, .ref h_o_all, .ref h_o_text, .ref h_o_saved, .ref h_o_undone, .int o_undos, .int o_reached, .int o_length, .int o_begin, .int o_letters, .int o_sort, .long o_word, .int o_wrongAt, .int o_badAt, .int o_bad, .ref h_o_told, .ref h_o_shift, .int o_firstX, .int o_firstY, .int o_secondX, .int o_secondY, .ref h_o_rootOf, .ref h_o_becomes, .ref h_o_comes, .ref h_o_next, .int o_x])), (h_o_all, .inl (ca 0, 350, .inl o_all_r)), (h_o_plans, .inl (ca 0, 80, .inl o_plans_r)), (h_o_shift, .inl (ca 3, 768, .inl o_shift_r))] H := hP
            have hD : va_D A [(h_o, .inr (7, [.ref h_o_plans, .ref h_o_makers, .ref h_o_halves, .int o_raised, .ref h_o_all, .ref h_o_text, .ref h_o_saved, .ref h_o_undone, .int o_undos, .int o_reached, .int o_length, .int o_begin, .int o_letters, .int o_sort, .long o_word, .int o_wrongAt, .int o_badAt, .int o_bad, .ref h_o_told, .ref h_o_shift, .int o_firstX, .int o_firstY, .int o_secondX, .int o_secondY, .ref h_o_rootOf, .ref h_o_becomes, .ref h_o_comes, .ref h_o_next, .int o_x])), (h_o_all, .inl (ca 0, 350, .inl o_all_r)), (h_o_plans, .inl (ca 0, 80, .inl o_plans_r)), (h_o_shift, .inl (ca 3, 768, .inl o_shift_r))] := hD
            refine lv_iload_n hx hb dX8_centre_91 rfl (lv_at hl 1 rfl) ?_
            refine lv_icmp_ne (tgt := 116) hx hb dX8_centre_92 (by decide) (fun c_92 => ?_) (fun c_92 => ?_)
            · replace hf := ds_f c_92 hf
              exact h1 (J_116 v4 v6 _ hf hG _ _ hP hD hS _ (lv_sub hl [0, 1, 2, 3, 4, 5, 6] rfl))
            · replace hf := ds_t c_92 hf
              refine lv_iload hx hb dX8_centre_95 (lv_at hl 4 rfl) ?_
              refine lv_iload_n hx hb dX8_centre_97 rfl (lv_at hl 2 rfl) ?_
              refine lv_icmp_ne (tgt := 113) hx hb dX8_centre_98 (by decide) (fun c_98 => ?_) (fun c_98 => ?_)
              · replace hf := ds_f c_98 hf
                refine lv_iinc (v := (v4 + 1)) (lv' := [(4, .int (v4 + 1)), (0, .ref h_o), (1, .int p1), (2, .int p2), (3, .int p3), (5, .int v5), (6, .int v6)]) hx hb dX8_centre_113 hl (k := 4) rfl rfl (by decide) rfl (fun ls hl => ?_)
                exact h1 (J_116 (v4 + 1) v6 _ hf hG _ _ hP hD hS _ (lv_sub hl [1, 2, 3, 4, 0, 5, 6] rfl))
              · replace hf := ds_t c_98 hf
                obtain ⟨rr, hr_0, hf⟩ := ds_ob hf
                have hf := Option.some.inj hf
                subst hf
                rw [eG2] at hG
                replace hG : G1 rr := hG
                have hf := hr_0
                obtain ⟨rr, hr_1, hf⟩ := ds_ob hf
                have hf := Option.some.inj hf
                subst hf
                rw [eG1] at hG
                replace hG : G0 rr := hG
                have hf := hr_1
                exact h1 (J_101 v5 v6 o_raised o_shift_r _ hf hG _ _ hP hD hS _ (lv_sub hl [3, 5, 6] rfl))
      unfold fX8_centre_52_b at hf
      refine lv_iload hx hb dX8_centre_52 (lv_at hl 5 rfl) ?_
      refine lv_bipush (v := 6) hx hb dX8_centre_54 (by decide) ?_
      refine lv_aload_n hx hb dX8_centre_56 rfl (lv_at hl 0 rfl) ?_
      refine va_get (D := (dC, dI)) (ci := 7) (v := .ref h_o_all) (C := RX8) (T := TX8) (N := 29) hx hb hts (fun w h => List.mem_cons_of_mem _ (kc_X8 w h)) hown hK hP 0 rfl rfl 4 (by decide) (hg kw_594) (fun _ h9 => h9) rfl dX8_centre_57 ?_
      refine lv_iconst (v := 1) hx hb dX8_centre_60 (by decide) ?_
      refine va_iald hx hb hK hP 1 0 rfl rfl (ds_in_ok (i := 1) (n := 350) (by decide)) dX8_centre_61 ?_
      refine lv_imul hx hb dX8_centre_62 ?_
      refine lv_icmp_ge (tgt := 128) hx hb dX8_centre_63 (by decide) (fun c_63 => ?_) (fun c_63 => ?_)
      · replace hf := ds_t c_63 hf
        obtain ⟨rr, hr_0, hf⟩ := ds_ob hf
        have hf := Option.some.inj hf
        subst hf
        rw [eG1] at hG
        replace hG : G0 rr := hG
        have hf := hr_0
        exact h1 (J_128 v4 o_raised o_shift_r _ hf hG _ _ hP hD hS _ (lv_sub hl [2, 4] rfl))
      · replace hf := ds_f c_63 hf
        refine lv_iconst (v := 0) hx hb dX8_centre_66 (by decide) ?_
        refine lv_istore (lv' := [(6, .int (0 : Int32)), (0, .ref h_o), (1, .int p1), (2, .int p2), (3, .int p3), (4, .int v4), (5, .int v5)]) hx hb dX8_centre_67 hl (by decide) rfl (fun ls hl => ?_)
        exact h1 (J_69 v5 1000 v4 (0 : Int32) _ hf hG _ _ hP hD hS _ (lv_sub hl [1, 2, 3, 4, 5, 6, 0] rfl))
  have J_42 : ∀ (o_raised : Int32) (o_shift_r : Nat → Int32) (rr : Int32 × Int32 × (Nat → Int32)) (hf : fX8_centre_42 o_raised o_all_r o_plans_r o_shift_r p1 p2 p3 = some rr) (hG : G0 rr) (H : Heap) (locs : List Loc) (hP : va_P (dC, dI) vwCl [(h_o, .inr (7, [.ref h_o_plans, .ref h_o_makers, .ref h_o_halves, .int o_raised, .ref h_o_all, .ref h_o_text, .ref h_o_saved, .ref h_o_undone, .int o_undos, .int o_reached, .int o_length, .int o_begin, .int o_letters, .int o_sort, .long o_word, .int o_wrongAt, .int o_badAt, .int o_bad, .ref h_o_told, .ref h_o_shift, .int o_firstX, .int o_firstY, .int o_secondX, .int o_secondY, .ref h_o_rootOf, .ref h_o_becomes, .ref h_o_comes, .ref h_o_next, .int o_x])), (h_o_all, .inl (ca 0, 350, .inl o_all_r)), (h_o_plans, .inl (ca 0, 80, .inl o_plans_r)), (h_o_shift, .inl (ca 3, 768, .inl o_shift_r))] H) (hD : va_D A [(h_o, .inr (7, [.ref h_o_plans, .ref h_o_makers, .ref h_o_halves, .int o_raised, .ref h_o_all, .ref h_o_text, .ref h_o_saved, .ref h_o_undone, .int o_undos, .int o_reached, .int o_length, .int o_begin, .int o_letters, .int o_sort, .long o_word, .int o_wrongAt, .int o_badAt, .int o_bad, .ref h_o_told, .ref h_o_shift, .int o_firstX, .int o_firstY, .int o_secondX, .int o_secondY, .ref h_o_rootOf, .ref h_o_becomes, .ref h_o_comes, .ref h_o_next, .int o_x])), (h_o_all, .inl (ca 0, 350, .inl o_all_r)), (h_o_plans, .inl (ca 0, 80, .inl o_plans_r)), (h_o_shift, .inl (ca 3, 768, .inl o_shift_r))]) (hS : va_S A s.heap H locs) (ls : Array Slot) (hl : lv_has ls 7 [(0, .ref h_o), (1, .int p1), (2, .int p2), (3, .int p3)]), WW H locs (F0 m 42 ls []) := by
    intro o_raised o_shift_r rr hf hG H locs hP hD hS ls hl
    refine h2 ?_
    unfold fX8_centre_42 at hf
    refine lv_aload_n hx hb dX8_centre_42 rfl (lv_at hl 0 rfl) ?_
    obtain ⟨q43, hq43, hf⟩ := ds_ob hf
    refine ds_callv (wr := []) (va_runV (As := []) (rest := []) ⟨hx, hb, hml, hown, hts⟩ (c_X8_laysShifts l dC dI ca sa h_o h_o_plans h_o_makers h_o_halves h_o_all h_o_text h_o_saved h_o_undone h_o_told h_o_shift h_o_rootOf h_o_becomes h_o_comes h_o_next H.size o_raised o_undos o_reached o_length o_begin o_letters o_sort o_word o_wrongAt o_badAt o_bad o_firstX o_firstY o_secondX o_secondY o_x o_all_r o_plans_r o_shift_r  q43 hq43) (cwV 0 hts (ds_gV kw_764 kw_765 kw_766 kw_597 kw_767) rfl rfl rfl (by decide +kernel) ⟨Nat.le_of_ble_eq_true rfl, Nat.le_of_ble_eq_true rfl⟩) ⟨ds_blind, va_recv hK hP (ci := 7) (q0 := 0) rfl rfl, ds_at hP hD hK hE hS hA [0, 1, 2, 3] rfl rfl _⟩ rfl rfl hl.1 rfl (lv_room (Nat.le_of_ble_eq_true rfl)) dX8_centre_43 ⟨Nat.zero_le _, Nat.zero_le _⟩) hP hD hS hA [0, 1, 2, 3] [] rfl rfl rfl (by decide) (fun H locs hP hD hS => ?_)
    have hP : va_P (dC, dI) vwCl [(h_o, .inr (7, [.ref h_o_plans, .ref h_o_makers, .ref h_o_halves, .int o_raised, .ref h_o_all, .ref h_o_text, .ref h_o_saved, .ref h_o_undone, .int o_undos, .int o_reached, .int o_length, .int o_begin, .int o_letters, .int o_sort, .long o_word, .int o_wrongAt, .int o_badAt, .int o_bad, .ref h_o_told, .ref h_o_shift, .int o_firstX, .int o_firstY, .int o_secondX, .int o_secondY, .ref h_o_rootOf, .ref h_o_becomes, .ref h_o_comes, .ref h_o_next, .int o_x])), (h_o_all, .inl (ca 0, 350, .inl o_all_r)), (h_o_plans, .inl (ca 0, 80, .inl o_plans_r)), (h_o_shift, .inl (ca 3, 768, .inl q43))] H := hP
    have hD : va_D A [(h_o, .inr (7, [.ref h_o_plans, .ref h_o_makers, .ref h_o_halves, .int o_raised, .ref h_o_all, .ref h_o_text, .ref h_o_saved, .ref h_o_undone, .int o_undos, .int o_reached, .int o_length, .int o_begin, .int o_letters, .int o_sort, .long o_word, .int o_wrongAt, .int o_badAt, .int o_bad, .ref h_o_told, .ref h_o_shift, .int o_firstX, .int o_firstY, .int o_secondX, .int o_secondY, .ref h_o_rootOf, .ref h_o_becomes, .ref h_o_comes, .ref h_o_next, .int o_x])), (h_o_all, .inl (ca 0, 350, .inl o_all_r)), (h_o_plans, .inl (ca 0, 80, .inl o_plans_r)), (h_o_shift, .inl (ca 3, 768, .inl q43))] := hD
    refine lv_iconst (v := 0) hx hb dX8_centre_46 (by decide) ?_
    refine lv_istore (lv' := [(4, .int (0 : Int32)), (0, .ref h_o), (1, .int p1), (2, .int p2), (3, .int p3)]) hx hb dX8_centre_47 hl (by decide) rfl (fun ls hl => ?_)
    refine lv_iconst (v := 0) hx hb dX8_centre_49 (by decide) ?_
    refine lv_istore (lv' := [(5, .int (0 : Int32)), (4, .int (0 : Int32)), (0, .ref h_o), (1, .int p1), (2, .int p2), (3, .int p3)]) hx hb dX8_centre_50 hl (by decide) rfl (fun ls hl => ?_)
    exact h1 (J_52 o_raised q43 1000 (0 : Int32) (0 : Int32) _ hf hG _ _ hP hD hS _ (lv_sub hl [2, 3, 4, 5, 1, 0] rfl))
  unfold fX8_centre at hf
  refine lv_aload_n hx hb dX8_centre_0 rfl (lv_at hl 0 rfl) ?_
  refine lv_iconst (v := 0) hx hb dX8_centre_1 (by decide) ?_
  refine va_put (D := (dC, dI)) (ci := 7) (v := .int (0 : Int32)) (ty := tyX8 3) (C := RX8) (T := TX8) (N := 29) hx hb hts (fun w h => List.mem_cons_of_mem _ (kc_X8 w h)) tyX8 tyX8_ok nmX8 hown hK hP hD hS 0 rfl rfl 3 (by decide) (hg kw_564) (fun _ h9 => h9) rfl (by decide +kernel) rfl rfl (Nat.le_of_ble_eq_true rfl) dX8_centre_2 (fun H locs hP hD hS => ?_)
  have hP : va_P (dC, dI) vwCl [(h_o, .inr (7, [.ref h_o_plans, .ref h_o_makers, .ref h_o_halves, .int (0 : Int32), .ref h_o_all, .ref h_o_text, .ref h_o_saved, .ref h_o_undone, .int o_undos, .int o_reached, .int o_length, .int o_begin, .int o_letters, .int o_sort, .long o_word, .int o_wrongAt, .int o_badAt, .int o_bad, .ref h_o_told, .ref h_o_shift, .int o_firstX, .int o_firstY, .int o_secondX, .int o_secondY, .ref h_o_rootOf, .ref h_o_becomes, .ref h_o_comes, .ref h_o_next, .int o_x])), (h_o_all, .inl (ca 0, 350, .inl o_all_r)), (h_o_plans, .inl (ca 0, 80, .inl o_plans_r)), (h_o_shift, .inl (ca 3, 768, .inl o_shift_r))] H := hP
  have hD : va_D A [(h_o, .inr (7, [.ref h_o_plans, .ref h_o_makers, .ref h_o_halves, .int (0 : Int32), .ref h_o_all, .ref h_o_text, .ref h_o_saved, .ref h_o_undone, .int o_undos, .int o_reached, .int o_length, .int o_begin, .int o_letters, .int o_sort, .long o_word, .int o_wrongAt, .int o_badAt, .int o_bad, .ref h_o_told, .ref h_o_shift, .int o_firstX, .int o_firstY, .int o_secondX, .int o_secondY, .ref h_o_rootOf, .ref h_o_becomes, .ref h_o_comes, .ref h_o_next, .int o_x])), (h_o_all, .inl (ca 0, 350, .inl o_all_r)), (h_o_plans, .inl (ca 0, 80, .inl o_plans_r)), (h_o_shift, .inl (ca 3, 768, .inl o_shift_r))] := hD
  refine lv_iload_n hx hb dX8_centre_5 rfl (lv_at hl 1 rfl) ?_
  refine lv_iconst (v := 1) hx hb dX8_centre_6 (by decide) ?_
  refine lv_bipush (v := 6) hx hb dX8_centre_7 (by decide) ?_
  obtain ⟨q9, hq9, hf⟩ := ds_ob hf
  refine ds_calli (wr := [(h_o, .inr (7, [.ref h_o_plans, .ref h_o_makers, .ref h_o_halves, .int (0 : Int32), .ref h_o_all, .ref h_o_text, .ref h_o_saved, .ref h_o_undone, .int o_undos, .int o_reached, .int o_length, .int o_begin, .int o_letters, .int o_sort, .long o_word, .int o_wrongAt, .int o_badAt, .int o_bad, .ref h_o_told, .ref h_o_shift, .int o_firstX, .int o_firstY, .int o_secondX, .int o_secondY, .ref h_o_rootOf, .ref h_o_becomes, .ref h_o_comes, .ref h_o_next, .int o_x])), (h_o_all, .inl (ca 0, 350, .inl o_all_r)), (h_o_plans, .inl (ca 0, 80, .inl o_plans_r)), (h_o_shift, .inl (ca 3, 768, .inl o_shift_r))]) (va_runS (As := [.int p1, .int (1 : Int32), .int (6 : Int32)]) (rest := []) ⟨hx, hb, hml, hown, hts⟩ (c_X8_in l dC dI ca sa  H.size  p1 (1 : Int32) (6 : Int32) q9 hq9) (va_cwS 3 hts (ds_gS kw_619 kw_620 kw_597 kw_621) rfl rfl rfl (by decide +kernel) ⟨Nat.le_of_ble_eq_true rfl, Nat.le_of_ble_eq_true rfl⟩) ⟨ds_blind, ds_at hP hD hK hE hS hA [] rfl rfl _⟩ rfl rfl hl.1 rfl (lv_room (Nat.le_of_ble_eq_true rfl)) dX8_centre_9 ⟨Nat.zero_le _, Nat.zero_le _⟩) hP hD hS hA [] [0, 1, 2, 3] rfl rfl rfl (by decide) (fun H locs hP hD hS => ?_)
  have hP : va_P (dC, dI) vwCl [(h_o, .inr (7, [.ref h_o_plans, .ref h_o_makers, .ref h_o_halves, .int (0 : Int32), .ref h_o_all, .ref h_o_text, .ref h_o_saved, .ref h_o_undone, .int o_undos, .int o_reached, .int o_length, .int o_begin, .int o_letters, .int o_sort, .long o_word, .int o_wrongAt, .int o_badAt, .int o_bad, .ref h_o_told, .ref h_o_shift, .int o_firstX, .int o_firstY, .int o_secondX, .int o_secondY, .ref h_o_rootOf, .ref h_o_becomes, .ref h_o_comes, .ref h_o_next, .int o_x])), (h_o_all, .inl (ca 0, 350, .inl o_all_r)), (h_o_plans, .inl (ca 0, 80, .inl o_plans_r)), (h_o_shift, .inl (ca 3, 768, .inl o_shift_r))] H := hP
  have hD : va_D A [(h_o, .inr (7, [.ref h_o_plans, .ref h_o_makers, .ref h_o_halves, .int (0 : Int32), .ref h_o_all, .ref h_o_text, .ref h_o_saved, .ref h_o_undone, .int o_undos, .int o_reached, .int o_length, .int o_begin, .int o_letters, .int o_sort, .long o_word, .int o_wrongAt, .int o_badAt, .int o_bad, .ref h_o_told, .ref h_o_shift, .int o_firstX, .int o_firstY, .int o_secondX, .int o_secondY, .ref h_o_rootOf, .ref h_o_becomes, .ref h_o_comes, .ref h_o_next, .int o_x])), (h_o_all, .inl (ca 0, 350, .inl o_all_r)), (h_o_plans, .inl (ca 0, 80, .inl o_plans_r)), (h_o_shift, .inl (ca 3, 768, .inl o_shift_r))] := hD
  refine lv_if_eq (tgt := 39) hx hb dX8_centre_12 (by decide) (fun c_12 => ?_) (fun c_12 => ?_)
  · replace hf := ds_t c_12 hf
    refine lv_bipush (v := -2) hx hb dX8_centre_39 (by decide) ?_
    have hf := Option.some.inj hf
    subst hf
    rw [eG0] at hG
    have hG : _ = res := hG
    subst hG
    exact W.iret (v := (-2 : Int32)) hx hb hr (fun t ht hW => ⟨⟨(-2 : Int32), (), rfl, rfl, by rw [ht]; exact hP, hD⟩, hS.F ht⟩) hS.2.2 dX8_centre_41
  · replace hf := ds_f c_12 hf
    refine lv_iload_n hx hb dX8_centre_15 rfl (lv_at hl 1 rfl) ?_
    refine lv_iconst (v := 5) hx hb dX8_centre_16 (by decide) ?_
    refine lv_icmp_eq (tgt := 39) hx hb dX8_centre_17 (by decide) (fun c_17 => ?_) (fun c_17 => ?_)
    · replace hf := ds_t c_17 hf
      refine lv_bipush (v := -2) hx hb dX8_centre_39 (by decide) ?_
      have hf := Option.some.inj hf
      subst hf
      rw [eG0] at hG
      have hG : _ = res := hG
      subst hG
      exact W.iret (v := (-2 : Int32)) hx hb hr (fun t ht hW => ⟨⟨(-2 : Int32), (), rfl, rfl, by rw [ht]; exact hP, hD⟩, hS.F ht⟩) hS.2.2 dX8_centre_41
    · replace hf := ds_f c_17 hf
      refine lv_iload_n hx hb dX8_centre_20 rfl (lv_at hl 3 rfl) ?_
      refine lv_iconst (v := 0) hx hb dX8_centre_21 (by decide) ?_
      refine lv_iconst (v := 1) hx hb dX8_centre_22 (by decide) ?_
      obtain ⟨q23, hq23, hf⟩ := ds_ob hf
      refine ds_calli (wr := [(h_o, .inr (7, [.ref h_o_plans, .ref h_o_makers, .ref h_o_halves, .int (0 : Int32), .ref h_o_all, .ref h_o_text, .ref h_o_saved, .ref h_o_undone, .int o_undos, .int o_reached, .int o_length, .int o_begin, .int o_letters, .int o_sort, .long o_word, .int o_wrongAt, .int o_badAt, .int o_bad, .ref h_o_told, .ref h_o_shift, .int o_firstX, .int o_firstY, .int o_secondX, .int o_secondY, .ref h_o_rootOf, .ref h_o_becomes, .ref h_o_comes, .ref h_o_next, .int o_x])), (h_o_all, .inl (ca 0, 350, .inl o_all_r)), (h_o_plans, .inl (ca 0, 80, .inl o_plans_r)), (h_o_shift, .inl (ca 3, 768, .inl o_shift_r))]) (va_runS (As := [.int p3, .int (0 : Int32), .int (1 : Int32)]) (rest := []) ⟨hx, hb, hml, hown, hts⟩ (c_X8_in l dC dI ca sa  H.size  p3 (0 : Int32) (1 : Int32) q23 hq23) (va_cwS 3 hts (ds_gS kw_619 kw_620 kw_597 kw_621) rfl rfl rfl (by decide +kernel) ⟨Nat.le_of_ble_eq_true rfl, Nat.le_of_ble_eq_true rfl⟩) ⟨ds_blind, ds_at hP hD hK hE hS hA [] rfl rfl _⟩ rfl rfl hl.1 rfl (lv_room (Nat.le_of_ble_eq_true rfl)) dX8_centre_23 ⟨Nat.zero_le _, Nat.zero_le _⟩) hP hD hS hA [] [0, 1, 2, 3] rfl rfl rfl (by decide) (fun H locs hP hD hS => ?_)
      have hP : va_P (dC, dI) vwCl [(h_o, .inr (7, [.ref h_o_plans, .ref h_o_makers, .ref h_o_halves, .int (0 : Int32), .ref h_o_all, .ref h_o_text, .ref h_o_saved, .ref h_o_undone, .int o_undos, .int o_reached, .int o_length, .int o_begin, .int o_letters, .int o_sort, .long o_word, .int o_wrongAt, .int o_badAt, .int o_bad, .ref h_o_told, .ref h_o_shift, .int o_firstX, .int o_firstY, .int o_secondX, .int o_secondY, .ref h_o_rootOf, .ref h_o_becomes, .ref h_o_comes, .ref h_o_next, .int o_x])), (h_o_all, .inl (ca 0, 350, .inl o_all_r)), (h_o_plans, .inl (ca 0, 80, .inl o_plans_r)), (h_o_shift, .inl (ca 3, 768, .inl o_shift_r))] H := hP
      have hD : va_D A [(h_o, .inr (7, [.ref h_o_plans, .ref h_o_makers, .ref h_o_halves, .int (0 : Int32), .ref h_o_all, .ref h_o_text, .ref h_o_saved, .ref h_o_undone, .int o_undos, .int o_reached, .int o_length, .int o_begin, .int o_letters, .int o_sort, .long o_word, .int o_wrongAt, .int o_badAt, .int o_bad, .ref h_o_told, .ref h_o_shift, .int o_firstX, .int o_firstY, .int o_secondX, .int o_secondY, .ref h_o_rootOf, .ref h_o_becomes, .ref h_o_comes, .ref h_o_next, .int o_x])), (h_o_all, .inl (ca 0, 350, .inl o_all_r)), (h_o_plans, .inl (ca 0, 80, .inl o_plans_r)), (h_o_shift, .inl (ca 3, 768, .inl o_shift_r))] := hD
      refine lv_if_eq (tgt := 39) hx hb dX8_centre_26 (by decide) (fun c_26 => ?_) (fun c_26 => ?_)
      · replace hf := ds_t c_26 hf
        refine lv_bipush (v := -2) hx hb dX8_centre_39 (by decide) ?_
        have hf := Option.some.inj hf
        subst hf
        rw [eG0] at hG
        have hG : _ = res := hG
        subst hG
        exact W.iret (v := (-2 : Int32)) hx hb hr (fun t ht hW => ⟨⟨(-2 : Int32), (), rfl, rfl, by rw [ht]; exact hP, hD⟩, hS.F ht⟩) hS.2.2 dX8_centre_41
      · replace hf := ds_f c_26 hf
        refine lv_iload_n hx hb dX8_centre_29 rfl (lv_at hl 2 rfl) ?_
        refine lv_iconst (v := -1) hx hb dX8_centre_30 (by decide) ?_
        refine lv_icmp_ne (tgt := 42) hx hb dX8_centre_31 (by decide) (fun c_31 => ?_) (fun c_31 => ?_)
        · replace hf := ds_f c_31 hf
          exact h1 (J_42 (0 : Int32) o_shift_r _ hf hG _ _ hP hD hS _ (lv_sub hl [0, 1, 2, 3] rfl))
        · replace hf := ds_t c_31 hf
          refine lv_iload_n hx hb dX8_centre_34 rfl (lv_at hl 3 rfl) ?_
          refine lv_iconst (v := 1) hx hb dX8_centre_35 (by decide) ?_
          refine lv_icmp_ne (tgt := 42) hx hb dX8_centre_36 (by decide) (fun c_36 => ?_) (fun c_36 => ?_)
          · replace hf := ds_f c_36 hf
            exact h1 (J_42 (0 : Int32) o_shift_r _ hf hG _ _ hP hD hS _ (lv_sub hl [0, 1, 2, 3] rfl))
          · replace hf := ds_t c_36 hf
            refine lv_bipush (v := -2) hx hb dX8_centre_39 (by decide) ?_
            have hf := Option.some.inj hf
            subst hf
            rw [eG0] at hG
            have hG : _ = res := hG
            subst hG
            exact W.iret (v := (-2 : Int32)) hx hb hr (fun t ht hW => ⟨⟨(-2 : Int32), (), rfl, rfl, by rw [ht]; exact hP, hD⟩, hS.F ht⟩) hS.2.2 dX8_centre_41
theorem dX8_kind_0 : decode cX8_kind 0 = .ok (.aload_n 0, 1) := by decide +kernel
theorem dX8_kind_1 : decode cX8_kind 1 = .ok (.iconst 0, 1) := by decide +kernel
theorem dX8_kind_2 : decode cX8_kind 2 = .ok (.putfield 51, 3) := by decide +kernel
theorem dX8_kind_5 : decode cX8_kind 5 = .ok (.aload_n 0, 1) := by decide +kernel
theorem dX8_kind_6 : decode cX8_kind 6 = .ok (.invokevirtual 227, 3) := by decide +kernel
theorem dX8_kind_9 : decode cX8_kind 9 = .ok (.aload_n 0, 1) := by decide +kernel
theorem dX8_kind_10 : decode cX8_kind 10 = .ok (.invokevirtual 221, 3) := by decide +kernel
theorem dX8_kind_13 : decode cX8_kind 13 = .ok (.aload_n 0, 1) := by decide +kernel
theorem dX8_kind_14 : decode cX8_kind 14 = .ok (.aload_n 0, 1) := by decide +kernel
theorem dX8_kind_15 : decode cX8_kind 15 = .ok (.aload_n 0, 1) := by decide +kernel
theorem dX8_kind_16 : decode cX8_kind 16 = .ok (.iload_n 1, 1) := by decide +kernel
theorem dX8_kind_17 : decode cX8_kind 17 = .ok (.iload_n 2, 1) := by decide +kernel
theorem dX8_kind_18 : decode cX8_kind 18 = .ok (.invokevirtual 59, 3) := by decide +kernel
theorem dX8_kind_21 : decode cX8_kind 21 = .ok (.invokevirtual 207, 3) := by decide +kernel
theorem dX8_kind_24 : decode cX8_kind 24 = .ok (.invokevirtual 224, 3) := by decide +kernel
theorem dX8_kind_27 : decode cX8_kind 27 = .ok (.ireturn, 1) := by decide +kernel
def fX8_kind (o_all_r : Nat → Int32) (o_plans_r : Nat → Int32) (o_shift_r : Nat → Int32) (o_rootOf_r : Nat → Int32) (p1 : Int32) (p2 : Int32) : Option (Int32 × Int32 × (Nat → Int32) × (Nat → Int32)) :=
  Option.bind (fX8_laysShifts o_all_r o_plans_r o_shift_r) fun q6 => Option.bind (fX8_laysKinds o_rootOf_r o_all_r q6 o_plans_r) fun q10 => Option.bind (fX8_at o_all_r p1 p2) fun q18 => Option.bind (fX8_root q10 q18) fun q21 => Option.bind (fX8_leaders o_all_r q10 q21) fun q24 => some (q24, (0 : Int32), q6, q10)
set_option maxHeartbeats 4000000 in
set_option maxRecDepth 100000 in
theorem c_X8_kind (l : Launch) (dC : Nat → ClassId) (dI : Nat → Nat → Nat) (ca : Nat → ClassId) (sa : Nat → Nat) (h_o : Nat) (h_o_plans : Nat) (h_o_makers : Nat) (h_o_halves : Nat) (h_o_all : Nat) (h_o_text : Nat) (h_o_saved : Nat) (h_o_undone : Nat) (h_o_told : Nat) (h_o_shift : Nat) (h_o_rootOf : Nat) (h_o_becomes : Nat) (h_o_comes : Nat) (h_o_next : Nat) (sz : Nat) (o_raised : Int32) (o_undos : Int32) (o_reached : Int32) (o_length : Int32) (o_begin : Int32) (o_letters : Int32) (o_sort : Int32) (o_word : Int64) (o_wrongAt : Int32) (o_badAt : Int32) (o_bad : Int32) (o_firstX : Int32) (o_firstY : Int32) (o_secondX : Int32) (o_secondY : Int32) (o_x : Int32) (o_all_r : Nat → Int32) (o_plans_r : Nat → Int32) (o_shift_r : Nat → Int32) (o_rootOf_r : Nat → Int32) (p1 : Int32) (p2 : Int32) (res : Int32 × Int32 × (Nat → Int32) × (Nat → Int32)) (hf : fX8_kind o_all_r o_plans_r o_shift_r o_rootOf_r p1 p2 = some res) : Met l yX8_kind (Cond.code yX8_kind cX8_kind 3 (some .int) :: ds_gw) { frames := 5, cells := 0, slots := 0, locals := 115 } (va_Pc [.ref h_o, .int p1, .int p2] (ds_Pre dC dI ca sa [(h_o, .inr (7, [.ref h_o_plans, .ref h_o_makers, .ref h_o_halves, .int o_raised, .ref h_o_all, .ref h_o_text, .ref h_o_saved, .ref h_o_undone, .int o_undos, .int o_reached, .int o_length, .int o_begin, .int o_letters, .int o_sort, .long o_word, .int o_wrongAt, .int o_badAt, .int o_bad, .ref h_o_told, .ref h_o_shift, .int o_firstX, .int o_firstY, .int o_secondX, .int o_secondY, .ref h_o_rootOf, .ref h_o_becomes, .ref h_o_comes, .ref h_o_next, .int o_x])), (h_o_all, .inl (ca 0, 350, .inl o_all_r)), (h_o_plans, .inl (ca 0, 80, .inl o_plans_r)), (h_o_shift, .inl (ca 3, 768, .inl o_shift_r)), (h_o_rootOf, .inl (ca 0, 64, .inl o_rootOf_r))] sz)) (va_Qi (fun r (_ : Unit) => r = res.1) (ds_B dC dI (va_A [(h_o, .inr (7, [.ref h_o_plans, .ref h_o_makers, .ref h_o_halves, .int o_raised, .ref h_o_all, .ref h_o_text, .ref h_o_saved, .ref h_o_undone, .int o_undos, .int o_reached, .int o_length, .int o_begin, .int o_letters, .int o_sort, .long o_word, .int o_wrongAt, .int o_badAt, .int o_bad, .ref h_o_told, .ref h_o_shift, .int o_firstX, .int o_firstY, .int o_secondX, .int o_secondY, .ref h_o_rootOf, .ref h_o_becomes, .ref h_o_comes, .ref h_o_next, .int o_x])), (h_o_all, .inl (ca 0, 350, .inl o_all_r)), (h_o_plans, .inl (ca 0, 80, .inl o_plans_r)), (h_o_shift, .inl (ca 3, 768, .inl o_shift_r)), (h_o_rootOf, .inl (ca 0, 64, .inl o_rootOf_r))] sz) [(h_o, .inr (7, [.ref h_o_plans, .ref h_o_makers, .ref h_o_halves, .int res.2.1, .ref h_o_all, .ref h_o_text, .ref h_o_saved, .ref h_o_undone, .int o_undos, .int o_reached, .int o_length, .int o_begin, .int o_letters, .int o_sort, .long o_word, .int o_wrongAt, .int o_badAt, .int o_bad, .ref h_o_told, .ref h_o_shift, .int o_firstX, .int o_firstY, .int o_secondX, .int o_secondY, .ref h_o_rootOf, .ref h_o_becomes, .ref h_o_comes, .ref h_o_next, .int o_x])), (h_o_all, .inl (ca 0, 350, .inl o_all_r)), (h_o_plans, .inl (ca 0, 80, .inl o_plans_r)), (h_o_shift, .inl (ca 3, 768, .inl res.2.2.1)), (h_o_rootOf, .inl (ca 0, 64, .inl res.2.2.2))]) (va_A [(h_o, .inr (7, [.ref h_o_plans, .ref h_o_makers, .ref h_o_halves, .int o_raised, .ref h_o_all, .ref h_o_text, .ref h_o_saved, .ref h_o_undone, .int o_undos, .int o_reached, .int o_length, .int o_begin, .int o_letters, .int o_sort, .long o_word, .int o_wrongAt, .int o_badAt, .int o_bad, .ref h_o_told, .ref h_o_shift, .int o_firstX, .int o_firstY, .int o_secondX, .int o_secondY, .ref h_o_rootOf, .ref h_o_becomes, .ref h_o_comes, .ref h_o_next, .int o_x])), (h_o_all, .inl (ca 0, 350, .inl o_all_r)), (h_o_plans, .inl (ca 0, 80, .inl o_plans_r)), (h_o_shift, .inl (ca 3, 768, .inl o_shift_r)), (h_o_rootOf, .inl (ca 0, 64, .inl o_rootOf_r))] sz)) 0 0 (va_A [(h_o, .inr (7, [.ref h_o_plans, .ref h_o_makers, .ref h_o_halves, .int o_raised, .ref h_o_all, .ref h_o_text, .ref h_o_saved, .ref h_o_undone, .int o_undos, .int o_reached, .int o_length, .int o_begin, .int o_letters, .int o_sort, .long o_word, .int o_wrongAt, .int o_badAt, .int o_bad, .ref h_o_told, .ref h_o_shift, .int o_firstX, .int o_firstY, .int o_secondX, .int o_secondY, .ref h_o_rootOf, .ref h_o_becomes, .ref h_o_comes, .ref h_o_next, .int o_x])), (h_o_all, .inl (ca 0, 350, .inl o_all_r)), (h_o_plans, .inl (ca 0, 80, .inl o_plans_r)), (h_o_shift, .inl (ca 3, 768, .inl o_shift_r)), (h_o_rootOf, .inl (ca 0, 64, .inl o_rootOf_r))] sz) := by
  refine Met.ofW (cc := cX8_kind) (maxL := 3) (ret := (some .int)) (by decide) rfl ?_
  intro p e s m args below meth c s₁ B hml hv
  obtain ⟨rfl, hsz, hP, hK, hD0, hE⟩ := hv
  have hx := B.exec
  have hb := B.bytes
  have hr := B.returns
  have hts := atoms_spec (ws := Cond.code yX8_kind cX8_kind 3 (some .int) :: ds_gw) B.pre
  have hg : ∀ {w : Cond}, w ∈ ds_gw → w.before _ s = true := fun h => hts _ (List.mem_cons_of_mem _ h)
  have hown : s.vm.findClass RX8 = some m.cls := findClass_of_methodNamed B.named
  have hlocks := B.notSynchronized
  subst hsz
  have hD := hD0.self (sz := s.heap.size)
  generalize hAe : va_A [(h_o, .inr (7, [.ref h_o_plans, .ref h_o_makers, .ref h_o_halves, .int o_raised, .ref h_o_all, .ref h_o_text, .ref h_o_saved, .ref h_o_undone, .int o_undos, .int o_reached, .int o_length, .int o_begin, .int o_letters, .int o_sort, .long o_word, .int o_wrongAt, .int o_badAt, .int o_bad, .ref h_o_told, .ref h_o_shift, .int o_firstX, .int o_firstY, .int o_secondX, .int o_secondY, .ref h_o_rootOf, .ref h_o_becomes, .ref h_o_comes, .ref h_o_next, .int o_x])), (h_o_all, .inl (ca 0, 350, .inl o_all_r)), (h_o_plans, .inl (ca 0, 80, .inl o_plans_r)), (h_o_shift, .inl (ca 3, 768, .inl o_shift_r)), (h_o_rootOf, .inl (ca 0, 64, .inl o_rootOf_r))] s.heap.size = A at hD hE ⊢
  have hA : ∀ q : Nat, s.heap.size ≤ q → A q := fun q h => by rw [← hAe]; exact Or.inr h
  have hS : va_S A s.heap s.heap [] := va_S.rf
  have hl := lv_entry ([.ref h_o, .int p1, .int p2]) (n := 3) (Nat.le_of_ble_eq_true rfl)
  rw [lg_entry_eq]
  generalize (lg_sl ([.ref h_o, .int p1, .int p2]) ++ List.replicate (3 - (lg_sl ([.ref h_o, .int p1, .int p2])).length) Slot.unset).toArray = ls at hl ⊢
  have hl : lv_has ls 3 [(0, .ref h_o), (1, .int p1), (2, .int p2)] := hl
  obtain ⟨G0, eG0⟩ : ∃ G : (Int32 × Int32 × (Nat → Int32) × (Nat → Int32)) → Prop, G = (fun r => r = res) := ⟨_, rfl⟩
  obtain ⟨rr, hrr⟩ : ∃ z, z = res := ⟨_, rfl⟩
  rw [← hrr] at hf
  have hG : G0 rr := by subst eG0; exact hrr
  unfold fX8_kind at hf
  refine lv_aload_n hx hb dX8_kind_0 rfl (lv_at hl 0 rfl) ?_
  refine lv_iconst (v := 0) hx hb dX8_kind_1 (by decide) ?_
  refine va_put (D := (dC, dI)) (ci := 7) (v := .int (0 : Int32)) (ty := tyX8 3) (C := RX8) (T := TX8) (N := 29) hx hb hts (fun w h => List.mem_cons_of_mem _ (kc_X8 w h)) tyX8 tyX8_ok nmX8 hown hK hP hD hS 0 rfl rfl 3 (by decide) (hg kw_564) (fun _ h9 => h9) rfl (by decide +kernel) rfl rfl (Nat.le_of_ble_eq_true rfl) dX8_kind_2 (fun H locs hP hD hS => ?_)
  have hP : va_P (dC, dI) vwCl [(h_o, .inr (7, [.ref h_o_plans, .ref h_o_makers, .ref h_o_halves, .int (0 : Int32), .ref h_o_all, .ref h_o_text, .ref h_o_saved, .ref h_o_undone, .int o_undos, .int o_reached, .int o_length, .int o_begin, .int o_letters, .int o_sort, .long o_word, .int o_wrongAt, .int o_badAt, .int o_bad, .ref h_o_told, .ref h_o_shift, .int o_firstX, .int o_firstY, .int o_secondX, .int o_secondY, .ref h_o_rootOf, .ref h_o_becomes, .ref h_o_comes, .ref h_o_next, .int o_x])), (h_o_all, .inl (ca 0, 350, .inl o_all_r)), (h_o_plans, .inl (ca 0, 80, .inl o_plans_r)), (h_o_shift, .inl (ca 3, 768, .inl o_shift_r)), (h_o_rootOf, .inl (ca 0, 64, .inl o_rootOf_r))] H := hP
  have hD : va_D A [(h_o, .inr (7, [.ref h_o_plans, .ref h_o_makers, .ref h_o_halves, .int (0 : Int32), .ref h_o_all, .ref h_o_text, .ref h_o_saved, .ref h_o_undone, .int o_undos, .int o_reached, .int o_length, .int o_begin, .int o_letters, .int o_sort, .long o_word, .int o_wrongAt, .int o_badAt, .int o_bad, .ref h_o_told, .ref h_o_shift, .int o_firstX, .int o_firstY, .int o_secondX, .int o_secondY, .ref h_o_rootOf, .ref h_o_becomes, .ref h_o_comes, .ref h_o_next, .int o_x])), (h_o_all, .inl (ca 0, 350, .inl o_all_r)), (h_o_plans, .inl (ca 0, 80, .inl o_plans_r)), (h_o_shift, .inl (ca 3, 768, .inl o_shift_r)), (h_o_rootOf, .inl (ca 0, 64, .inl o_rootOf_r))] := hD
  refine lv_aload_n hx hb dX8_kind_5 rfl (lv_at hl 0 rfl) ?_
  obtain ⟨q6, hq6, hf⟩ := ds_ob hf
  refine ds_callv (wr := [(h_o_rootOf, .inl (ca 0, 64, .inl o_rootOf_r))]) (va_runV (As := []) (rest := []) ⟨hx, hb, hml, hown, hts⟩ (c_X8_laysShifts l dC dI ca sa h_o h_o_plans h_o_makers h_o_halves h_o_all h_o_text h_o_saved h_o_undone h_o_told h_o_shift h_o_rootOf h_o_becomes h_o_comes h_o_next H.size (0 : Int32) o_undos o_reached o_length o_begin o_letters o_sort o_word o_wrongAt o_badAt o_bad o_firstX o_firstY o_secondX o_secondY o_x o_all_r o_plans_r o_shift_r  q6 hq6) (cwV 0 hts (ds_gV kw_764 kw_765 kw_766 kw_597 kw_767) rfl rfl rfl (by decide +kernel) ⟨Nat.le_of_ble_eq_true rfl, Nat.le_of_ble_eq_true rfl⟩) ⟨ds_blind, va_recv hK hP (ci := 7) (q0 := 0) rfl rfl, ds_at hP hD hK hE hS hA [0, 1, 2, 3] rfl rfl _⟩ rfl rfl hl.1 rfl (lv_room (Nat.le_of_ble_eq_true rfl)) dX8_kind_6 ⟨Nat.zero_le _, Nat.zero_le _⟩) hP hD hS hA [0, 1, 2, 3] [4] rfl rfl rfl (by decide) (fun H locs hP hD hS => ?_)
  have hP : va_P (dC, dI) vwCl [(h_o_rootOf, .inl (ca 0, 64, .inl o_rootOf_r)), (h_o, .inr (7, [.ref h_o_plans, .ref h_o_makers, .ref h_o_halves, .int (0 : Int32), .ref h_o_all, .ref h_o_text, .ref h_o_saved, .ref h_o_undone, .int o_undos, .int o_reached, .int o_length, .int o_begin, .int o_letters, .int o_sort, .long o_word, .int o_wrongAt, .int o_badAt, .int o_bad, .ref h_o_told, .ref h_o_shift, .int o_firstX, .int o_firstY, .int o_secondX, .int o_secondY, .ref h_o_rootOf, .ref h_o_becomes, .ref h_o_comes, .ref h_o_next, .int o_x])), (h_o_all, .inl (ca 0, 350, .inl o_all_r)), (h_o_plans, .inl (ca 0, 80, .inl o_plans_r)), (h_o_shift, .inl (ca 3, 768, .inl q6))] H := hP
  have hD : va_D A [(h_o_rootOf, .inl (ca 0, 64, .inl o_rootOf_r)), (h_o, .inr (7, [.ref h_o_plans, .ref h_o_makers, .ref h_o_halves, .int (0 : Int32), .ref h_o_all, .ref h_o_text, .ref h_o_saved, .ref h_o_undone, .int o_undos, .int o_reached, .int o_length, .int o_begin, .int o_letters, .int o_sort, .long o_word, .int o_wrongAt, .int o_badAt, .int o_bad, .ref h_o_told, .ref h_o_shift, .int o_firstX, .int o_firstY, .int o_secondX, .int o_secondY, .ref h_o_rootOf, .ref h_o_becomes, .ref h_o_comes, .ref h_o_next, .int o_x])), (h_o_all, .inl (ca 0, 350, .inl o_all_r)), (h_o_plans, .inl (ca 0, 80, .inl o_plans_r)), (h_o_shift, .inl (ca 3, 768, .inl q6))] := hD
  refine lv_aload_n hx hb dX8_kind_9 rfl (lv_at hl 0 rfl) ?_
  obtain ⟨q10, hq10, hf⟩ := ds_ob hf
  refine ds_callv (wr := []) (va_runV (As := []) (rest := []) ⟨hx, hb, hml, hown, hts⟩ (c_X8_laysKinds l dC dI ca sa h_o h_o_plans h_o_makers h_o_halves h_o_all h_o_text h_o_saved h_o_undone h_o_told h_o_shift h_o_rootOf h_o_becomes h_o_comes h_o_next H.size (0 : Int32) o_undos o_reached o_length o_begin o_letters o_sort o_word o_wrongAt o_badAt o_bad o_firstX o_firstY o_secondX o_secondY o_x o_rootOf_r o_all_r q6 o_plans_r  q10 hq10) (cwV 0 hts (ds_gV kw_756 kw_757 kw_758 kw_597 kw_759) rfl rfl rfl (by decide +kernel) ⟨Nat.le_of_ble_eq_true rfl, Nat.le_of_ble_eq_true rfl⟩) ⟨ds_blind, va_recv hK hP (ci := 7) (q0 := 1) rfl rfl, ds_at hP hD hK hE hS hA [1, 0, 2, 4, 3] rfl rfl _⟩ rfl rfl hl.1 rfl (lv_room (Nat.le_of_ble_eq_true rfl)) dX8_kind_10 ⟨Nat.zero_le _, Nat.zero_le _⟩) hP hD hS hA [1, 0, 2, 4, 3] [] rfl rfl rfl (by decide) (fun H locs hP hD hS => ?_)
  have hP : va_P (dC, dI) vwCl [(h_o, .inr (7, [.ref h_o_plans, .ref h_o_makers, .ref h_o_halves, .int (0 : Int32), .ref h_o_all, .ref h_o_text, .ref h_o_saved, .ref h_o_undone, .int o_undos, .int o_reached, .int o_length, .int o_begin, .int o_letters, .int o_sort, .long o_word, .int o_wrongAt, .int o_badAt, .int o_bad, .ref h_o_told, .ref h_o_shift, .int o_firstX, .int o_firstY, .int o_secondX, .int o_secondY, .ref h_o_rootOf, .ref h_o_becomes, .ref h_o_comes, .ref h_o_next, .int o_x])), (h_o_rootOf, .inl (ca 0, 64, .inl q10)), (h_o_all, .inl (ca 0, 350, .inl o_all_r)), (h_o_shift, .inl (ca 3, 768, .inl q6)), (h_o_plans, .inl (ca 0, 80, .inl o_plans_r))] H := hP
  have hD : va_D A [(h_o, .inr (7, [.ref h_o_plans, .ref h_o_makers, .ref h_o_halves, .int (0 : Int32), .ref h_o_all, .ref h_o_text, .ref h_o_saved, .ref h_o_undone, .int o_undos, .int o_reached, .int o_length, .int o_begin, .int o_letters, .int o_sort, .long o_word, .int o_wrongAt, .int o_badAt, .int o_bad, .ref h_o_told, .ref h_o_shift, .int o_firstX, .int o_firstY, .int o_secondX, .int o_secondY, .ref h_o_rootOf, .ref h_o_becomes, .ref h_o_comes, .ref h_o_next, .int o_x])), (h_o_rootOf, .inl (ca 0, 64, .inl q10)), (h_o_all, .inl (ca 0, 350, .inl o_all_r)), (h_o_shift, .inl (ca 3, 768, .inl q6)), (h_o_plans, .inl (ca 0, 80, .inl o_plans_r))] := hD
  refine lv_aload_n hx hb dX8_kind_13 rfl (lv_at hl 0 rfl) ?_
  refine lv_aload_n hx hb dX8_kind_14 rfl (lv_at hl 0 rfl) ?_
  refine lv_aload_n hx hb dX8_kind_15 rfl (lv_at hl 0 rfl) ?_
  refine lv_iload_n hx hb dX8_kind_16 rfl (lv_at hl 1 rfl) ?_
  refine lv_iload_n hx hb dX8_kind_17 rfl (lv_at hl 2 rfl) ?_
  obtain ⟨q18, hq18, hf⟩ := ds_ob hf
  refine ds_calli (wr := [(h_o_rootOf, .inl (ca 0, 64, .inl q10)), (h_o_shift, .inl (ca 3, 768, .inl q6)), (h_o_plans, .inl (ca 0, 80, .inl o_plans_r))]) (va_runV (As := [.int p1, .int p2]) (rest := [.ref h_o, .ref h_o]) ⟨hx, hb, hml, hown, hts⟩ (c_X8_at l dC dI ca sa h_o h_o_plans h_o_makers h_o_halves h_o_all h_o_text h_o_saved h_o_undone h_o_told h_o_shift h_o_rootOf h_o_becomes h_o_comes h_o_next H.size (0 : Int32) o_undos o_reached o_length o_begin o_letters o_sort o_word o_wrongAt o_badAt o_bad o_firstX o_firstY o_secondX o_secondY o_x o_all_r p1 p2 q18 hq18) (cwV 2 hts (ds_gV kw_599 kw_600 kw_601 kw_597 kw_602) rfl rfl rfl (by decide +kernel) ⟨Nat.le_of_ble_eq_true rfl, Nat.le_of_ble_eq_true rfl⟩) ⟨ds_blind, va_recv hK hP (ci := 7) (q0 := 0) rfl rfl, ds_at hP hD hK hE hS hA [0, 2] rfl rfl _⟩ rfl rfl hl.1 rfl (lv_room (Nat.le_of_ble_eq_true rfl)) dX8_kind_18 ⟨Nat.zero_le _, Nat.zero_le _⟩) hP hD hS hA [0, 2] [1, 3, 4] rfl rfl rfl (by decide) (fun H locs hP hD hS => ?_)
  have hP : va_P (dC, dI) vwCl [(h_o_rootOf, .inl (ca 0, 64, .inl q10)), (h_o_shift, .inl (ca 3, 768, .inl q6)), (h_o_plans, .inl (ca 0, 80, .inl o_plans_r)), (h_o, .inr (7, [.ref h_o_plans, .ref h_o_makers, .ref h_o_halves, .int (0 : Int32), .ref h_o_all, .ref h_o_text, .ref h_o_saved, .ref h_o_undone, .int o_undos, .int o_reached, .int o_length, .int o_begin, .int o_letters, .int o_sort, .long o_word, .int o_wrongAt, .int o_badAt, .int o_bad, .ref h_o_told, .ref h_o_shift, .int o_firstX, .int o_firstY, .int o_secondX, .int o_secondY, .ref h_o_rootOf, .ref h_o_becomes, .ref h_o_comes, .ref h_o_next, .int o_x])), (h_o_all, .inl (ca 0, 350, .inl o_all_r))] H := hP
  have hD : va_D A [(h_o_rootOf, .inl (ca 0, 64, .inl q10)), (h_o_shift, .inl (ca 3, 768, .inl q6)), (h_o_plans, .inl (ca 0, 80, .inl o_plans_r)), (h_o, .inr (7, [.ref h_o_plans, .ref h_o_makers, .ref h_o_halves, .int (0 : Int32), .ref h_o_all, .ref h_o_text, .ref h_o_saved, .ref h_o_undone, .int o_undos, .int o_reached, .int o_length, .int o_begin, .int o_letters, .int o_sort, .long o_word, .int o_wrongAt, .int o_badAt, .int o_bad, .ref h_o_told, .ref h_o_shift, .int o_firstX, .int o_firstY, .int o_secondX, .int o_secondY, .ref h_o_rootOf, .ref h_o_becomes, .ref h_o_comes, .ref h_o_next, .int o_x])), (h_o_all, .inl (ca 0, 350, .inl o_all_r))] := hD
  obtain ⟨q21, hq21, hf⟩ := ds_ob hf
  refine ds_calli (wr := [(h_o_shift, .inl (ca 3, 768, .inl q6)), (h_o_plans, .inl (ca 0, 80, .inl o_plans_r)), (h_o_all, .inl (ca 0, 350, .inl o_all_r))]) (va_runV (As := [.int q18]) (rest := [.ref h_o]) ⟨hx, hb, hml, hown, hts⟩ (c_X8_root l dC dI ca sa h_o h_o_plans h_o_makers h_o_halves h_o_all h_o_text h_o_saved h_o_undone h_o_told h_o_shift h_o_rootOf h_o_becomes h_o_comes h_o_next H.size (0 : Int32) o_undos o_reached o_length o_begin o_letters o_sort o_word o_wrongAt o_badAt o_bad o_firstX o_firstY o_secondX o_secondY o_x q10 q18 q21 hq21) (cwV 1 hts (ds_gV kw_740 kw_741 kw_742 kw_597 kw_743) rfl rfl rfl (by decide +kernel) ⟨Nat.le_of_ble_eq_true rfl, Nat.le_of_ble_eq_true rfl⟩) ⟨ds_blind, va_recv hK hP (ci := 7) (q0 := 3) rfl rfl, ds_at hP hD hK hE hS hA [3, 0] rfl rfl _⟩ rfl rfl hl.1 rfl (lv_room (Nat.le_of_ble_eq_true rfl)) dX8_kind_21 ⟨Nat.zero_le _, Nat.zero_le _⟩) hP hD hS hA [3, 0] [1, 2, 4] rfl rfl rfl (by decide) (fun H locs hP hD hS => ?_)
  have hP : va_P (dC, dI) vwCl [(h_o_shift, .inl (ca 3, 768, .inl q6)), (h_o_plans, .inl (ca 0, 80, .inl o_plans_r)), (h_o_all, .inl (ca 0, 350, .inl o_all_r)), (h_o, .inr (7, [.ref h_o_plans, .ref h_o_makers, .ref h_o_halves, .int (0 : Int32), .ref h_o_all, .ref h_o_text, .ref h_o_saved, .ref h_o_undone, .int o_undos, .int o_reached, .int o_length, .int o_begin, .int o_letters, .int o_sort, .long o_word, .int o_wrongAt, .int o_badAt, .int o_bad, .ref h_o_told, .ref h_o_shift, .int o_firstX, .int o_firstY, .int o_secondX, .int o_secondY, .ref h_o_rootOf, .ref h_o_becomes, .ref h_o_comes, .ref h_o_next, .int o_x])), (h_o_rootOf, .inl (ca 0, 64, .inl q10))] H := hP
  have hD : va_D A [(h_o_shift, .inl (ca 3, 768, .inl q6)), (h_o_plans, .inl (ca 0, 80, .inl o_plans_r)), (h_o_all, .inl (ca 0, 350, .inl o_all_r)), (h_o, .inr (7, [.ref h_o_plans, .ref h_o_makers, .ref h_o_halves, .int (0 : Int32), .ref h_o_all, .ref h_o_text, .ref h_o_saved, .ref h_o_undone, .int o_undos, .int o_reached, .int o_length, .int o_begin, .int o_letters, .int o_sort, .long o_word, .int o_wrongAt, .int o_badAt, .int o_bad, .ref h_o_told, .ref h_o_shift, .int o_firstX, .int o_firstY, .int o_secondX, .int o_secondY, .ref h_o_rootOf, .ref h_o_becomes, .ref h_o_comes, .ref h_o_next, .int o_x])), (h_o_rootOf, .inl (ca 0, 64, .inl q10))] := hD
  obtain ⟨q24, hq24, hf⟩ := ds_ob hf
  refine ds_calli (wr := [(h_o_shift, .inl (ca 3, 768, .inl q6)), (h_o_plans, .inl (ca 0, 80, .inl o_plans_r))]) (va_runV (As := [.int q21]) (rest := []) ⟨hx, hb, hml, hown, hts⟩ (c_X8_leaders l dC dI ca sa h_o h_o_plans h_o_makers h_o_halves h_o_all h_o_text h_o_saved h_o_undone h_o_told h_o_shift h_o_rootOf h_o_becomes h_o_comes h_o_next H.size (0 : Int32) o_undos o_reached o_length o_begin o_letters o_sort o_word o_wrongAt o_badAt o_bad o_firstX o_firstY o_secondX o_secondY o_x o_all_r q10 q21 q24 hq24) (cwV 1 hts (ds_gV kw_760 kw_761 kw_762 kw_597 kw_763) rfl rfl rfl (by decide +kernel) ⟨Nat.le_of_ble_eq_true rfl, Nat.le_of_ble_eq_true rfl⟩) ⟨ds_blind, va_recv hK hP (ci := 7) (q0 := 3) rfl rfl, ds_at hP hD hK hE hS hA [3, 2, 4] rfl rfl _⟩ rfl rfl hl.1 rfl (lv_room (Nat.le_of_ble_eq_true rfl)) dX8_kind_24 ⟨Nat.zero_le _, Nat.zero_le _⟩) hP hD hS hA [3, 2, 4] [0, 1] rfl rfl rfl (by decide) (fun H locs hP hD hS => ?_)
  have hP : va_P (dC, dI) vwCl [(h_o_shift, .inl (ca 3, 768, .inl q6)), (h_o_plans, .inl (ca 0, 80, .inl o_plans_r)), (h_o, .inr (7, [.ref h_o_plans, .ref h_o_makers, .ref h_o_halves, .int (0 : Int32), .ref h_o_all, .ref h_o_text, .ref h_o_saved, .ref h_o_undone, .int o_undos, .int o_reached, .int o_length, .int o_begin, .int o_letters, .int o_sort, .long o_word, .int o_wrongAt, .int o_badAt, .int o_bad, .ref h_o_told, .ref h_o_shift, .int o_firstX, .int o_firstY, .int o_secondX, .int o_secondY, .ref h_o_rootOf, .ref h_o_becomes, .ref h_o_comes, .ref h_o_next, .int o_x])), (h_o_all, .inl (ca 0, 350, .inl o_all_r)), (h_o_rootOf, .inl (ca 0, 64, .inl q10))] H := hP
  have hD : va_D A [(h_o_shift, .inl (ca 3, 768, .inl q6)), (h_o_plans, .inl (ca 0, 80, .inl o_plans_r)), (h_o, .inr (7, [.ref h_o_plans, .ref h_o_makers, .ref h_o_halves, .int (0 : Int32), .ref h_o_all, .ref h_o_text, .ref h_o_saved, .ref h_o_undone, .int o_undos, .int o_reached, .int o_length, .int o_begin, .int o_letters, .int o_sort, .long o_word, .int o_wrongAt, .int o_badAt, .int o_bad, .ref h_o_told, .ref h_o_shift, .int o_firstX, .int o_firstY, .int o_secondX, .int o_secondY, .ref h_o_rootOf, .ref h_o_becomes, .ref h_o_comes, .ref h_o_next, .int o_x])), (h_o_all, .inl (ca 0, 350, .inl o_all_r)), (h_o_rootOf, .inl (ca 0, 64, .inl q10))] := hD
  have hf := Option.some.inj hf
  subst hf
  rw [eG0] at hG
  have hG : _ = res := hG
  subst hG
  exact W.iret (v := q24) hx hb hr (fun t ht hW => ⟨⟨q24, (), rfl, rfl, by rw [ht]; exact (hP.sub [2, 3, 1, 0, 4] rfl), (hD.sub [2, 3, 1, 0, 4] rfl rfl)⟩, hS.F ht⟩) hS.2.2 dX8_kind_27
theorem dX8_isStrip_0 : decode cX8_isStrip 0 = .ok (.iconst 0, 1) := by decide +kernel
theorem dX8_isStrip_1 : decode cX8_isStrip 1 = .ok (.istore_n 3, 1) := by decide +kernel
theorem dX8_isStrip_2 : decode cX8_isStrip 2 = .ok (.iload_n 3, 1) := by decide +kernel
theorem dX8_isStrip_3 : decode cX8_isStrip 3 = .ok (.aload_n 0, 1) := by decide +kernel
theorem dX8_isStrip_4 : decode cX8_isStrip 4 = .ok (.getfield 19, 3) := by decide +kernel
theorem dX8_isStrip_7 : decode cX8_isStrip 7 = .ok (.iconst 1, 1) := by decide +kernel
theorem dX8_isStrip_8 : decode cX8_isStrip 8 = .ok (.iaload, 1) := by decide +kernel
theorem dX8_isStrip_9 : decode cX8_isStrip 9 = .ok (.if_icmp .ge 89, 3) := by decide +kernel
theorem dX8_isStrip_12 : decode cX8_isStrip 12 = .ok (.iconst 0, 1) := by decide +kernel
theorem dX8_isStrip_13 : decode cX8_isStrip 13 = .ok (.istore 4, 2) := by decide +kernel
theorem dX8_isStrip_15 : decode cX8_isStrip 15 = .ok (.iload 4, 2) := by decide +kernel
theorem dX8_isStrip_17 : decode cX8_isStrip 17 = .ok (.aload_n 0, 1) := by decide +kernel
theorem dX8_isStrip_18 : decode cX8_isStrip 18 = .ok (.getfield 19, 3) := by decide +kernel
theorem dX8_isStrip_21 : decode cX8_isStrip 21 = .ok (.iconst 0, 1) := by decide +kernel
theorem dX8_isStrip_22 : decode cX8_isStrip 22 = .ok (.iaload, 1) := by decide +kernel
theorem dX8_isStrip_23 : decode cX8_isStrip 23 = .ok (.if_icmp .ge 69, 3) := by decide +kernel
theorem dX8_isStrip_26 : decode cX8_isStrip 26 = .ok (.iload_n 1, 1) := by decide +kernel
theorem dX8_isStrip_27 : decode cX8_isStrip 27 = .ok (.iconst 2, 1) := by decide +kernel
theorem dX8_isStrip_28 : decode cX8_isStrip 28 = .ok (.irem, 1) := by decide +kernel
theorem dX8_isStrip_29 : decode cX8_isStrip 29 = .ok (.iconst 1, 1) := by decide +kernel
theorem dX8_isStrip_30 : decode cX8_isStrip 30 = .ok (.if_icmp .ne 9, 3) := by decide +kernel
theorem dX8_isStrip_33 : decode cX8_isStrip 33 = .ok (.iload 4, 2) := by decide +kernel
theorem dX8_isStrip_35 : decode cX8_isStrip 35 = .ok (.ineg, 1) := by decide +kernel
theorem dX8_isStrip_36 : decode cX8_isStrip 36 = .ok (.goto 5, 3) := by decide +kernel
theorem dX8_isStrip_39 : decode cX8_isStrip 39 = .ok (.iload 4, 2) := by decide +kernel
theorem dX8_isStrip_41 : decode cX8_isStrip 41 = .ok (.iload_n 2, 1) := by decide +kernel
theorem dX8_isStrip_42 : decode cX8_isStrip 42 = .ok (.iadd, 1) := by decide +kernel
theorem dX8_isStrip_43 : decode cX8_isStrip 43 = .ok (.istore 5, 2) := by decide +kernel
theorem dX8_isStrip_45 : decode cX8_isStrip 45 = .ok (.iload_n 1, 1) := by decide +kernel
theorem dX8_isStrip_46 : decode cX8_isStrip 46 = .ok (.iconst 1, 1) := by decide +kernel
theorem dX8_isStrip_47 : decode cX8_isStrip 47 = .ok (.if_icmp .le 16, 3) := by decide +kernel
theorem dX8_isStrip_50 : decode cX8_isStrip 50 = .ok (.aload_n 0, 1) := by decide +kernel
theorem dX8_isStrip_51 : decode cX8_isStrip 51 = .ok (.getfield 19, 3) := by decide +kernel
theorem dX8_isStrip_54 : decode cX8_isStrip 54 = .ok (.iconst 1, 1) := by decide +kernel
theorem dX8_isStrip_55 : decode cX8_isStrip 55 = .ok (.iaload, 1) := by decide +kernel
theorem dX8_isStrip_56 : decode cX8_isStrip 56 = .ok (.iconst 1, 1) := by decide +kernel
theorem dX8_isStrip_57 : decode cX8_isStrip 57 = .ok (.isub, 1) := by decide +kernel
theorem dX8_isStrip_58 : decode cX8_isStrip 58 = .ok (.iload_n 3, 1) := by decide +kernel
theorem dX8_isStrip_59 : decode cX8_isStrip 59 = .ok (.isub, 1) := by decide +kernel
theorem dX8_isStrip_60 : decode cX8_isStrip 60 = .ok (.goto 4, 3) := by decide +kernel
theorem dX8_isStrip_63 : decode cX8_isStrip 63 = .ok (.iload_n 3, 1) := by decide +kernel
theorem dX8_isStrip_64 : decode cX8_isStrip 64 = .ok (.istore 6, 2) := by decide +kernel
theorem dX8_isStrip_66 : decode cX8_isStrip 66 = .ok (.aload_n 0, 1) := by decide +kernel
theorem dX8_isStrip_67 : decode cX8_isStrip 67 = .ok (.iload 4, 2) := by decide +kernel
theorem dX8_isStrip_69 : decode cX8_isStrip 69 = .ok (.iload_n 3, 1) := by decide +kernel
theorem dX8_isStrip_70 : decode cX8_isStrip 70 = .ok (.invokevirtual 127, 3) := by decide +kernel
theorem dX8_isStrip_73 : decode cX8_isStrip 73 = .ok (.aload_n 0, 1) := by decide +kernel
theorem dX8_isStrip_74 : decode cX8_isStrip 74 = .ok (.iload 5, 2) := by decide +kernel
theorem dX8_isStrip_76 : decode cX8_isStrip 76 = .ok (.iload 6, 2) := by decide +kernel
theorem dX8_isStrip_78 : decode cX8_isStrip 78 = .ok (.invokevirtual 127, 3) := by decide +kernel
theorem dX8_isStrip_81 : decode cX8_isStrip 81 = .ok (.if_icmp .eq 5, 3) := by decide +kernel
theorem dX8_isStrip_84 : decode cX8_isStrip 84 = .ok (.iconst 0, 1) := by decide +kernel
theorem dX8_isStrip_85 : decode cX8_isStrip 85 = .ok (.ireturn, 1) := by decide +kernel
theorem dX8_isStrip_86 : decode cX8_isStrip 86 = .ok (.iinc 4 1, 3) := by decide +kernel
theorem dX8_isStrip_89 : decode cX8_isStrip 89 = .ok (.goto (-74), 3) := by decide +kernel
theorem dX8_isStrip_92 : decode cX8_isStrip 92 = .ok (.iinc 3 1, 3) := by decide +kernel
theorem dX8_isStrip_95 : decode cX8_isStrip 95 = .ok (.goto (-93), 3) := by decide +kernel
theorem dX8_isStrip_98 : decode cX8_isStrip 98 = .ok (.iconst 1, 1) := by decide +kernel
theorem dX8_isStrip_99 : decode cX8_isStrip 99 = .ok (.ireturn, 1) := by decide +kernel
def fX8_isStrip_92 (v3 : Int32) : Option ((Int32) ⊕ (Int32)) :=
  some (.inl (v3 + 1))
def fX8_isStrip_64 (o_all_r : Nat → Int32) (v3 : Int32) (v4 : Int32) (v5 : Int32) (s0 : Int32) : Option ((Int32) ⊕ ((Int32) ⊕ (Int32))) :=
  Option.bind (fX8_colour o_all_r v4 v3) fun q70 => Option.bind (fX8_colour o_all_r v5 s0) fun q78 => if q70 = q78 then some (.inl (v4 + 1)) else some (.inr (.inr (0 : Int32)))
def fX8_isStrip_41 (o_all_r : Nat → Int32) (p1 : Int32) (p2 : Int32) (v3 : Int32) (v4 : Int32) (s0 : Int32) : Option ((Int32) ⊕ ((Int32) ⊕ (Int32))) :=
  if p1 ≤ (1 : Int32) then fX8_isStrip_64 o_all_r v3 v4 (s0 + p2) v3 else fX8_isStrip_64 o_all_r v3 v4 (s0 + p2) (((o_all_r (1 : Int32).toNatClampNeg) - (1 : Int32)) - v3)
def fX8_isStrip_15_b (o_all_r : Nat → Int32) (p1 : Int32) (p2 : Int32) (v3 : Int32) (v4 : Int32) : Option ((Int32) ⊕ ((Int32) ⊕ (Int32))) :=
  if (o_all_r (0 : Int32).toNatClampNeg) ≤ v4 then Option.bind (fX8_isStrip_92 v3) fun z => some (.inr z) else if (ds_rem p1 (2 : Int32)) = (1 : Int32) then fX8_isStrip_41 o_all_r p1 p2 v3 v4 (-v4) else fX8_isStrip_41 o_all_r p1 p2 v3 v4 v4
def fX8_isStrip_15 (o_all_r : Nat → Int32) (p1 : Int32) (p2 : Int32) (v3 : Int32) (v4 : Int32) : Option ((Int32) ⊕ (Int32)) := ds_it (fun s => fX8_isStrip_15_b o_all_r p1 p2 v3 s) 1000 v4
def fX8_isStrip_2_b (o_all_r : Nat → Int32) (p1 : Int32) (p2 : Int32) (v3 : Int32) : Option ((Int32) ⊕ (Int32)) :=
  if (o_all_r (1 : Int32).toNatClampNeg) ≤ v3 then some (.inr (1 : Int32)) else fX8_isStrip_15 o_all_r p1 p2 v3 (0 : Int32)
def fX8_isStrip_2 (o_all_r : Nat → Int32) (p1 : Int32) (p2 : Int32) (v3 : Int32) : Option (Int32) := ds_it (fun s => fX8_isStrip_2_b o_all_r p1 p2 s) 1000 v3
def fX8_isStrip (o_all_r : Nat → Int32) (p1 : Int32) (p2 : Int32) : Option (Int32) :=
  fX8_isStrip_2 o_all_r p1 p2 (0 : Int32)
set_option maxHeartbeats 4000000 in
set_option maxRecDepth 100000 in
theorem c_X8_isStrip (l : Launch) (dC : Nat → ClassId) (dI : Nat → Nat → Nat) (ca : Nat → ClassId) (sa : Nat → Nat) (h_o : Nat) (h_o_plans : Nat) (h_o_makers : Nat) (h_o_halves : Nat) (h_o_all : Nat) (h_o_text : Nat) (h_o_saved : Nat) (h_o_undone : Nat) (h_o_told : Nat) (h_o_shift : Nat) (h_o_rootOf : Nat) (h_o_becomes : Nat) (h_o_comes : Nat) (h_o_next : Nat) (sz : Nat) (o_raised : Int32) (o_undos : Int32) (o_reached : Int32) (o_length : Int32) (o_begin : Int32) (o_letters : Int32) (o_sort : Int32) (o_word : Int64) (o_wrongAt : Int32) (o_badAt : Int32) (o_bad : Int32) (o_firstX : Int32) (o_firstY : Int32) (o_secondX : Int32) (o_secondY : Int32) (o_x : Int32) (o_all_r : Nat → Int32) (p1 : Int32) (p2 : Int32) (res : Int32) (hf : fX8_isStrip o_all_r p1 p2 = some res) : Met l yX8_isStrip (Cond.code yX8_isStrip cX8_isStrip 7 (some .boolean) :: ds_gw) { frames := 3, cells := 0, slots := 0, locals := 66 } (va_Pc [.ref h_o, .int p1, .int p2] (ds_Pre dC dI ca sa [(h_o, .inr (7, [.ref h_o_plans, .ref h_o_makers, .ref h_o_halves, .int o_raised, .ref h_o_all, .ref h_o_text, .ref h_o_saved, .ref h_o_undone, .int o_undos, .int o_reached, .int o_length, .int o_begin, .int o_letters, .int o_sort, .long o_word, .int o_wrongAt, .int o_badAt, .int o_bad, .ref h_o_told, .ref h_o_shift, .int o_firstX, .int o_firstY, .int o_secondX, .int o_secondY, .ref h_o_rootOf, .ref h_o_becomes, .ref h_o_comes, .ref h_o_next, .int o_x])), (h_o_all, .inl (ca 0, 350, .inl o_all_r))] sz)) (va_Qi (fun r (_ : Unit) => r = res) (ds_B dC dI (va_A [(h_o, .inr (7, [.ref h_o_plans, .ref h_o_makers, .ref h_o_halves, .int o_raised, .ref h_o_all, .ref h_o_text, .ref h_o_saved, .ref h_o_undone, .int o_undos, .int o_reached, .int o_length, .int o_begin, .int o_letters, .int o_sort, .long o_word, .int o_wrongAt, .int o_badAt, .int o_bad, .ref h_o_told, .ref h_o_shift, .int o_firstX, .int o_firstY, .int o_secondX, .int o_secondY, .ref h_o_rootOf, .ref h_o_becomes, .ref h_o_comes, .ref h_o_next, .int o_x])), (h_o_all, .inl (ca 0, 350, .inl o_all_r))] sz) [(h_o, .inr (7, [.ref h_o_plans, .ref h_o_makers, .ref h_o_halves, .int o_raised, .ref h_o_all, .ref h_o_text, .ref h_o_saved, .ref h_o_undone, .int o_undos, .int o_reached, .int o_length, .int o_begin, .int o_letters, .int o_sort, .long o_word, .int o_wrongAt, .int o_badAt, .int o_bad, .ref h_o_told, .ref h_o_shift, .int o_firstX, .int o_firstY, .int o_secondX, .int o_secondY, .ref h_o_rootOf, .ref h_o_becomes, .ref h_o_comes, .ref h_o_next, .int o_x])), (h_o_all, .inl (ca 0, 350, .inl o_all_r))]) (va_A [(h_o, .inr (7, [.ref h_o_plans, .ref h_o_makers, .ref h_o_halves, .int o_raised, .ref h_o_all, .ref h_o_text, .ref h_o_saved, .ref h_o_undone, .int o_undos, .int o_reached, .int o_length, .int o_begin, .int o_letters, .int o_sort, .long o_word, .int o_wrongAt, .int o_badAt, .int o_bad, .ref h_o_told, .ref h_o_shift, .int o_firstX, .int o_firstY, .int o_secondX, .int o_secondY, .ref h_o_rootOf, .ref h_o_becomes, .ref h_o_comes, .ref h_o_next, .int o_x])), (h_o_all, .inl (ca 0, 350, .inl o_all_r))] sz)) 0 0 (va_A [(h_o, .inr (7, [.ref h_o_plans, .ref h_o_makers, .ref h_o_halves, .int o_raised, .ref h_o_all, .ref h_o_text, .ref h_o_saved, .ref h_o_undone, .int o_undos, .int o_reached, .int o_length, .int o_begin, .int o_letters, .int o_sort, .long o_word, .int o_wrongAt, .int o_badAt, .int o_bad, .ref h_o_told, .ref h_o_shift, .int o_firstX, .int o_firstY, .int o_secondX, .int o_secondY, .ref h_o_rootOf, .ref h_o_becomes, .ref h_o_comes, .ref h_o_next, .int o_x])), (h_o_all, .inl (ca 0, 350, .inl o_all_r))] sz) := by
  refine Met.ofW (cc := cX8_isStrip) (maxL := 7) (ret := (some .boolean)) (by decide) rfl ?_
  intro p e s m args below meth c s₁ B hml hv
  obtain ⟨rfl, hsz, hP, hK, hD0, hE⟩ := hv
  have hx := B.exec
  have hb := B.bytes
  have hr := B.returns
  have hts := atoms_spec (ws := Cond.code yX8_isStrip cX8_isStrip 7 (some .boolean) :: ds_gw) B.pre
  have hg : ∀ {w : Cond}, w ∈ ds_gw → w.before _ s = true := fun h => hts _ (List.mem_cons_of_mem _ h)
  have hown : s.vm.findClass RX8 = some m.cls := findClass_of_methodNamed B.named
  have hlocks := B.notSynchronized
  subst hsz
  have hD := hD0.self (sz := s.heap.size)
  generalize hAe : va_A [(h_o, .inr (7, [.ref h_o_plans, .ref h_o_makers, .ref h_o_halves, .int o_raised, .ref h_o_all, .ref h_o_text, .ref h_o_saved, .ref h_o_undone, .int o_undos, .int o_reached, .int o_length, .int o_begin, .int o_letters, .int o_sort, .long o_word, .int o_wrongAt, .int o_badAt, .int o_bad, .ref h_o_told, .ref h_o_shift, .int o_firstX, .int o_firstY, .int o_secondX, .int o_secondY, .ref h_o_rootOf, .ref h_o_becomes, .ref h_o_comes, .ref h_o_next, .int o_x])), (h_o_all, .inl (ca 0, 350, .inl o_all_r))] s.heap.size = A at hD hE ⊢
  have hA : ∀ q : Nat, s.heap.size ≤ q → A q := fun q h => by rw [← hAe]; exact Or.inr h
  have hS : va_S A s.heap s.heap [] := va_S.rf
  have hl := lv_entry ([.ref h_o, .int p1, .int p2]) (n := 7) (Nat.le_of_ble_eq_true rfl)
  rw [lg_entry_eq]
  generalize (lg_sl ([.ref h_o, .int p1, .int p2]) ++ List.replicate (7 - (lg_sl ([.ref h_o, .int p1, .int p2])).length) Slot.unset).toArray = ls at hl ⊢
  have hl : lv_has ls 7 [(0, .ref h_o), (1, .int p1), (2, .int p2)] := hl
  obtain ⟨G0, eG0⟩ : ∃ G : Int32 → Prop, G = (fun r => r = res) := ⟨_, rfl⟩
  obtain ⟨rr, hrr⟩ : ∃ z, z = res := ⟨_, rfl⟩
  rw [← hrr] at hf
  have hG : G0 rr := by subst eG0; exact hrr
  refine ds_cap (fun WW h1 h2 => ?_)
  have J_2 : ∀ (n : Nat) (v3 : Int32) (rr : Int32) (hf : ds_it (fun s => fX8_isStrip_2_b o_all_r p1 p2 s) n v3 = some rr) (hG : G0 rr) (H : Heap) (locs : List Loc) (hP : va_P (dC, dI) vwCl [(h_o, .inr (7, [.ref h_o_plans, .ref h_o_makers, .ref h_o_halves, .int o_raised, .ref h_o_all, .ref h_o_text, .ref h_o_saved, .ref h_o_undone, .int o_undos, .int o_reached, .int o_length, .int o_begin, .int o_letters, .int o_sort, .long o_word, .int o_wrongAt, .int o_badAt, .int o_bad, .ref h_o_told, .ref h_o_shift, .int o_firstX, .int o_firstY, .int o_secondX, .int o_secondY, .ref h_o_rootOf, .ref h_o_becomes, .ref h_o_comes, .ref h_o_next, .int o_x])), (h_o_all, .inl (ca 0, 350, .inl o_all_r))] H) (hD : va_D A [(h_o, .inr (7, [.ref h_o_plans, .ref h_o_makers, .ref h_o_halves, .int o_raised, .ref h_o_all, .ref h_o_text, .ref h_o_saved, .ref h_o_undone, .int o_undos, .int o_reached, .int o_length, .int o_begin, .int o_letters, .int o_sort, .long o_word, .int o_wrongAt, .int o_badAt, .int o_bad, .ref h_o_told, .ref h_o_shift, .int o_firstX, .int o_firstY, .int o_secondX, .int o_secondY, .ref h_o_rootOf, .ref h_o_becomes, .ref h_o_comes, .ref h_o_next, .int o_x])), (h_o_all, .inl (ca 0, 350, .inl o_all_r))]) (hS : va_S A s.heap H locs) (ls : Array Slot) (hl : lv_has ls 7 [(0, .ref h_o), (1, .int p1), (2, .int p2), (3, .int v3)]), WW H locs (F0 m 2 ls []) := by
    intro  n
    induction n with
    | zero => intro v3 rr hf; exact (ds_it_zero hf).elim
    | succ n ih2 =>
      intro v3 rr hf hG H locs hP hD hS ls hl
      refine h2 ?_
      obtain ⟨rr, hf, hG⟩ := ds_it_succ hf hG
      replace hf : fX8_isStrip_2_b o_all_r p1 p2 v3 = some rr := hf
      obtain ⟨G1, eG1⟩ : ∃ G : ((Int32) ⊕ (Int32)) → Prop, G = ds_G (fun s' => ∃ r', ds_it (fun s => fX8_isStrip_2_b o_all_r p1 p2 s) n s' = some r' ∧ G0 r') G0 := ⟨_, rfl⟩
      rw [← eG1] at hG
      have J_92 : ∀ (v3 : Int32) (rr : (Int32) ⊕ (Int32)) (hf : fX8_isStrip_92 v3 = some rr) (hG : G1 rr) (H : Heap) (locs : List Loc) (hP : va_P (dC, dI) vwCl [(h_o, .inr (7, [.ref h_o_plans, .ref h_o_makers, .ref h_o_halves, .int o_raised, .ref h_o_all, .ref h_o_text, .ref h_o_saved, .ref h_o_undone, .int o_undos, .int o_reached, .int o_length, .int o_begin, .int o_letters, .int o_sort, .long o_word, .int o_wrongAt, .int o_badAt, .int o_bad, .ref h_o_told, .ref h_o_shift, .int o_firstX, .int o_firstY, .int o_secondX, .int o_secondY, .ref h_o_rootOf, .ref h_o_becomes, .ref h_o_comes, .ref h_o_next, .int o_x])), (h_o_all, .inl (ca 0, 350, .inl o_all_r))] H) (hD : va_D A [(h_o, .inr (7, [.ref h_o_plans, .ref h_o_makers, .ref h_o_halves, .int o_raised, .ref h_o_all, .ref h_o_text, .ref h_o_saved, .ref h_o_undone, .int o_undos, .int o_reached, .int o_length, .int o_begin, .int o_letters, .int o_sort, .long o_word, .int o_wrongAt, .int o_badAt, .int o_bad, .ref h_o_told, .ref h_o_shift, .int o_firstX, .int o_firstY, .int o_secondX, .int o_secondY, .ref h_o_rootOf, .ref h_o_becomes, .ref h_o_comes, .ref h_o_next, .int o_x])), (h_o_all, .inl (ca 0, 350, .inl o_all_r))]) (hS : va_S A s.heap H locs) (ls : Array Slot) (hl : lv_has ls 7 [(0, .ref h_o), (1, .int p1), (2, .int p2), (3, .int v3)]), WW H locs (F0 m 92 ls []) := by
        intro v3 rr hf hG H locs hP hD hS ls hl
        refine h2 ?_
        unfold fX8_isStrip_92 at hf
        refine lv_iinc (v := (v3 + 1)) (lv' := [(3, .int (v3 + 1)), (0, .ref h_o), (1, .int p1), (2, .int p2)]) hx hb dX8_isStrip_92 hl (k := 3) rfl rfl (by decide) rfl (fun ls hl => ?_)
        refine lv_goto (tgt := 2) hx hb dX8_isStrip_95 (by decide) ?_
        have hf := Option.some.inj hf
        subst hf
        rw [eG1] at hG
        obtain ⟨rr, hf, hG⟩ := hG
        exact h1 (ih2 (v3 + 1) rr hf hG _ _ hP hD hS _ (lv_sub hl [1, 2, 3, 0] rfl))
      have J_15 : ∀ (v3 : Int32) (n : Nat) (v4 : Int32) (rr : (Int32) ⊕ (Int32)) (hf : ds_it (fun s => fX8_isStrip_15_b o_all_r p1 p2 v3 s) n v4 = some rr) (hG : G1 rr) (H : Heap) (locs : List Loc) (hP : va_P (dC, dI) vwCl [(h_o, .inr (7, [.ref h_o_plans, .ref h_o_makers, .ref h_o_halves, .int o_raised, .ref h_o_all, .ref h_o_text, .ref h_o_saved, .ref h_o_undone, .int o_undos, .int o_reached, .int o_length, .int o_begin, .int o_letters, .int o_sort, .long o_word, .int o_wrongAt, .int o_badAt, .int o_bad, .ref h_o_told, .ref h_o_shift, .int o_firstX, .int o_firstY, .int o_secondX, .int o_secondY, .ref h_o_rootOf, .ref h_o_becomes, .ref h_o_comes, .ref h_o_next, .int o_x])), (h_o_all, .inl (ca 0, 350, .inl o_all_r))] H) (hD : va_D A [(h_o, .inr (7, [.ref h_o_plans, .ref h_o_makers, .ref h_o_halves, .int o_raised, .ref h_o_all, .ref h_o_text, .ref h_o_saved, .ref h_o_undone, .int o_undos, .int o_reached, .int o_length, .int o_begin, .int o_letters, .int o_sort, .long o_word, .int o_wrongAt, .int o_badAt, .int o_bad, .ref h_o_told, .ref h_o_shift, .int o_firstX, .int o_firstY, .int o_secondX, .int o_secondY, .ref h_o_rootOf, .ref h_o_becomes, .ref h_o_comes, .ref h_o_next, .int o_x])), (h_o_all, .inl (ca 0, 350, .inl o_all_r))]) (hS : va_S A s.heap H locs) (ls : Array Slot) (hl : lv_has ls 7 [(0, .ref h_o), (1, .int p1), (2, .int p2), (3, .int v3), (4, .int v4)]), WW H locs (F0 m 15 ls []) := by
        intro v3 n
        induction n with
        | zero => intro v4 rr hf; exact (ds_it_zero hf).elim
        | succ n ih15 =>
          intro v4 rr hf hG H locs hP hD hS ls hl
          refine h2 ?_
          obtain ⟨rr, hf, hG⟩ := ds_it_succ hf hG
          replace hf : fX8_isStrip_15_b o_all_r p1 p2 v3 v4 = some rr := hf
          obtain ⟨G2, eG2⟩ : ∃ G : ((Int32) ⊕ ((Int32) ⊕ (Int32))) → Prop, G = ds_G (fun s' => ∃ r', ds_it (fun s => fX8_isStrip_15_b o_all_r p1 p2 v3 s) n s' = some r' ∧ G1 r') G1 := ⟨_, rfl⟩
          rw [← eG2] at hG
          have J_64 : ∀ (v4 : Int32) (v5 : Int32) (s0 : Int32) (rr : (Int32) ⊕ ((Int32) ⊕ (Int32))) (hf : fX8_isStrip_64 o_all_r v3 v4 v5 s0 = some rr) (hG : G2 rr) (H : Heap) (locs : List Loc) (hP : va_P (dC, dI) vwCl [(h_o, .inr (7, [.ref h_o_plans, .ref h_o_makers, .ref h_o_halves, .int o_raised, .ref h_o_all, .ref h_o_text, .ref h_o_saved, .ref h_o_undone, .int o_undos, .int o_reached, .int o_length, .int o_begin, .int o_letters, .int o_sort, .long o_word, .int o_wrongAt, .int o_badAt, .int o_bad, .ref h_o_told, .ref h_o_shift, .int o_firstX, .int o_firstY, .int o_secondX, .int o_secondY, .ref h_o_rootOf, .ref h_o_becomes, .ref h_o_comes, .ref h_o_next, .int o_x])), (h_o_all, .inl (ca 0, 350, .inl o_all_r))] H) (hD : va_D A [(h_o, .inr (7, [.ref h_o_plans, .ref h_o_makers, .ref h_o_halves, .int o_raised, .ref h_o_all, .ref h_o_text, .ref h_o_saved, .ref h_o_undone, .int o_undos, .int o_reached, .int o_length, .int o_begin, .int o_letters, .int o_sort, .long o_word, .int o_wrongAt, .int o_badAt, .int o_bad, .ref h_o_told, .ref h_o_shift, .int o_firstX, .int o_firstY, .int o_secondX, .int o_secondY, .ref h_o_rootOf, .ref h_o_becomes, .ref h_o_comes, .ref h_o_next, .int o_x])), (h_o_all, .inl (ca 0, 350, .inl o_all_r))]) (hS : va_S A s.heap H locs) (ls : Array Slot) (hl : lv_has ls 7 [(0, .ref h_o), (1, .int p1), (2, .int p2), (3, .int v3), (4, .int v4), (5, .int v5)]), WW H locs (F0 m 64 ls [.int s0]) := by
            intro v4 v5 s0 rr hf hG H locs hP hD hS ls hl
            refine h2 ?_
            unfold fX8_isStrip_64 at hf
            refine lv_istore (lv' := [(6, .int s0), (0, .ref h_o), (1, .int p1), (2, .int p2), (3, .int v3), (4, .int v4), (5, .int v5)]) hx hb dX8_isStrip_64 hl (by decide) rfl (fun ls hl => ?_)
            refine lv_aload_n hx hb dX8_isStrip_66 rfl (lv_at hl 1 rfl) ?_
            refine lv_iload hx hb dX8_isStrip_67 (lv_at hl 5 rfl) ?_
            refine lv_iload_n hx hb dX8_isStrip_69 rfl (lv_at hl 4 rfl) ?_
            obtain ⟨q70, hq70, hf⟩ := ds_ob hf
            refine ds_calli (wr := []) (va_runV (As := [.int v4, .int v3]) (rest := []) ⟨hx, hb, hml, hown, hts⟩ (c_X8_colour l dC dI ca sa h_o h_o_plans h_o_makers h_o_halves h_o_all h_o_text h_o_saved h_o_undone h_o_told h_o_shift h_o_rootOf h_o_becomes h_o_comes h_o_next H.size o_raised o_undos o_reached o_length o_begin o_letters o_sort o_word o_wrongAt o_badAt o_bad o_firstX o_firstY o_secondX o_secondY o_x o_all_r v4 v3 q70 hq70) (cwV 2 hts (ds_gV kw_651 kw_652 kw_653 kw_597 kw_654) rfl rfl rfl (by decide +kernel) ⟨Nat.le_of_ble_eq_true rfl, Nat.le_of_ble_eq_true rfl⟩) ⟨ds_blind, va_recv hK hP (ci := 7) (q0 := 0) rfl rfl, ds_at hP hD hK hE hS hA [0, 1] rfl rfl _⟩ rfl rfl hl.1 rfl (lv_room (Nat.le_of_ble_eq_true rfl)) dX8_isStrip_70 ⟨Nat.zero_le _, Nat.zero_le _⟩) hP hD hS hA [0, 1] [] rfl rfl rfl (by decide) (fun H locs hP hD hS => ?_)
            have hP : va_P (dC, dI) vwCl [(h_o, .inr (7, [.ref h_o_plans, .ref h_o_makers, .ref h_o_halves, .int o_raised, .ref h_o_all, .ref h_o_text, .ref h_o_saved, .ref h_o_undone, .int o_undos, .int o_reached, .int o_length, .int o_begin, .int o_letters, .int o_sort, .long o_word, .int o_wrongAt, .int o_badAt, .int o_bad, .ref h_o_told, .ref h_o_shift, .int o_firstX, .int o_firstY, .int o_secondX, .int o_secondY, .ref h_o_rootOf, .ref h_o_becomes, .ref h_o_comes, .ref h_o_next, .int o_x])), (h_o_all, .inl (ca 0, 350, .inl o_all_r))] H := hP
            have hD : va_D A [(h_o, .inr (7, [.ref h_o_plans, .ref h_o_makers, .ref h_o_halves, .int o_raised, .ref h_o_all, .ref h_o_text, .ref h_o_saved, .ref h_o_undone, .int o_undos, .int o_reached, .int o_length, .int o_begin, .int o_letters, .int o_sort, .long o_word, .int o_wrongAt, .int o_badAt, .int o_bad, .ref h_o_told, .ref h_o_shift, .int o_firstX, .int o_firstY, .int o_secondX, .int o_secondY, .ref h_o_rootOf, .ref h_o_becomes, .ref h_o_comes, .ref h_o_next, .int o_x])), (h_o_all, .inl (ca 0, 350, .inl o_all_r))] := hD
            refine lv_aload_n hx hb dX8_isStrip_73 rfl (lv_at hl 1 rfl) ?_
            refine lv_iload hx hb dX8_isStrip_74 (lv_at hl 6 rfl) ?_
            refine lv_iload hx hb dX8_isStrip_76 (lv_at hl 0 rfl) ?_
            obtain ⟨q78, hq78, hf⟩ := ds_ob hf
            refine ds_calli (wr := []) (va_runV (As := [.int v5, .int s0]) (rest := [.int q70]) ⟨hx, hb, hml, hown, hts⟩ (c_X8_colour l dC dI ca sa h_o h_o_plans h_o_makers h_o_halves h_o_all h_o_text h_o_saved h_o_undone h_o_told h_o_shift h_o_rootOf h_o_becomes h_o_comes h_o_next H.size o_raised o_undos o_reached o_length o_begin o_letters o_sort o_word o_wrongAt o_badAt o_bad o_firstX o_firstY o_secondX o_secondY o_x o_all_r v5 s0 q78 hq78) (cwV 2 hts (ds_gV kw_651 kw_652 kw_653 kw_597 kw_654) rfl rfl rfl (by decide +kernel) ⟨Nat.le_of_ble_eq_true rfl, Nat.le_of_ble_eq_true rfl⟩) ⟨ds_blind, va_recv hK hP (ci := 7) (q0 := 0) rfl rfl, ds_at hP hD hK hE hS hA [0, 1] rfl rfl _⟩ rfl rfl hl.1 rfl (lv_room (Nat.le_of_ble_eq_true rfl)) dX8_isStrip_78 ⟨Nat.zero_le _, Nat.zero_le _⟩) hP hD hS hA [0, 1] [] rfl rfl rfl (by decide) (fun H locs hP hD hS => ?_)
            have hP : va_P (dC, dI) vwCl [(h_o, .inr (7, [.ref h_o_plans, .ref h_o_makers, .ref h_o_halves, .int o_raised, .ref h_o_all, .ref h_o_text, .ref h_o_saved, .ref h_o_undone, .int o_undos, .int o_reached, .int o_length, .int o_begin, .int o_letters, .int o_sort, .long o_word, .int o_wrongAt, .int o_badAt, .int o_bad, .ref h_o_told, .ref h_o_shift, .int o_firstX, .int o_firstY, .int o_secondX, .int o_secondY, .ref h_o_rootOf, .ref h_o_becomes, .ref h_o_comes, .ref h_o_next, .int o_x])), (h_o_all, .inl (ca 0, 350, .inl o_all_r))] H := hP
            have hD : va_D A [(h_o, .inr (7, [.ref h_o_plans, .ref h_o_makers, .ref h_o_halves, .int o_raised, .ref h_o_all, .ref h_o_text, .ref h_o_saved, .ref h_o_undone, .int o_undos, .int o_reached, .int o_length, .int o_begin, .int o_letters, .int o_sort, .long o_word, .int o_wrongAt, .int o_badAt, .int o_bad, .ref h_o_told, .ref h_o_shift, .int o_firstX, .int o_firstY, .int o_secondX, .int o_secondY, .ref h_o_rootOf, .ref h_o_becomes, .ref h_o_comes, .ref h_o_next, .int o_x])), (h_o_all, .inl (ca 0, 350, .inl o_all_r))] := hD
            refine lv_icmp_eq (tgt := 86) hx hb dX8_isStrip_81 (by decide) (fun c_81 => ?_) (fun c_81 => ?_)
            · replace hf := ds_t c_81 hf
              refine lv_iinc (v := (v4 + 1)) (lv' := [(4, .int (v4 + 1)), (6, .int s0), (0, .ref h_o), (1, .int p1), (2, .int p2), (3, .int v3), (5, .int v5)]) hx hb dX8_isStrip_86 hl (k := 5) rfl rfl (by decide) rfl (fun ls hl => ?_)
              refine lv_goto (tgt := 15) hx hb dX8_isStrip_89 (by decide) ?_
              have hf := Option.some.inj hf
              subst hf
              rw [eG2] at hG
              obtain ⟨rr, hf, hG⟩ := hG
              exact h1 (ih15 (v4 + 1) rr hf hG _ _ hP hD hS _ (lv_sub hl [2, 3, 4, 5, 0] rfl))
            · replace hf := ds_f c_81 hf
              refine lv_iconst (v := 0) hx hb dX8_isStrip_84 (by decide) ?_
              have hf := Option.some.inj hf
              subst hf
              rw [eG2] at hG
              replace hG : G1 _ := hG
              rw [eG1] at hG
              replace hG : G0 _ := hG
              rw [eG0] at hG
              have hG : _ = res := hG
              subst hG
              exact W.zret (v := (0 : Int32)) (ty := .boolean) hx hb hr rfl (fun t ht hW => ⟨⟨(0 : Int32), (), rfl, rfl, by rw [ht]; exact hP, hD⟩, hS.F ht⟩) hS.2.2 dX8_isStrip_85
          have J_41 : ∀ (v4 : Int32) (s0 : Int32) (rr : (Int32) ⊕ ((Int32) ⊕ (Int32))) (hf : fX8_isStrip_41 o_all_r p1 p2 v3 v4 s0 = some rr) (hG : G2 rr) (H : Heap) (locs : List Loc) (hP : va_P (dC, dI) vwCl [(h_o, .inr (7, [.ref h_o_plans, .ref h_o_makers, .ref h_o_halves, .int o_raised, .ref h_o_all, .ref h_o_text, .ref h_o_saved, .ref h_o_undone, .int o_undos, .int o_reached, .int o_length, .int o_begin, .int o_letters, .int o_sort, .long o_word, .int o_wrongAt, .int o_badAt, .int o_bad, .ref h_o_told, .ref h_o_shift, .int o_firstX, .int o_firstY, .int o_secondX, .int o_secondY, .ref h_o_rootOf, .ref h_o_becomes, .ref h_o_comes, .ref h_o_next, .int o_x])), (h_o_all, .inl (ca 0, 350, .inl o_all_r))] H) (hD : va_D A [(h_o, .inr (7, [.ref h_o_plans, .ref h_o_makers, .ref h_o_halves, .int o_raised, .ref h_o_all, .ref h_o_text, .ref h_o_saved, .ref h_o_undone, .int o_undos, .int o_reached, .int o_length, .int o_begin, .int o_letters, .int o_sort, .long o_word, .int o_wrongAt, .int o_badAt, .int o_bad, .ref h_o_told, .ref h_o_shift, .int o_firstX, .int o_firstY, .int o_secondX, .int o_secondY, .ref h_o_rootOf, .ref h_o_becomes, .ref h_o_comes, .ref h_o_next, .int o_x])), (h_o_all, .inl (ca 0, 350, .inl o_all_r))]) (hS : va_S A s.heap H locs) (ls : Array Slot) (hl : lv_has ls 7 [(0, .ref h_o), (1, .int p1), (2, .int p2), (3, .int v3), (4, .int v4)]), WW H locs (F0 m 41 ls [.int s0]) := by
            intro v4 s0 rr hf hG H locs hP hD hS ls hl
            refine h2 ?_
            unfold fX8_isStrip_41 at hf
            refine lv_iload_n hx hb dX8_isStrip_41 rfl (lv_at hl 2 rfl) ?_
            refine lv_iadd hx hb dX8_isStrip_42 ?_
            refine lv_istore (lv' := [(5, .int (s0 + p2)), (0, .ref h_o), (1, .int p1), (2, .int p2), (3, .int v3), (4, .int v4)]) hx hb dX8_isStrip_43 hl (by decide) rfl (fun ls hl => ?_)
            refine lv_iload_n hx hb dX8_isStrip_45 rfl (lv_at hl 2 rfl) ?_
            refine lv_iconst (v := 1) hx hb dX8_isStrip_46 (by decide) ?_
            refine lv_icmp_le (tgt := 63) hx hb dX8_isStrip_47 (by decide) (fun c_47 => ?_) (fun c_47 => ?_)
            · replace hf := ds_t c_47 hf
              refine lv_iload_n hx hb dX8_isStrip_63 rfl (lv_at hl 4 rfl) ?_
              exact h1 (J_64 v4 (s0 + p2) v3 _ hf hG _ _ hP hD hS _ (lv_sub hl [1, 2, 3, 4, 5, 0] rfl))
            · replace hf := ds_f c_47 hf
              refine lv_aload_n hx hb dX8_isStrip_50 rfl (lv_at hl 1 rfl) ?_
              refine va_get (D := (dC, dI)) (ci := 7) (v := .ref h_o_all) (C := RX8) (T := TX8) (N := 29) hx hb hts (fun w h => List.mem_cons_of_mem _ (kc_X8 w h)) hown hK hP 0 rfl rfl 4 (by decide) (hg kw_594) (fun _ h9 => h9) rfl dX8_isStrip_51 ?_
              refine lv_iconst (v := 1) hx hb dX8_isStrip_54 (by decide) ?_
              refine va_iald hx hb hK hP 1 0 rfl rfl (ds_in_ok (i := 1) (n := 350) (by decide)) dX8_isStrip_55 ?_
              refine lv_iconst (v := 1) hx hb dX8_isStrip_56 (by decide) ?_
              refine lv_isub hx hb dX8_isStrip_57 ?_
              refine lv_iload_n hx hb dX8_isStrip_58 rfl (lv_at hl 4 rfl) ?_
              refine lv_isub hx hb dX8_isStrip_59 ?_
              refine lv_goto (tgt := 64) hx hb dX8_isStrip_60 (by decide) ?_
              exact h1 (J_64 v4 (s0 + p2) (((o_all_r (1 : Int32).toNatClampNeg) - (1 : Int32)) - v3) _ hf hG _ _ hP hD hS _ (lv_sub hl [1, 2, 3, 4, 5, 0] rfl))
          unfold fX8_isStrip_15_b at hf
          refine lv_iload hx hb dX8_isStrip_15 (lv_at hl 4 rfl) ?_
          refine lv_aload_n hx hb dX8_isStrip_17 rfl (lv_at hl 0 rfl) ?_
          refine va_get (D := (dC, dI)) (ci := 7) (v := .ref h_o_all) (C := RX8) (T := TX8) (N := 29) hx hb hts (fun w h => List.mem_cons_of_mem _ (kc_X8 w h)) hown hK hP 0 rfl rfl 4 (by decide) (hg kw_594) (fun _ h9 => h9) rfl dX8_isStrip_18 ?_
          refine lv_iconst (v := 0) hx hb dX8_isStrip_21 (by decide) ?_
          refine va_iald hx hb hK hP 1 0 rfl rfl (ds_in_ok (i := 0) (n := 350) (by decide)) dX8_isStrip_22 ?_
          refine lv_icmp_ge (tgt := 92) hx hb dX8_isStrip_23 (by decide) (fun c_23 => ?_) (fun c_23 => ?_)
          · replace hf := ds_t c_23 hf
            obtain ⟨rr, hr_0, hf⟩ := ds_ob hf
            have hf := Option.some.inj hf
            subst hf
            rw [eG2] at hG
            replace hG : G1 rr := hG
            have hf := hr_0
            exact h1 (J_92 v3 _ hf hG _ _ hP hD hS _ (lv_sub hl [0, 1, 2, 3] rfl))
          · replace hf := ds_f c_23 hf
            refine lv_iload_n hx hb dX8_isStrip_26 rfl (lv_at hl 1 rfl) ?_
            refine lv_iconst (v := 2) hx hb dX8_isStrip_27 (by decide) ?_
            refine lv_irem hx hb dX8_isStrip_28 (by decide) ?_
            refine lv_iconst (v := 1) hx hb dX8_isStrip_29 (by decide) ?_
            refine lv_icmp_ne (tgt := 39) hx hb dX8_isStrip_30 (by decide) (fun c_30 => ?_) (fun c_30 => ?_)
            · replace hf := ds_f c_30 hf
              refine lv_iload hx hb dX8_isStrip_39 (lv_at hl 4 rfl) ?_
              exact h1 (J_41 v4 v4 _ hf hG _ _ hP hD hS _ (lv_sub hl [0, 1, 2, 3, 4] rfl))
            · replace hf := ds_t c_30 hf
              refine lv_iload hx hb dX8_isStrip_33 (lv_at hl 4 rfl) ?_
              refine lv_ineg hx hb dX8_isStrip_35 ?_
              refine lv_goto (tgt := 41) hx hb dX8_isStrip_36 (by decide) ?_
              exact h1 (J_41 v4 (-v4) _ hf hG _ _ hP hD hS _ (lv_sub hl [0, 1, 2, 3, 4] rfl))
      unfold fX8_isStrip_2_b at hf
      refine lv_iload_n hx hb dX8_isStrip_2 rfl (lv_at hl 3 rfl) ?_
      refine lv_aload_n hx hb dX8_isStrip_3 rfl (lv_at hl 0 rfl) ?_
      refine va_get (D := (dC, dI)) (ci := 7) (v := .ref h_o_all) (C := RX8) (T := TX8) (N := 29) hx hb hts (fun w h => List.mem_cons_of_mem _ (kc_X8 w h)) hown hK hP 0 rfl rfl 4 (by decide) (hg kw_594) (fun _ h9 => h9) rfl dX8_isStrip_4 ?_
      refine lv_iconst (v := 1) hx hb dX8_isStrip_7 (by decide) ?_
      refine va_iald hx hb hK hP 1 0 rfl rfl (ds_in_ok (i := 1) (n := 350) (by decide)) dX8_isStrip_8 ?_
      refine lv_icmp_ge (tgt := 98) hx hb dX8_isStrip_9 (by decide) (fun c_9 => ?_) (fun c_9 => ?_)
      · replace hf := ds_t c_9 hf
        refine lv_iconst (v := 1) hx hb dX8_isStrip_98 (by decide) ?_
        have hf := Option.some.inj hf
        subst hf
        rw [eG1] at hG
        replace hG : G0 _ := hG
        rw [eG0] at hG
        have hG : _ = res := hG
        subst hG
        exact W.zret (v := (1 : Int32)) (ty := .boolean) hx hb hr rfl (fun t ht hW => ⟨⟨(1 : Int32), (), rfl, rfl, by rw [ht]; exact hP, hD⟩, hS.F ht⟩) hS.2.2 dX8_isStrip_99
      · replace hf := ds_f c_9 hf
        refine lv_iconst (v := 0) hx hb dX8_isStrip_12 (by decide) ?_
        refine lv_istore (lv' := [(4, .int (0 : Int32)), (0, .ref h_o), (1, .int p1), (2, .int p2), (3, .int v3)]) hx hb dX8_isStrip_13 hl (by decide) rfl (fun ls hl => ?_)
        exact h1 (J_15 v3 1000 (0 : Int32) _ hf hG _ _ hP hD hS _ (lv_sub hl [1, 2, 3, 4, 0] rfl))
  unfold fX8_isStrip at hf
  refine lv_iconst (v := 0) hx hb dX8_isStrip_0 (by decide) ?_
  refine lv_istore_n (lv' := [(3, .int (0 : Int32)), (0, .ref h_o), (1, .int p1), (2, .int p2)]) hx hb dX8_isStrip_1 rfl hl (by decide) rfl (fun ls hl => ?_)
  exact h1 (J_2  1000 (0 : Int32) _ hf hG _ _ hP hD hS _ (lv_sub hl [1, 2, 3, 0] rfl))
theorem dX8_stripShifts_0 : decode cX8_stripShifts 0 = .ok (.iconst 0, 1) := by decide +kernel
theorem dX8_stripShifts_1 : decode cX8_stripShifts 1 = .ok (.istore_n 2, 1) := by decide +kernel
theorem dX8_stripShifts_2 : decode cX8_stripShifts 2 = .ok (.iconst 0, 1) := by decide +kernel
theorem dX8_stripShifts_3 : decode cX8_stripShifts 3 = .ok (.istore_n 3, 1) := by decide +kernel
theorem dX8_stripShifts_4 : decode cX8_stripShifts 4 = .ok (.iload_n 3, 1) := by decide +kernel
theorem dX8_stripShifts_5 : decode cX8_stripShifts 5 = .ok (.aload_n 0, 1) := by decide +kernel
theorem dX8_stripShifts_6 : decode cX8_stripShifts 6 = .ok (.getfield 19, 3) := by decide +kernel
theorem dX8_stripShifts_9 : decode cX8_stripShifts 9 = .ok (.iconst 0, 1) := by decide +kernel
theorem dX8_stripShifts_10 : decode cX8_stripShifts 10 = .ok (.iaload, 1) := by decide +kernel
theorem dX8_stripShifts_11 : decode cX8_stripShifts 11 = .ok (.if_icmp .ge 26, 3) := by decide +kernel
theorem dX8_stripShifts_14 : decode cX8_stripShifts 14 = .ok (.iload_n 2, 1) := by decide +kernel
theorem dX8_stripShifts_15 : decode cX8_stripShifts 15 = .ok (.aload_n 0, 1) := by decide +kernel
theorem dX8_stripShifts_16 : decode cX8_stripShifts 16 = .ok (.iload_n 1, 1) := by decide +kernel
theorem dX8_stripShifts_17 : decode cX8_stripShifts 17 = .ok (.iload_n 3, 1) := by decide +kernel
theorem dX8_stripShifts_18 : decode cX8_stripShifts 18 = .ok (.invokevirtual 251, 3) := by decide +kernel
theorem dX8_stripShifts_21 : decode cX8_stripShifts 21 = .ok (.ifCond .eq 7, 3) := by decide +kernel
theorem dX8_stripShifts_24 : decode cX8_stripShifts 24 = .ok (.iconst 1, 1) := by decide +kernel
theorem dX8_stripShifts_25 : decode cX8_stripShifts 25 = .ok (.goto 4, 3) := by decide +kernel
theorem dX8_stripShifts_28 : decode cX8_stripShifts 28 = .ok (.iconst 0, 1) := by decide +kernel
theorem dX8_stripShifts_29 : decode cX8_stripShifts 29 = .ok (.iadd, 1) := by decide +kernel
theorem dX8_stripShifts_30 : decode cX8_stripShifts 30 = .ok (.istore_n 2, 1) := by decide +kernel
theorem dX8_stripShifts_31 : decode cX8_stripShifts 31 = .ok (.iinc 3 1, 3) := by decide +kernel
theorem dX8_stripShifts_34 : decode cX8_stripShifts 34 = .ok (.goto (-30), 3) := by decide +kernel
theorem dX8_stripShifts_37 : decode cX8_stripShifts 37 = .ok (.iload_n 2, 1) := by decide +kernel
theorem dX8_stripShifts_38 : decode cX8_stripShifts 38 = .ok (.ireturn, 1) := by decide +kernel
def fX8_stripShifts_29 (v3 : Int32) (s0 : Int32) (s1 : Int32) : Option ((Int32 × Int32) ⊕ (Int32)) :=
  some (.inl ((s1 + s0), (v3 + 1)))
def fX8_stripShifts_4_b (o_all_r : Nat → Int32) (p1 : Int32) (v2 : Int32) (v3 : Int32) : Option ((Int32 × Int32) ⊕ (Int32)) :=
  if (o_all_r (0 : Int32).toNatClampNeg) ≤ v3 then some (.inr v2) else Option.bind (fX8_isStrip o_all_r p1 v3) fun q18 => if q18 = 0 then fX8_stripShifts_29 v3 (0 : Int32) v2 else fX8_stripShifts_29 v3 (1 : Int32) v2
def fX8_stripShifts_4 (o_all_r : Nat → Int32) (p1 : Int32) (v2 : Int32) (v3 : Int32) : Option (Int32) := ds_it (fun s => fX8_stripShifts_4_b o_all_r p1 s.1 s.2) 1000 (v2, v3)
def fX8_stripShifts (o_all_r : Nat → Int32) (p1 : Int32) : Option (Int32) :=
  fX8_stripShifts_4 o_all_r p1 (0 : Int32) (0 : Int32)
set_option maxHeartbeats 4000000 in
set_option maxRecDepth 100000 in
theorem c_X8_stripShifts (l : Launch) (dC : Nat → ClassId) (dI : Nat → Nat → Nat) (ca : Nat → ClassId) (sa : Nat → Nat) (h_o : Nat) (h_o_plans : Nat) (h_o_makers : Nat) (h_o_halves : Nat) (h_o_all : Nat) (h_o_text : Nat) (h_o_saved : Nat) (h_o_undone : Nat) (h_o_told : Nat) (h_o_shift : Nat) (h_o_rootOf : Nat) (h_o_becomes : Nat) (h_o_comes : Nat) (h_o_next : Nat) (sz : Nat) (o_raised : Int32) (o_undos : Int32) (o_reached : Int32) (o_length : Int32) (o_begin : Int32) (o_letters : Int32) (o_sort : Int32) (o_word : Int64) (o_wrongAt : Int32) (o_badAt : Int32) (o_bad : Int32) (o_firstX : Int32) (o_firstY : Int32) (o_secondX : Int32) (o_secondY : Int32) (o_x : Int32) (o_all_r : Nat → Int32) (p1 : Int32) (res : Int32) (hf : fX8_stripShifts o_all_r p1 = some res) : Met l yX8_stripShifts (Cond.code yX8_stripShifts cX8_stripShifts 4 (some .int) :: ds_gw) { frames := 4, cells := 0, slots := 0, locals := 92 } (va_Pc [.ref h_o, .int p1] (ds_Pre dC dI ca sa [(h_o, .inr (7, [.ref h_o_plans, .ref h_o_makers, .ref h_o_halves, .int o_raised, .ref h_o_all, .ref h_o_text, .ref h_o_saved, .ref h_o_undone, .int o_undos, .int o_reached, .int o_length, .int o_begin, .int o_letters, .int o_sort, .long o_word, .int o_wrongAt, .int o_badAt, .int o_bad, .ref h_o_told, .ref h_o_shift, .int o_firstX, .int o_firstY, .int o_secondX, .int o_secondY, .ref h_o_rootOf, .ref h_o_becomes, .ref h_o_comes, .ref h_o_next, .int o_x])), (h_o_all, .inl (ca 0, 350, .inl o_all_r))] sz)) (va_Qi (fun r (_ : Unit) => r = res) (ds_B dC dI (va_A [(h_o, .inr (7, [.ref h_o_plans, .ref h_o_makers, .ref h_o_halves, .int o_raised, .ref h_o_all, .ref h_o_text, .ref h_o_saved, .ref h_o_undone, .int o_undos, .int o_reached, .int o_length, .int o_begin, .int o_letters, .int o_sort, .long o_word, .int o_wrongAt, .int o_badAt, .int o_bad, .ref h_o_told, .ref h_o_shift, .int o_firstX, .int o_firstY, .int o_secondX, .int o_secondY, .ref h_o_rootOf, .ref h_o_becomes, .ref h_o_comes, .ref h_o_next, .int o_x])), (h_o_all, .inl (ca 0, 350, .inl o_all_r))] sz) [(h_o, .inr (7, [.ref h_o_plans, .ref h_o_makers, .ref h_o_halves, .int o_raised, .ref h_o_all, .ref h_o_text, .ref h_o_saved, .ref h_o_undone, .int o_undos, .int o_reached, .int o_length, .int o_begin, .int o_letters, .int o_sort, .long o_word, .int o_wrongAt, .int o_badAt, .int o_bad, .ref h_o_told, .ref h_o_shift, .int o_firstX, .int o_firstY, .int o_secondX, .int o_secondY, .ref h_o_rootOf, .ref h_o_becomes, .ref h_o_comes, .ref h_o_next, .int o_x])), (h_o_all, .inl (ca 0, 350, .inl o_all_r))]) (va_A [(h_o, .inr (7, [.ref h_o_plans, .ref h_o_makers, .ref h_o_halves, .int o_raised, .ref h_o_all, .ref h_o_text, .ref h_o_saved, .ref h_o_undone, .int o_undos, .int o_reached, .int o_length, .int o_begin, .int o_letters, .int o_sort, .long o_word, .int o_wrongAt, .int o_badAt, .int o_bad, .ref h_o_told, .ref h_o_shift, .int o_firstX, .int o_firstY, .int o_secondX, .int o_secondY, .ref h_o_rootOf, .ref h_o_becomes, .ref h_o_comes, .ref h_o_next, .int o_x])), (h_o_all, .inl (ca 0, 350, .inl o_all_r))] sz)) 0 0 (va_A [(h_o, .inr (7, [.ref h_o_plans, .ref h_o_makers, .ref h_o_halves, .int o_raised, .ref h_o_all, .ref h_o_text, .ref h_o_saved, .ref h_o_undone, .int o_undos, .int o_reached, .int o_length, .int o_begin, .int o_letters, .int o_sort, .long o_word, .int o_wrongAt, .int o_badAt, .int o_bad, .ref h_o_told, .ref h_o_shift, .int o_firstX, .int o_firstY, .int o_secondX, .int o_secondY, .ref h_o_rootOf, .ref h_o_becomes, .ref h_o_comes, .ref h_o_next, .int o_x])), (h_o_all, .inl (ca 0, 350, .inl o_all_r))] sz) := by
  refine Met.ofW (cc := cX8_stripShifts) (maxL := 4) (ret := (some .int)) (by decide) rfl ?_
  intro p e s m args below meth c s₁ B hml hv
  obtain ⟨rfl, hsz, hP, hK, hD0, hE⟩ := hv
  have hx := B.exec
  have hb := B.bytes
  have hr := B.returns
  have hts := atoms_spec (ws := Cond.code yX8_stripShifts cX8_stripShifts 4 (some .int) :: ds_gw) B.pre
  have hg : ∀ {w : Cond}, w ∈ ds_gw → w.before _ s = true := fun h => hts _ (List.mem_cons_of_mem _ h)
  have hown : s.vm.findClass RX8 = some m.cls := findClass_of_methodNamed B.named
  have hlocks := B.notSynchronized
  subst hsz
  have hD := hD0.self (sz := s.heap.size)
  generalize hAe : va_A [(h_o, .inr (7, [.ref h_o_plans, .ref h_o_makers, .ref h_o_halves, .int o_raised, .ref h_o_all, .ref h_o_text, .ref h_o_saved, .ref h_o_undone, .int o_undos, .int o_reached, .int o_length, .int o_begin, .int o_letters, .int o_sort, .long o_word, .int o_wrongAt, .int o_badAt, .int o_bad, .ref h_o_told, .ref h_o_shift, .int o_firstX, .int o_firstY, .int o_secondX, .int o_secondY, .ref h_o_rootOf, .ref h_o_becomes, .ref h_o_comes, .ref h_o_next, .int o_x])), (h_o_all, .inl (ca 0, 350, .inl o_all_r))] s.heap.size = A at hD hE ⊢
  have hA : ∀ q : Nat, s.heap.size ≤ q → A q := fun q h => by rw [← hAe]; exact Or.inr h
  have hS : va_S A s.heap s.heap [] := va_S.rf
  have hl := lv_entry ([.ref h_o, .int p1]) (n := 4) (Nat.le_of_ble_eq_true rfl)
  rw [lg_entry_eq]
  generalize (lg_sl ([.ref h_o, .int p1]) ++ List.replicate (4 - (lg_sl ([.ref h_o, .int p1])).length) Slot.unset).toArray = ls at hl ⊢
  have hl : lv_has ls 4 [(0, .ref h_o), (1, .int p1)] := hl
  obtain ⟨G0, eG0⟩ : ∃ G : Int32 → Prop, G = (fun r => r = res) := ⟨_, rfl⟩
  obtain ⟨rr, hrr⟩ : ∃ z, z = res := ⟨_, rfl⟩
  rw [← hrr] at hf
  have hG : G0 rr := by subst eG0; exact hrr
  refine ds_cap (fun WW h1 h2 => ?_)
  have J_4 : ∀ (n : Nat) (v2 : Int32) (v3 : Int32) (rr : Int32) (hf : ds_it (fun s => fX8_stripShifts_4_b o_all_r p1 s.1 s.2) n (v2, v3) = some rr) (hG : G0 rr) (H : Heap) (locs : List Loc) (hP : va_P (dC, dI) vwCl [(h_o, .inr (7, [.ref h_o_plans, .ref h_o_makers, .ref h_o_halves, .int o_raised, .ref h_o_all, .ref h_o_text, .ref h_o_saved, .ref h_o_undone, .int o_undos, .int o_reached, .int o_length, .int o_begin, .int o_letters, .int o_sort, .long o_word, .int o_wrongAt, .int o_badAt, .int o_bad, .ref h_o_told, .ref h_o_shift, .int o_firstX, .int o_firstY, .int o_secondX, .int o_secondY, .ref h_o_rootOf, .ref h_o_becomes, .ref h_o_comes, .ref h_o_next, .int o_x])), (h_o_all, .inl (ca 0, 350, .inl o_all_r))] H) (hD : va_D A [(h_o, .inr (7, [.ref h_o_plans, .ref h_o_makers, .ref h_o_halves, .int o_raised, .ref h_o_all, .ref h_o_text, .ref h_o_saved, .ref h_o_undone, .int o_undos, .int o_reached, .int o_length, .int o_begin, .int o_letters, .int o_sort, .long o_word, .int o_wrongAt, .int o_badAt, .int o_bad, .ref h_o_told, .ref h_o_shift, .int o_firstX, .int o_firstY, .int o_secondX, .int o_secondY, .ref h_o_rootOf, .ref h_o_becomes, .ref h_o_comes, .ref h_o_next, .int o_x])), (h_o_all, .inl (ca 0, 350, .inl o_all_r))]) (hS : va_S A s.heap H locs) (ls : Array Slot) (hl : lv_has ls 4 [(0, .ref h_o), (1, .int p1), (2, .int v2), (3, .int v3)]), WW H locs (F0 m 4 ls []) := by
    intro  n
    induction n with
    | zero => intro v2 v3 rr hf; exact (ds_it_zero hf).elim
    | succ n ih4 =>
      intro v2 v3 rr hf hG H locs hP hD hS ls hl
      refine h2 ?_
      obtain ⟨rr, hf, hG⟩ := ds_it_succ hf hG
      replace hf : fX8_stripShifts_4_b o_all_r p1 v2 v3 = some rr := hf
      obtain ⟨G1, eG1⟩ : ∃ G : ((Int32 × Int32) ⊕ (Int32)) → Prop, G = ds_G (fun s' => ∃ r', ds_it (fun s => fX8_stripShifts_4_b o_all_r p1 s.1 s.2) n s' = some r' ∧ G0 r') G0 := ⟨_, rfl⟩
      rw [← eG1] at hG
      have J_29 : ∀ (v3 : Int32) (s0 : Int32) (s1 : Int32) (rr : (Int32 × Int32) ⊕ (Int32)) (hf : fX8_stripShifts_29 v3 s0 s1 = some rr) (hG : G1 rr) (H : Heap) (locs : List Loc) (hP : va_P (dC, dI) vwCl [(h_o, .inr (7, [.ref h_o_plans, .ref h_o_makers, .ref h_o_halves, .int o_raised, .ref h_o_all, .ref h_o_text, .ref h_o_saved, .ref h_o_undone, .int o_undos, .int o_reached, .int o_length, .int o_begin, .int o_letters, .int o_sort, .long o_word, .int o_wrongAt, .int o_badAt, .int o_bad, .ref h_o_told, .ref h_o_shift, .int o_firstX, .int o_firstY, .int o_secondX, .int o_secondY, .ref h_o_rootOf, .ref h_o_becomes, .ref h_o_comes, .ref h_o_next, .int o_x])), (h_o_all, .inl (ca 0, 350, .inl o_all_r))] H) (hD : va_D A [(h_o, .inr (7, [.ref h_o_plans, .ref h_o_makers, .ref h_o_halves, .int o_raised, .ref h_o_all, .ref h_o_text, .ref h_o_saved, .ref h_o_undone, .int o_undos, .int o_reached, .int o_length, .int o_begin, .int o_letters, .int o_sort, .long o_word, .int o_wrongAt, .int o_badAt, .int o_bad, .ref h_o_told, .ref h_o_shift, .int o_firstX, .int o_firstY, .int o_secondX, .int o_secondY, .ref h_o_rootOf, .ref h_o_becomes, .ref h_o_comes, .ref h_o_next, .int o_x])), (h_o_all, .inl (ca 0, 350, .inl o_all_r))]) (hS : va_S A s.heap H locs) (ls : Array Slot) (hl : lv_has ls 4 [(0, .ref h_o), (1, .int p1), (3, .int v3)]), WW H locs (F0 m 29 ls [.int s0, .int s1]) := by
        intro v3 s0 s1 rr hf hG H locs hP hD hS ls hl
        refine h2 ?_
        unfold fX8_stripShifts_29 at hf
        refine lv_iadd hx hb dX8_stripShifts_29 ?_
        refine lv_istore_n (lv' := [(2, .int (s1 + s0)), (0, .ref h_o), (1, .int p1), (3, .int v3)]) hx hb dX8_stripShifts_30 rfl hl (by decide) rfl (fun ls hl => ?_)
        refine lv_iinc (v := (v3 + 1)) (lv' := [(3, .int (v3 + 1)), (2, .int (s1 + s0)), (0, .ref h_o), (1, .int p1)]) hx hb dX8_stripShifts_31 hl (k := 3) rfl rfl (by decide) rfl (fun ls hl => ?_)
        refine lv_goto (tgt := 4) hx hb dX8_stripShifts_34 (by decide) ?_
        have hf := Option.some.inj hf
        subst hf
        rw [eG1] at hG
        obtain ⟨rr, hf, hG⟩ := hG
        exact h1 (ih4 (s1 + s0) (v3 + 1) rr hf hG _ _ hP hD hS _ (lv_sub hl [2, 3, 1, 0] rfl))
      unfold fX8_stripShifts_4_b at hf
      refine lv_iload_n hx hb dX8_stripShifts_4 rfl (lv_at hl 3 rfl) ?_
      refine lv_aload_n hx hb dX8_stripShifts_5 rfl (lv_at hl 0 rfl) ?_
      refine va_get (D := (dC, dI)) (ci := 7) (v := .ref h_o_all) (C := RX8) (T := TX8) (N := 29) hx hb hts (fun w h => List.mem_cons_of_mem _ (kc_X8 w h)) hown hK hP 0 rfl rfl 4 (by decide) (hg kw_594) (fun _ h9 => h9) rfl dX8_stripShifts_6 ?_
      refine lv_iconst (v := 0) hx hb dX8_stripShifts_9 (by decide) ?_
      refine va_iald hx hb hK hP 1 0 rfl rfl (ds_in_ok (i := 0) (n := 350) (by decide)) dX8_stripShifts_10 ?_
      refine lv_icmp_ge (tgt := 37) hx hb dX8_stripShifts_11 (by decide) (fun c_11 => ?_) (fun c_11 => ?_)
      · replace hf := ds_t c_11 hf
        refine lv_iload_n hx hb dX8_stripShifts_37 rfl (lv_at hl 2 rfl) ?_
        have hf := Option.some.inj hf
        subst hf
        rw [eG1] at hG
        replace hG : G0 _ := hG
        rw [eG0] at hG
        have hG : _ = res := hG
        subst hG
        exact W.iret (v := v2) hx hb hr (fun t ht hW => ⟨⟨v2, (), rfl, rfl, by rw [ht]; exact hP, hD⟩, hS.F ht⟩) hS.2.2 dX8_stripShifts_38
      · replace hf := ds_f c_11 hf
        refine lv_iload_n hx hb dX8_stripShifts_14 rfl (lv_at hl 2 rfl) ?_
        refine lv_aload_n hx hb dX8_stripShifts_15 rfl (lv_at hl 0 rfl) ?_
        refine lv_iload_n hx hb dX8_stripShifts_16 rfl (lv_at hl 1 rfl) ?_
        refine lv_iload_n hx hb dX8_stripShifts_17 rfl (lv_at hl 3 rfl) ?_
        obtain ⟨q18, hq18, hf⟩ := ds_ob hf
        refine ds_calli (wr := []) (va_runV (As := [.int p1, .int v3]) (rest := [.int v2]) ⟨hx, hb, hml, hown, hts⟩ (c_X8_isStrip l dC dI ca sa h_o h_o_plans h_o_makers h_o_halves h_o_all h_o_text h_o_saved h_o_undone h_o_told h_o_shift h_o_rootOf h_o_becomes h_o_comes h_o_next H.size o_raised o_undos o_reached o_length o_begin o_letters o_sort o_word o_wrongAt o_badAt o_bad o_firstX o_firstY o_secondX o_secondY o_x o_all_r p1 v3 q18 hq18) (cwV 2 hts (ds_gV kw_795 kw_796 kw_797 kw_597 kw_798) rfl rfl rfl (by decide +kernel) ⟨Nat.le_of_ble_eq_true rfl, Nat.le_of_ble_eq_true rfl⟩) ⟨ds_blind, va_recv hK hP (ci := 7) (q0 := 0) rfl rfl, ds_at hP hD hK hE hS hA [0, 1] rfl rfl _⟩ rfl rfl hl.1 rfl (lv_room (Nat.le_of_ble_eq_true rfl)) dX8_stripShifts_18 ⟨Nat.zero_le _, Nat.zero_le _⟩) hP hD hS hA [0, 1] [] rfl rfl rfl (by decide) (fun H locs hP hD hS => ?_)
        have hP : va_P (dC, dI) vwCl [(h_o, .inr (7, [.ref h_o_plans, .ref h_o_makers, .ref h_o_halves, .int o_raised, .ref h_o_all, .ref h_o_text, .ref h_o_saved, .ref h_o_undone, .int o_undos, .int o_reached, .int o_length, .int o_begin, .int o_letters, .int o_sort, .long o_word, .int o_wrongAt, .int o_badAt, .int o_bad, .ref h_o_told, .ref h_o_shift, .int o_firstX, .int o_firstY, .int o_secondX, .int o_secondY, .ref h_o_rootOf, .ref h_o_becomes, .ref h_o_comes, .ref h_o_next, .int o_x])), (h_o_all, .inl (ca 0, 350, .inl o_all_r))] H := hP
        have hD : va_D A [(h_o, .inr (7, [.ref h_o_plans, .ref h_o_makers, .ref h_o_halves, .int o_raised, .ref h_o_all, .ref h_o_text, .ref h_o_saved, .ref h_o_undone, .int o_undos, .int o_reached, .int o_length, .int o_begin, .int o_letters, .int o_sort, .long o_word, .int o_wrongAt, .int o_badAt, .int o_bad, .ref h_o_told, .ref h_o_shift, .int o_firstX, .int o_firstY, .int o_secondX, .int o_secondY, .ref h_o_rootOf, .ref h_o_becomes, .ref h_o_comes, .ref h_o_next, .int o_x])), (h_o_all, .inl (ca 0, 350, .inl o_all_r))] := hD
        refine lv_if_eq (tgt := 28) hx hb dX8_stripShifts_21 (by decide) (fun c_21 => ?_) (fun c_21 => ?_)
        · replace hf := ds_t c_21 hf
          refine lv_iconst (v := 0) hx hb dX8_stripShifts_28 (by decide) ?_
          exact h1 (J_29 v3 (0 : Int32) v2 _ hf hG _ _ hP hD hS _ (lv_sub hl [0, 1, 3] rfl))
        · replace hf := ds_f c_21 hf
          refine lv_iconst (v := 1) hx hb dX8_stripShifts_24 (by decide) ?_
          refine lv_goto (tgt := 29) hx hb dX8_stripShifts_25 (by decide) ?_
          exact h1 (J_29 v3 (1 : Int32) v2 _ hf hG _ _ hP hD hS _ (lv_sub hl [0, 1, 3] rfl))
  unfold fX8_stripShifts at hf
  refine lv_iconst (v := 0) hx hb dX8_stripShifts_0 (by decide) ?_
  refine lv_istore_n (lv' := [(2, .int (0 : Int32)), (0, .ref h_o), (1, .int p1)]) hx hb dX8_stripShifts_1 rfl hl (by decide) rfl (fun ls hl => ?_)
  refine lv_iconst (v := 0) hx hb dX8_stripShifts_2 (by decide) ?_
  refine lv_istore_n (lv' := [(3, .int (0 : Int32)), (2, .int (0 : Int32)), (0, .ref h_o), (1, .int p1)]) hx hb dX8_stripShifts_3 rfl hl (by decide) rfl (fun ls hl => ?_)
  exact h1 (J_4  1000 (0 : Int32) (0 : Int32) _ hf hG _ _ hP hD hS _ (lv_sub hl [2, 3, 1, 0] rfl))
theorem dX8_strip_0 : decode cX8_strip 0 = .ok (.aload_n 0, 1) := by decide +kernel
theorem dX8_strip_1 : decode cX8_strip 1 = .ok (.iconst 0, 1) := by decide +kernel
theorem dX8_strip_2 : decode cX8_strip 2 = .ok (.putfield 51, 3) := by decide +kernel
theorem dX8_strip_5 : decode cX8_strip 5 = .ok (.iload_n 1, 1) := by decide +kernel
theorem dX8_strip_6 : decode cX8_strip 6 = .ok (.iconst 0, 1) := by decide +kernel
theorem dX8_strip_7 : decode cX8_strip 7 = .ok (.iconst 4, 1) := by decide +kernel
theorem dX8_strip_8 : decode cX8_strip 8 = .ok (.invokestatic 90, 3) := by decide +kernel
theorem dX8_strip_11 : decode cX8_strip 11 = .ok (.ifCond .ne 5, 3) := by decide +kernel
theorem dX8_strip_14 : decode cX8_strip 14 = .ok (.iconst (-1), 1) := by decide +kernel
theorem dX8_strip_15 : decode cX8_strip 15 = .ok (.ireturn, 1) := by decide +kernel
theorem dX8_strip_16 : decode cX8_strip 16 = .ok (.iload_n 1, 1) := by decide +kernel
theorem dX8_strip_17 : decode cX8_strip 17 = .ok (.ifCond .le 11, 3) := by decide +kernel
theorem dX8_strip_20 : decode cX8_strip 20 = .ok (.aload_n 0, 1) := by decide +kernel
theorem dX8_strip_21 : decode cX8_strip 21 = .ok (.iload_n 1, 1) := by decide +kernel
theorem dX8_strip_22 : decode cX8_strip 22 = .ok (.iconst 1, 1) := by decide +kernel
theorem dX8_strip_23 : decode cX8_strip 23 = .ok (.isub, 1) := by decide +kernel
theorem dX8_strip_24 : decode cX8_strip 24 = .ok (.invokevirtual 254, 3) := by decide +kernel
theorem dX8_strip_27 : decode cX8_strip 27 = .ok (.ireturn, 1) := by decide +kernel
theorem dX8_strip_28 : decode cX8_strip 28 = .ok (.aload_n 0, 1) := by decide +kernel
theorem dX8_strip_29 : decode cX8_strip 29 = .ok (.iconst 1, 1) := by decide +kernel
theorem dX8_strip_30 : decode cX8_strip 30 = .ok (.invokevirtual 254, 3) := by decide +kernel
theorem dX8_strip_33 : decode cX8_strip 33 = .ok (.ifCond .le 7, 3) := by decide +kernel
theorem dX8_strip_36 : decode cX8_strip 36 = .ok (.iconst 1, 1) := by decide +kernel
theorem dX8_strip_37 : decode cX8_strip 37 = .ok (.goto 4, 3) := by decide +kernel
theorem dX8_strip_40 : decode cX8_strip 40 = .ok (.iconst 0, 1) := by decide +kernel
theorem dX8_strip_41 : decode cX8_strip 41 = .ok (.istore_n 2, 1) := by decide +kernel
theorem dX8_strip_42 : decode cX8_strip 42 = .ok (.aload_n 0, 1) := by decide +kernel
theorem dX8_strip_43 : decode cX8_strip 43 = .ok (.iconst 2, 1) := by decide +kernel
theorem dX8_strip_44 : decode cX8_strip 44 = .ok (.iconst 0, 1) := by decide +kernel
theorem dX8_strip_45 : decode cX8_strip 45 = .ok (.invokevirtual 251, 3) := by decide +kernel
theorem dX8_strip_48 : decode cX8_strip 48 = .ok (.ifCond .eq 14, 3) := by decide +kernel
theorem dX8_strip_51 : decode cX8_strip 51 = .ok (.iload_n 2, 1) := by decide +kernel
theorem dX8_strip_52 : decode cX8_strip 52 = .ok (.ifCond .eq 8, 3) := by decide +kernel
theorem dX8_strip_55 : decode cX8_strip 55 = .ok (.bipush 6, 2) := by decide +kernel
theorem dX8_strip_57 : decode cX8_strip 57 = .ok (.goto 4, 3) := by decide +kernel
theorem dX8_strip_60 : decode cX8_strip 60 = .ok (.iconst 3, 1) := by decide +kernel
theorem dX8_strip_61 : decode cX8_strip 61 = .ok (.ireturn, 1) := by decide +kernel
theorem dX8_strip_62 : decode cX8_strip 62 = .ok (.aload_n 0, 1) := by decide +kernel
theorem dX8_strip_63 : decode cX8_strip 63 = .ok (.iconst 2, 1) := by decide +kernel
theorem dX8_strip_64 : decode cX8_strip 64 = .ok (.invokevirtual 254, 3) := by decide +kernel
theorem dX8_strip_67 : decode cX8_strip 67 = .ok (.ifCond .le 13, 3) := by decide +kernel
theorem dX8_strip_70 : decode cX8_strip 70 = .ok (.iload_n 2, 1) := by decide +kernel
theorem dX8_strip_71 : decode cX8_strip 71 = .ok (.ifCond .eq 7, 3) := by decide +kernel
theorem dX8_strip_74 : decode cX8_strip 74 = .ok (.iconst 5, 1) := by decide +kernel
theorem dX8_strip_75 : decode cX8_strip 75 = .ok (.goto 4, 3) := by decide +kernel
theorem dX8_strip_78 : decode cX8_strip 78 = .ok (.iconst 4, 1) := by decide +kernel
theorem dX8_strip_79 : decode cX8_strip 79 = .ok (.ireturn, 1) := by decide +kernel
theorem dX8_strip_80 : decode cX8_strip 80 = .ok (.iload_n 2, 1) := by decide +kernel
theorem dX8_strip_81 : decode cX8_strip 81 = .ok (.ifCond .eq 7, 3) := by decide +kernel
theorem dX8_strip_84 : decode cX8_strip 84 = .ok (.iconst 2, 1) := by decide +kernel
theorem dX8_strip_85 : decode cX8_strip 85 = .ok (.goto 16, 3) := by decide +kernel
theorem dX8_strip_88 : decode cX8_strip 88 = .ok (.aload_n 0, 1) := by decide +kernel
theorem dX8_strip_89 : decode cX8_strip 89 = .ok (.iconst 3, 1) := by decide +kernel
theorem dX8_strip_90 : decode cX8_strip 90 = .ok (.invokevirtual 254, 3) := by decide +kernel
theorem dX8_strip_93 : decode cX8_strip 93 = .ok (.ifCond .le 7, 3) := by decide +kernel
theorem dX8_strip_96 : decode cX8_strip 96 = .ok (.iconst 1, 1) := by decide +kernel
theorem dX8_strip_97 : decode cX8_strip 97 = .ok (.goto 4, 3) := by decide +kernel
theorem dX8_strip_100 : decode cX8_strip 100 = .ok (.iconst 0, 1) := by decide +kernel
theorem dX8_strip_101 : decode cX8_strip 101 = .ok (.ireturn, 1) := by decide +kernel
def fX8_strip_41 (o_raised : Int32) (o_all_r : Nat → Int32) (s0 : Int32) : Option (Int32 × Int32) :=
  Option.bind (fX8_isStrip o_all_r (2 : Int32) (0 : Int32)) fun q45 => if q45 = 0 then Option.bind (fX8_stripShifts o_all_r (2 : Int32)) fun q64 => if q64 ≤ 0 then if s0 = 0 then Option.bind (fX8_stripShifts o_all_r (3 : Int32)) fun q90 => if q90 ≤ 0 then some ((0 : Int32), o_raised) else some ((1 : Int32), o_raised) else some ((2 : Int32), o_raised) else if s0 = 0 then some ((4 : Int32), o_raised) else some ((5 : Int32), o_raised) else if s0 = 0 then some ((3 : Int32), o_raised) else some ((6 : Int32), o_raised)
def fX8_strip (o_all_r : Nat → Int32) (p1 : Int32) : Option (Int32 × Int32) :=
  Option.bind (fX8_in p1 (0 : Int32) (4 : Int32)) fun q8 => if q8 = 0 then some ((-1 : Int32), (0 : Int32)) else if p1 ≤ 0 then Option.bind (fX8_stripShifts o_all_r (1 : Int32)) fun q30 => if q30 ≤ 0 then fX8_strip_41 (0 : Int32) o_all_r (0 : Int32) else fX8_strip_41 (0 : Int32) o_all_r (1 : Int32) else Option.bind (fX8_stripShifts o_all_r (p1 - (1 : Int32))) fun q24 => some (q24, (0 : Int32))
set_option maxHeartbeats 4000000 in
set_option maxRecDepth 100000 in
theorem c_X8_strip (l : Launch) (dC : Nat → ClassId) (dI : Nat → Nat → Nat) (ca : Nat → ClassId) (sa : Nat → Nat) (h_o : Nat) (h_o_plans : Nat) (h_o_makers : Nat) (h_o_halves : Nat) (h_o_all : Nat) (h_o_text : Nat) (h_o_saved : Nat) (h_o_undone : Nat) (h_o_told : Nat) (h_o_shift : Nat) (h_o_rootOf : Nat) (h_o_becomes : Nat) (h_o_comes : Nat) (h_o_next : Nat) (sz : Nat) (o_raised : Int32) (o_undos : Int32) (o_reached : Int32) (o_length : Int32) (o_begin : Int32) (o_letters : Int32) (o_sort : Int32) (o_word : Int64) (o_wrongAt : Int32) (o_badAt : Int32) (o_bad : Int32) (o_firstX : Int32) (o_firstY : Int32) (o_secondX : Int32) (o_secondY : Int32) (o_x : Int32) (o_all_r : Nat → Int32) (p1 : Int32) (res : Int32 × Int32) (hf : fX8_strip o_all_r p1 = some res) : Met l yX8_strip (Cond.code yX8_strip cX8_strip 3 (some .int) :: ds_gw) { frames := 5, cells := 0, slots := 0, locals := 115 } (va_Pc [.ref h_o, .int p1] (ds_Pre dC dI ca sa [(h_o, .inr (7, [.ref h_o_plans, .ref h_o_makers, .ref h_o_halves, .int o_raised, .ref h_o_all, .ref h_o_text, .ref h_o_saved, .ref h_o_undone, .int o_undos, .int o_reached, .int o_length, .int o_begin, .int o_letters, .int o_sort, .long o_word, .int o_wrongAt, .int o_badAt, .int o_bad, .ref h_o_told, .ref h_o_shift, .int o_firstX, .int o_firstY, .int o_secondX, .int o_secondY, .ref h_o_rootOf, .ref h_o_becomes, .ref h_o_comes, .ref h_o_next, .int o_x])), (h_o_all, .inl (ca 0, 350, .inl o_all_r))] sz)) (va_Qi (fun r (_ : Unit) => r = res.1) (ds_B dC dI (va_A [(h_o, .inr (7, [.ref h_o_plans, .ref h_o_makers, .ref h_o_halves, .int o_raised, .ref h_o_all, .ref h_o_text, .ref h_o_saved, .ref h_o_undone, .int o_undos, .int o_reached, .int o_length, .int o_begin, .int o_letters, .int o_sort, .long o_word, .int o_wrongAt, .int o_badAt, .int o_bad, .ref h_o_told, .ref h_o_shift, .int o_firstX, .int o_firstY, .int o_secondX, .int o_secondY, .ref h_o_rootOf, .ref h_o_becomes, .ref h_o_comes, .ref h_o_next, .int o_x])), (h_o_all, .inl (ca 0, 350, .inl o_all_r))] sz) [(h_o, .inr (7, [.ref h_o_plans, .ref h_o_makers, .ref h_o_halves, .int res.2, .ref h_o_all, .ref h_o_text, .ref h_o_saved, .ref h_o_undone, .int o_undos, .int o_reached, .int o_length, .int o_begin, .int o_letters, .int o_sort, .long o_word, .int o_wrongAt, .int o_badAt, .int o_bad, .ref h_o_told, .ref h_o_shift, .int o_firstX, .int o_firstY, .int o_secondX, .int o_secondY, .ref h_o_rootOf, .ref h_o_becomes, .ref h_o_comes, .ref h_o_next, .int o_x])), (h_o_all, .inl (ca 0, 350, .inl o_all_r))]) (va_A [(h_o, .inr (7, [.ref h_o_plans, .ref h_o_makers, .ref h_o_halves, .int o_raised, .ref h_o_all, .ref h_o_text, .ref h_o_saved, .ref h_o_undone, .int o_undos, .int o_reached, .int o_length, .int o_begin, .int o_letters, .int o_sort, .long o_word, .int o_wrongAt, .int o_badAt, .int o_bad, .ref h_o_told, .ref h_o_shift, .int o_firstX, .int o_firstY, .int o_secondX, .int o_secondY, .ref h_o_rootOf, .ref h_o_becomes, .ref h_o_comes, .ref h_o_next, .int o_x])), (h_o_all, .inl (ca 0, 350, .inl o_all_r))] sz)) 0 0 (va_A [(h_o, .inr (7, [.ref h_o_plans, .ref h_o_makers, .ref h_o_halves, .int o_raised, .ref h_o_all, .ref h_o_text, .ref h_o_saved, .ref h_o_undone, .int o_undos, .int o_reached, .int o_length, .int o_begin, .int o_letters, .int o_sort, .long o_word, .int o_wrongAt, .int o_badAt, .int o_bad, .ref h_o_told, .ref h_o_shift, .int o_firstX, .int o_firstY, .int o_secondX, .int o_secondY, .ref h_o_rootOf, .ref h_o_becomes, .ref h_o_comes, .ref h_o_next, .int o_x])), (h_o_all, .inl (ca 0, 350, .inl o_all_r))] sz) := by
  refine Met.ofW (cc := cX8_strip) (maxL := 3) (ret := (some .int)) (by decide) rfl ?_
  intro p e s m args below meth c s₁ B hml hv
  obtain ⟨rfl, hsz, hP, hK, hD0, hE⟩ := hv
  have hx := B.exec
  have hb := B.bytes
  have hr := B.returns
  have hts := atoms_spec (ws := Cond.code yX8_strip cX8_strip 3 (some .int) :: ds_gw) B.pre
  have hg : ∀ {w : Cond}, w ∈ ds_gw → w.before _ s = true := fun h => hts _ (List.mem_cons_of_mem _ h)
  have hown : s.vm.findClass RX8 = some m.cls := findClass_of_methodNamed B.named
  have hlocks := B.notSynchronized
  subst hsz
  have hD := hD0.self (sz := s.heap.size)
  generalize hAe : va_A [(h_o, .inr (7, [.ref h_o_plans, .ref h_o_makers, .ref h_o_halves, .int o_raised, .ref h_o_all, .ref h_o_text, .ref h_o_saved, .ref h_o_undone, .int o_undos, .int o_reached, .int o_length, .int o_begin, .int o_letters, .int o_sort, .long o_word, .int o_wrongAt, .int o_badAt, .int o_bad, .ref h_o_told, .ref h_o_shift, .int o_firstX, .int o_firstY, .int o_secondX, .int o_secondY, .ref h_o_rootOf, .ref h_o_becomes, .ref h_o_comes, .ref h_o_next, .int o_x])), (h_o_all, .inl (ca 0, 350, .inl o_all_r))] s.heap.size = A at hD hE ⊢
  have hA : ∀ q : Nat, s.heap.size ≤ q → A q := fun q h => by rw [← hAe]; exact Or.inr h
  have hS : va_S A s.heap s.heap [] := va_S.rf
  have hl := lv_entry ([.ref h_o, .int p1]) (n := 3) (Nat.le_of_ble_eq_true rfl)
  rw [lg_entry_eq]
  generalize (lg_sl ([.ref h_o, .int p1]) ++ List.replicate (3 - (lg_sl ([.ref h_o, .int p1])).length) Slot.unset).toArray = ls at hl ⊢
  have hl : lv_has ls 3 [(0, .ref h_o), (1, .int p1)] := hl
  obtain ⟨G0, eG0⟩ : ∃ G : (Int32 × Int32) → Prop, G = (fun r => r = res) := ⟨_, rfl⟩
  obtain ⟨rr, hrr⟩ : ∃ z, z = res := ⟨_, rfl⟩
  rw [← hrr] at hf
  have hG : G0 rr := by subst eG0; exact hrr
  refine ds_cap (fun WW h1 h2 => ?_)
  have J_41 : ∀ (s0 : Int32) (o_raised : Int32) (rr : Int32 × Int32) (hf : fX8_strip_41 o_raised o_all_r s0 = some rr) (hG : G0 rr) (H : Heap) (locs : List Loc) (hP : va_P (dC, dI) vwCl [(h_o, .inr (7, [.ref h_o_plans, .ref h_o_makers, .ref h_o_halves, .int o_raised, .ref h_o_all, .ref h_o_text, .ref h_o_saved, .ref h_o_undone, .int o_undos, .int o_reached, .int o_length, .int o_begin, .int o_letters, .int o_sort, .long o_word, .int o_wrongAt, .int o_badAt, .int o_bad, .ref h_o_told, .ref h_o_shift, .int o_firstX, .int o_firstY, .int o_secondX, .int o_secondY, .ref h_o_rootOf, .ref h_o_becomes, .ref h_o_comes, .ref h_o_next, .int o_x])), (h_o_all, .inl (ca 0, 350, .inl o_all_r))] H) (hD : va_D A [(h_o, .inr (7, [.ref h_o_plans, .ref h_o_makers, .ref h_o_halves, .int o_raised, .ref h_o_all, .ref h_o_text, .ref h_o_saved, .ref h_o_undone, .int o_undos, .int o_reached, .int o_length, .int o_begin, .int o_letters, .int o_sort, .long o_word, .int o_wrongAt, .int o_badAt, .int o_bad, .ref h_o_told, .ref h_o_shift, .int o_firstX, .int o_firstY, .int o_secondX, .int o_secondY, .ref h_o_rootOf, .ref h_o_becomes, .ref h_o_comes, .ref h_o_next, .int o_x])), (h_o_all, .inl (ca 0, 350, .inl o_all_r))]) (hS : va_S A s.heap H locs) (ls : Array Slot) (hl : lv_has ls 3 [(0, .ref h_o)]), WW H locs (F0 m 41 ls [.int s0]) := by
    intro s0 o_raised rr hf hG H locs hP hD hS ls hl
    refine h2 ?_
    unfold fX8_strip_41 at hf
    refine lv_istore_n (lv' := [(2, .int s0), (0, .ref h_o)]) hx hb dX8_strip_41 rfl hl (by decide) rfl (fun ls hl => ?_)
    refine lv_aload_n hx hb dX8_strip_42 rfl (lv_at hl 1 rfl) ?_
    refine lv_iconst (v := 2) hx hb dX8_strip_43 (by decide) ?_
    refine lv_iconst (v := 0) hx hb dX8_strip_44 (by decide) ?_
    obtain ⟨q45, hq45, hf⟩ := ds_ob hf
    refine ds_calli (wr := []) (va_runV (As := [.int (2 : Int32), .int (0 : Int32)]) (rest := []) ⟨hx, hb, hml, hown, hts⟩ (c_X8_isStrip l dC dI ca sa h_o h_o_plans h_o_makers h_o_halves h_o_all h_o_text h_o_saved h_o_undone h_o_told h_o_shift h_o_rootOf h_o_becomes h_o_comes h_o_next H.size o_raised o_undos o_reached o_length o_begin o_letters o_sort o_word o_wrongAt o_badAt o_bad o_firstX o_firstY o_secondX o_secondY o_x o_all_r (2 : Int32) (0 : Int32) q45 hq45) (cwV 2 hts (ds_gV kw_795 kw_796 kw_797 kw_597 kw_798) rfl rfl rfl (by decide +kernel) ⟨Nat.le_of_ble_eq_true rfl, Nat.le_of_ble_eq_true rfl⟩) ⟨ds_blind, va_recv hK hP (ci := 7) (q0 := 0) rfl rfl, ds_at hP hD hK hE hS hA [0, 1] rfl rfl _⟩ rfl rfl hl.1 rfl (lv_room (Nat.le_of_ble_eq_true rfl)) dX8_strip_45 ⟨Nat.zero_le _, Nat.zero_le _⟩) hP hD hS hA [0, 1] [] rfl rfl rfl (by decide) (fun H locs hP hD hS => ?_)
    have hP : va_P (dC, dI) vwCl [(h_o, .inr (7, [.ref h_o_plans, .ref h_o_makers, .ref h_o_halves, .int o_raised, .ref h_o_all, .ref h_o_text, .ref h_o_saved, .ref h_o_undone, .int o_undos, .int o_reached, .int o_length, .int o_begin, .int o_letters, .int o_sort, .long o_word, .int o_wrongAt, .int o_badAt, .int o_bad, .ref h_o_told, .ref h_o_shift, .int o_firstX, .int o_firstY, .int o_secondX, .int o_secondY, .ref h_o_rootOf, .ref h_o_becomes, .ref h_o_comes, .ref h_o_next, .int o_x])), (h_o_all, .inl (ca 0, 350, .inl o_all_r))] H := hP
    have hD : va_D A [(h_o, .inr (7, [.ref h_o_plans, .ref h_o_makers, .ref h_o_halves, .int o_raised, .ref h_o_all, .ref h_o_text, .ref h_o_saved, .ref h_o_undone, .int o_undos, .int o_reached, .int o_length, .int o_begin, .int o_letters, .int o_sort, .long o_word, .int o_wrongAt, .int o_badAt, .int o_bad, .ref h_o_told, .ref h_o_shift, .int o_firstX, .int o_firstY, .int o_secondX, .int o_secondY, .ref h_o_rootOf, .ref h_o_becomes, .ref h_o_comes, .ref h_o_next, .int o_x])), (h_o_all, .inl (ca 0, 350, .inl o_all_r))] := hD
    refine lv_if_eq (tgt := 62) hx hb dX8_strip_48 (by decide) (fun c_48 => ?_) (fun c_48 => ?_)
    · replace hf := ds_t c_48 hf
      refine lv_aload_n hx hb dX8_strip_62 rfl (lv_at hl 1 rfl) ?_
      refine lv_iconst (v := 2) hx hb dX8_strip_63 (by decide) ?_
      obtain ⟨q64, hq64, hf⟩ := ds_ob hf
      refine ds_calli (wr := []) (va_runV (As := [.int (2 : Int32)]) (rest := []) ⟨hx, hb, hml, hown, hts⟩ (c_X8_stripShifts l dC dI ca sa h_o h_o_plans h_o_makers h_o_halves h_o_all h_o_text h_o_saved h_o_undone h_o_told h_o_shift h_o_rootOf h_o_becomes h_o_comes h_o_next H.size o_raised o_undos o_reached o_length o_begin o_letters o_sort o_word o_wrongAt o_badAt o_bad o_firstX o_firstY o_secondX o_secondY o_x o_all_r (2 : Int32) q64 hq64) (cwV 1 hts (ds_gV kw_799 kw_800 kw_801 kw_597 kw_802) rfl rfl rfl (by decide +kernel) ⟨Nat.le_of_ble_eq_true rfl, Nat.le_of_ble_eq_true rfl⟩) ⟨ds_blind, va_recv hK hP (ci := 7) (q0 := 0) rfl rfl, ds_at hP hD hK hE hS hA [0, 1] rfl rfl _⟩ rfl rfl hl.1 rfl (lv_room (Nat.le_of_ble_eq_true rfl)) dX8_strip_64 ⟨Nat.zero_le _, Nat.zero_le _⟩) hP hD hS hA [0, 1] [] rfl rfl rfl (by decide) (fun H locs hP hD hS => ?_)
      have hP : va_P (dC, dI) vwCl [(h_o, .inr (7, [.ref h_o_plans, .ref h_o_makers, .ref h_o_halves, .int o_raised, .ref h_o_all, .ref h_o_text, .ref h_o_saved, .ref h_o_undone, .int o_undos, .int o_reached, .int o_length, .int o_begin, .int o_letters, .int o_sort, .long o_word, .int o_wrongAt, .int o_badAt, .int o_bad, .ref h_o_told, .ref h_o_shift, .int o_firstX, .int o_firstY, .int o_secondX, .int o_secondY, .ref h_o_rootOf, .ref h_o_becomes, .ref h_o_comes, .ref h_o_next, .int o_x])), (h_o_all, .inl (ca 0, 350, .inl o_all_r))] H := hP
      have hD : va_D A [(h_o, .inr (7, [.ref h_o_plans, .ref h_o_makers, .ref h_o_halves, .int o_raised, .ref h_o_all, .ref h_o_text, .ref h_o_saved, .ref h_o_undone, .int o_undos, .int o_reached, .int o_length, .int o_begin, .int o_letters, .int o_sort, .long o_word, .int o_wrongAt, .int o_badAt, .int o_bad, .ref h_o_told, .ref h_o_shift, .int o_firstX, .int o_firstY, .int o_secondX, .int o_secondY, .ref h_o_rootOf, .ref h_o_becomes, .ref h_o_comes, .ref h_o_next, .int o_x])), (h_o_all, .inl (ca 0, 350, .inl o_all_r))] := hD
      refine lv_if_le (tgt := 80) hx hb dX8_strip_67 (by decide) (fun c_67 => ?_) (fun c_67 => ?_)
      · replace hf := ds_t c_67 hf
        refine lv_iload_n hx hb dX8_strip_80 rfl (lv_at hl 0 rfl) ?_
        refine lv_if_eq (tgt := 88) hx hb dX8_strip_81 (by decide) (fun c_81 => ?_) (fun c_81 => ?_)
        · replace hf := ds_t c_81 hf
          refine lv_aload_n hx hb dX8_strip_88 rfl (lv_at hl 1 rfl) ?_
          refine lv_iconst (v := 3) hx hb dX8_strip_89 (by decide) ?_
          obtain ⟨q90, hq90, hf⟩ := ds_ob hf
          refine ds_calli (wr := []) (va_runV (As := [.int (3 : Int32)]) (rest := []) ⟨hx, hb, hml, hown, hts⟩ (c_X8_stripShifts l dC dI ca sa h_o h_o_plans h_o_makers h_o_halves h_o_all h_o_text h_o_saved h_o_undone h_o_told h_o_shift h_o_rootOf h_o_becomes h_o_comes h_o_next H.size o_raised o_undos o_reached o_length o_begin o_letters o_sort o_word o_wrongAt o_badAt o_bad o_firstX o_firstY o_secondX o_secondY o_x o_all_r (3 : Int32) q90 hq90) (cwV 1 hts (ds_gV kw_799 kw_800 kw_801 kw_597 kw_802) rfl rfl rfl (by decide +kernel) ⟨Nat.le_of_ble_eq_true rfl, Nat.le_of_ble_eq_true rfl⟩) ⟨ds_blind, va_recv hK hP (ci := 7) (q0 := 0) rfl rfl, ds_at hP hD hK hE hS hA [0, 1] rfl rfl _⟩ rfl rfl hl.1 rfl (lv_room (Nat.le_of_ble_eq_true rfl)) dX8_strip_90 ⟨Nat.zero_le _, Nat.zero_le _⟩) hP hD hS hA [0, 1] [] rfl rfl rfl (by decide) (fun H locs hP hD hS => ?_)
          have hP : va_P (dC, dI) vwCl [(h_o, .inr (7, [.ref h_o_plans, .ref h_o_makers, .ref h_o_halves, .int o_raised, .ref h_o_all, .ref h_o_text, .ref h_o_saved, .ref h_o_undone, .int o_undos, .int o_reached, .int o_length, .int o_begin, .int o_letters, .int o_sort, .long o_word, .int o_wrongAt, .int o_badAt, .int o_bad, .ref h_o_told, .ref h_o_shift, .int o_firstX, .int o_firstY, .int o_secondX, .int o_secondY, .ref h_o_rootOf, .ref h_o_becomes, .ref h_o_comes, .ref h_o_next, .int o_x])), (h_o_all, .inl (ca 0, 350, .inl o_all_r))] H := hP
          have hD : va_D A [(h_o, .inr (7, [.ref h_o_plans, .ref h_o_makers, .ref h_o_halves, .int o_raised, .ref h_o_all, .ref h_o_text, .ref h_o_saved, .ref h_o_undone, .int o_undos, .int o_reached, .int o_length, .int o_begin, .int o_letters, .int o_sort, .long o_word, .int o_wrongAt, .int o_badAt, .int o_bad, .ref h_o_told, .ref h_o_shift, .int o_firstX, .int o_firstY, .int o_secondX, .int o_secondY, .ref h_o_rootOf, .ref h_o_becomes, .ref h_o_comes, .ref h_o_next, .int o_x])), (h_o_all, .inl (ca 0, 350, .inl o_all_r))] := hD
          refine lv_if_le (tgt := 100) hx hb dX8_strip_93 (by decide) (fun c_93 => ?_) (fun c_93 => ?_)
          · replace hf := ds_t c_93 hf
            refine lv_iconst (v := 0) hx hb dX8_strip_100 (by decide) ?_
            have hf := Option.some.inj hf
            subst hf
            rw [eG0] at hG
            have hG : _ = res := hG
            subst hG
            exact W.iret (v := (0 : Int32)) hx hb hr (fun t ht hW => ⟨⟨(0 : Int32), (), rfl, rfl, by rw [ht]; exact hP, hD⟩, hS.F ht⟩) hS.2.2 dX8_strip_101
          · replace hf := ds_f c_93 hf
            refine lv_iconst (v := 1) hx hb dX8_strip_96 (by decide) ?_
            refine lv_goto (tgt := 101) hx hb dX8_strip_97 (by decide) ?_
            have hf := Option.some.inj hf
            subst hf
            rw [eG0] at hG
            have hG : _ = res := hG
            subst hG
            exact W.iret (v := (1 : Int32)) hx hb hr (fun t ht hW => ⟨⟨(1 : Int32), (), rfl, rfl, by rw [ht]; exact hP, hD⟩, hS.F ht⟩) hS.2.2 dX8_strip_101
        · replace hf := ds_f c_81 hf
          refine lv_iconst (v := 2) hx hb dX8_strip_84 (by decide) ?_
          refine lv_goto (tgt := 101) hx hb dX8_strip_85 (by decide) ?_
          have hf := Option.some.inj hf
          subst hf
          rw [eG0] at hG
          have hG : _ = res := hG
          subst hG
          exact W.iret (v := (2 : Int32)) hx hb hr (fun t ht hW => ⟨⟨(2 : Int32), (), rfl, rfl, by rw [ht]; exact hP, hD⟩, hS.F ht⟩) hS.2.2 dX8_strip_101
      · replace hf := ds_f c_67 hf
        refine lv_iload_n hx hb dX8_strip_70 rfl (lv_at hl 0 rfl) ?_
        refine lv_if_eq (tgt := 78) hx hb dX8_strip_71 (by decide) (fun c_71 => ?_) (fun c_71 => ?_)
        · replace hf := ds_t c_71 hf
          refine lv_iconst (v := 4) hx hb dX8_strip_78 (by decide) ?_
          have hf := Option.some.inj hf
          subst hf
          rw [eG0] at hG
          have hG : _ = res := hG
          subst hG
          exact W.iret (v := (4 : Int32)) hx hb hr (fun t ht hW => ⟨⟨(4 : Int32), (), rfl, rfl, by rw [ht]; exact hP, hD⟩, hS.F ht⟩) hS.2.2 dX8_strip_79
        · replace hf := ds_f c_71 hf
          refine lv_iconst (v := 5) hx hb dX8_strip_74 (by decide) ?_
          refine lv_goto (tgt := 79) hx hb dX8_strip_75 (by decide) ?_
          have hf := Option.some.inj hf
          subst hf
          rw [eG0] at hG
          have hG : _ = res := hG
          subst hG
          exact W.iret (v := (5 : Int32)) hx hb hr (fun t ht hW => ⟨⟨(5 : Int32), (), rfl, rfl, by rw [ht]; exact hP, hD⟩, hS.F ht⟩) hS.2.2 dX8_strip_79
    · replace hf := ds_f c_48 hf
      refine lv_iload_n hx hb dX8_strip_51 rfl (lv_at hl 0 rfl) ?_
      refine lv_if_eq (tgt := 60) hx hb dX8_strip_52 (by decide) (fun c_52 => ?_) (fun c_52 => ?_)
      · replace hf := ds_t c_52 hf
        refine lv_iconst (v := 3) hx hb dX8_strip_60 (by decide) ?_
        have hf := Option.some.inj hf
        subst hf
        rw [eG0] at hG
        have hG : _ = res := hG
        subst hG
        exact W.iret (v := (3 : Int32)) hx hb hr (fun t ht hW => ⟨⟨(3 : Int32), (), rfl, rfl, by rw [ht]; exact hP, hD⟩, hS.F ht⟩) hS.2.2 dX8_strip_61
      · replace hf := ds_f c_52 hf
        refine lv_bipush (v := 6) hx hb dX8_strip_55 (by decide) ?_
        refine lv_goto (tgt := 61) hx hb dX8_strip_57 (by decide) ?_
        have hf := Option.some.inj hf
        subst hf
        rw [eG0] at hG
        have hG : _ = res := hG
        subst hG
        exact W.iret (v := (6 : Int32)) hx hb hr (fun t ht hW => ⟨⟨(6 : Int32), (), rfl, rfl, by rw [ht]; exact hP, hD⟩, hS.F ht⟩) hS.2.2 dX8_strip_61
  unfold fX8_strip at hf
  refine lv_aload_n hx hb dX8_strip_0 rfl (lv_at hl 0 rfl) ?_
  refine lv_iconst (v := 0) hx hb dX8_strip_1 (by decide) ?_
  refine va_put (D := (dC, dI)) (ci := 7) (v := .int (0 : Int32)) (ty := tyX8 3) (C := RX8) (T := TX8) (N := 29) hx hb hts (fun w h => List.mem_cons_of_mem _ (kc_X8 w h)) tyX8 tyX8_ok nmX8 hown hK hP hD hS 0 rfl rfl 3 (by decide) (hg kw_564) (fun _ h9 => h9) rfl (by decide +kernel) rfl rfl (Nat.le_of_ble_eq_true rfl) dX8_strip_2 (fun H locs hP hD hS => ?_)
  have hP : va_P (dC, dI) vwCl [(h_o, .inr (7, [.ref h_o_plans, .ref h_o_makers, .ref h_o_halves, .int (0 : Int32), .ref h_o_all, .ref h_o_text, .ref h_o_saved, .ref h_o_undone, .int o_undos, .int o_reached, .int o_length, .int o_begin, .int o_letters, .int o_sort, .long o_word, .int o_wrongAt, .int o_badAt, .int o_bad, .ref h_o_told, .ref h_o_shift, .int o_firstX, .int o_firstY, .int o_secondX, .int o_secondY, .ref h_o_rootOf, .ref h_o_becomes, .ref h_o_comes, .ref h_o_next, .int o_x])), (h_o_all, .inl (ca 0, 350, .inl o_all_r))] H := hP
  have hD : va_D A [(h_o, .inr (7, [.ref h_o_plans, .ref h_o_makers, .ref h_o_halves, .int (0 : Int32), .ref h_o_all, .ref h_o_text, .ref h_o_saved, .ref h_o_undone, .int o_undos, .int o_reached, .int o_length, .int o_begin, .int o_letters, .int o_sort, .long o_word, .int o_wrongAt, .int o_badAt, .int o_bad, .ref h_o_told, .ref h_o_shift, .int o_firstX, .int o_firstY, .int o_secondX, .int o_secondY, .ref h_o_rootOf, .ref h_o_becomes, .ref h_o_comes, .ref h_o_next, .int o_x])), (h_o_all, .inl (ca 0, 350, .inl o_all_r))] := hD
  refine lv_iload_n hx hb dX8_strip_5 rfl (lv_at hl 1 rfl) ?_
  refine lv_iconst (v := 0) hx hb dX8_strip_6 (by decide) ?_
  refine lv_iconst (v := 4) hx hb dX8_strip_7 (by decide) ?_
  obtain ⟨q8, hq8, hf⟩ := ds_ob hf
  refine ds_calli (wr := [(h_o, .inr (7, [.ref h_o_plans, .ref h_o_makers, .ref h_o_halves, .int (0 : Int32), .ref h_o_all, .ref h_o_text, .ref h_o_saved, .ref h_o_undone, .int o_undos, .int o_reached, .int o_length, .int o_begin, .int o_letters, .int o_sort, .long o_word, .int o_wrongAt, .int o_badAt, .int o_bad, .ref h_o_told, .ref h_o_shift, .int o_firstX, .int o_firstY, .int o_secondX, .int o_secondY, .ref h_o_rootOf, .ref h_o_becomes, .ref h_o_comes, .ref h_o_next, .int o_x])), (h_o_all, .inl (ca 0, 350, .inl o_all_r))]) (va_runS (As := [.int p1, .int (0 : Int32), .int (4 : Int32)]) (rest := []) ⟨hx, hb, hml, hown, hts⟩ (c_X8_in l dC dI ca sa  H.size  p1 (0 : Int32) (4 : Int32) q8 hq8) (va_cwS 3 hts (ds_gS kw_619 kw_620 kw_597 kw_621) rfl rfl rfl (by decide +kernel) ⟨Nat.le_of_ble_eq_true rfl, Nat.le_of_ble_eq_true rfl⟩) ⟨ds_blind, ds_at hP hD hK hE hS hA [] rfl rfl _⟩ rfl rfl hl.1 rfl (lv_room (Nat.le_of_ble_eq_true rfl)) dX8_strip_8 ⟨Nat.zero_le _, Nat.zero_le _⟩) hP hD hS hA [] [0, 1] rfl rfl rfl (by decide) (fun H locs hP hD hS => ?_)
  have hP : va_P (dC, dI) vwCl [(h_o, .inr (7, [.ref h_o_plans, .ref h_o_makers, .ref h_o_halves, .int (0 : Int32), .ref h_o_all, .ref h_o_text, .ref h_o_saved, .ref h_o_undone, .int o_undos, .int o_reached, .int o_length, .int o_begin, .int o_letters, .int o_sort, .long o_word, .int o_wrongAt, .int o_badAt, .int o_bad, .ref h_o_told, .ref h_o_shift, .int o_firstX, .int o_firstY, .int o_secondX, .int o_secondY, .ref h_o_rootOf, .ref h_o_becomes, .ref h_o_comes, .ref h_o_next, .int o_x])), (h_o_all, .inl (ca 0, 350, .inl o_all_r))] H := hP
  have hD : va_D A [(h_o, .inr (7, [.ref h_o_plans, .ref h_o_makers, .ref h_o_halves, .int (0 : Int32), .ref h_o_all, .ref h_o_text, .ref h_o_saved, .ref h_o_undone, .int o_undos, .int o_reached, .int o_length, .int o_begin, .int o_letters, .int o_sort, .long o_word, .int o_wrongAt, .int o_badAt, .int o_bad, .ref h_o_told, .ref h_o_shift, .int o_firstX, .int o_firstY, .int o_secondX, .int o_secondY, .ref h_o_rootOf, .ref h_o_becomes, .ref h_o_comes, .ref h_o_next, .int o_x])), (h_o_all, .inl (ca 0, 350, .inl o_all_r))] := hD
  refine lv_if_ne (tgt := 16) hx hb dX8_strip_11 (by decide) (fun c_11 => ?_) (fun c_11 => ?_)
  · replace hf := ds_f c_11 hf
    refine lv_iload_n hx hb dX8_strip_16 rfl (lv_at hl 1 rfl) ?_
    refine lv_if_le (tgt := 28) hx hb dX8_strip_17 (by decide) (fun c_17 => ?_) (fun c_17 => ?_)
    · replace hf := ds_t c_17 hf
      refine lv_aload_n hx hb dX8_strip_28 rfl (lv_at hl 0 rfl) ?_
      refine lv_iconst (v := 1) hx hb dX8_strip_29 (by decide) ?_
      obtain ⟨q30, hq30, hf⟩ := ds_ob hf
      refine ds_calli (wr := []) (va_runV (As := [.int (1 : Int32)]) (rest := []) ⟨hx, hb, hml, hown, hts⟩ (c_X8_stripShifts l dC dI ca sa h_o h_o_plans h_o_makers h_o_halves h_o_all h_o_text h_o_saved h_o_undone h_o_told h_o_shift h_o_rootOf h_o_becomes h_o_comes h_o_next H.size (0 : Int32) o_undos o_reached o_length o_begin o_letters o_sort o_word o_wrongAt o_badAt o_bad o_firstX o_firstY o_secondX o_secondY o_x o_all_r (1 : Int32) q30 hq30) (cwV 1 hts (ds_gV kw_799 kw_800 kw_801 kw_597 kw_802) rfl rfl rfl (by decide +kernel) ⟨Nat.le_of_ble_eq_true rfl, Nat.le_of_ble_eq_true rfl⟩) ⟨ds_blind, va_recv hK hP (ci := 7) (q0 := 0) rfl rfl, ds_at hP hD hK hE hS hA [0, 1] rfl rfl _⟩ rfl rfl hl.1 rfl (lv_room (Nat.le_of_ble_eq_true rfl)) dX8_strip_30 ⟨Nat.zero_le _, Nat.zero_le _⟩) hP hD hS hA [0, 1] [] rfl rfl rfl (by decide) (fun H locs hP hD hS => ?_)
      have hP : va_P (dC, dI) vwCl [(h_o, .inr (7, [.ref h_o_plans, .ref h_o_makers, .ref h_o_halves, .int (0 : Int32), .ref h_o_all, .ref h_o_text, .ref h_o_saved, .ref h_o_undone, .int o_undos, .int o_reached, .int o_length, .int o_begin, .int o_letters, .int o_sort, .long o_word, .int o_wrongAt, .int o_badAt, .int o_bad, .ref h_o_told, .ref h_o_shift, .int o_firstX, .int o_firstY, .int o_secondX, .int o_secondY, .ref h_o_rootOf, .ref h_o_becomes, .ref h_o_comes, .ref h_o_next, .int o_x])), (h_o_all, .inl (ca 0, 350, .inl o_all_r))] H := hP
      have hD : va_D A [(h_o, .inr (7, [.ref h_o_plans, .ref h_o_makers, .ref h_o_halves, .int (0 : Int32), .ref h_o_all, .ref h_o_text, .ref h_o_saved, .ref h_o_undone, .int o_undos, .int o_reached, .int o_length, .int o_begin, .int o_letters, .int o_sort, .long o_word, .int o_wrongAt, .int o_badAt, .int o_bad, .ref h_o_told, .ref h_o_shift, .int o_firstX, .int o_firstY, .int o_secondX, .int o_secondY, .ref h_o_rootOf, .ref h_o_becomes, .ref h_o_comes, .ref h_o_next, .int o_x])), (h_o_all, .inl (ca 0, 350, .inl o_all_r))] := hD
      refine lv_if_le (tgt := 40) hx hb dX8_strip_33 (by decide) (fun c_33 => ?_) (fun c_33 => ?_)
      · replace hf := ds_t c_33 hf
        refine lv_iconst (v := 0) hx hb dX8_strip_40 (by decide) ?_
        exact h1 (J_41 (0 : Int32) (0 : Int32) _ hf hG _ _ hP hD hS _ (lv_sub hl [0] rfl))
      · replace hf := ds_f c_33 hf
        refine lv_iconst (v := 1) hx hb dX8_strip_36 (by decide) ?_
        refine lv_goto (tgt := 41) hx hb dX8_strip_37 (by decide) ?_
        exact h1 (J_41 (1 : Int32) (0 : Int32) _ hf hG _ _ hP hD hS _ (lv_sub hl [0] rfl))
    · replace hf := ds_f c_17 hf
      refine lv_aload_n hx hb dX8_strip_20 rfl (lv_at hl 0 rfl) ?_
      refine lv_iload_n hx hb dX8_strip_21 rfl (lv_at hl 1 rfl) ?_
      refine lv_iconst (v := 1) hx hb dX8_strip_22 (by decide) ?_
      refine lv_isub hx hb dX8_strip_23 ?_
      obtain ⟨q24, hq24, hf⟩ := ds_ob hf
      refine ds_calli (wr := []) (va_runV (As := [.int (p1 - (1 : Int32))]) (rest := []) ⟨hx, hb, hml, hown, hts⟩ (c_X8_stripShifts l dC dI ca sa h_o h_o_plans h_o_makers h_o_halves h_o_all h_o_text h_o_saved h_o_undone h_o_told h_o_shift h_o_rootOf h_o_becomes h_o_comes h_o_next H.size (0 : Int32) o_undos o_reached o_length o_begin o_letters o_sort o_word o_wrongAt o_badAt o_bad o_firstX o_firstY o_secondX o_secondY o_x o_all_r (p1 - (1 : Int32)) q24 hq24) (cwV 1 hts (ds_gV kw_799 kw_800 kw_801 kw_597 kw_802) rfl rfl rfl (by decide +kernel) ⟨Nat.le_of_ble_eq_true rfl, Nat.le_of_ble_eq_true rfl⟩) ⟨ds_blind, va_recv hK hP (ci := 7) (q0 := 0) rfl rfl, ds_at hP hD hK hE hS hA [0, 1] rfl rfl _⟩ rfl rfl hl.1 rfl (lv_room (Nat.le_of_ble_eq_true rfl)) dX8_strip_24 ⟨Nat.zero_le _, Nat.zero_le _⟩) hP hD hS hA [0, 1] [] rfl rfl rfl (by decide) (fun H locs hP hD hS => ?_)
      have hP : va_P (dC, dI) vwCl [(h_o, .inr (7, [.ref h_o_plans, .ref h_o_makers, .ref h_o_halves, .int (0 : Int32), .ref h_o_all, .ref h_o_text, .ref h_o_saved, .ref h_o_undone, .int o_undos, .int o_reached, .int o_length, .int o_begin, .int o_letters, .int o_sort, .long o_word, .int o_wrongAt, .int o_badAt, .int o_bad, .ref h_o_told, .ref h_o_shift, .int o_firstX, .int o_firstY, .int o_secondX, .int o_secondY, .ref h_o_rootOf, .ref h_o_becomes, .ref h_o_comes, .ref h_o_next, .int o_x])), (h_o_all, .inl (ca 0, 350, .inl o_all_r))] H := hP
      have hD : va_D A [(h_o, .inr (7, [.ref h_o_plans, .ref h_o_makers, .ref h_o_halves, .int (0 : Int32), .ref h_o_all, .ref h_o_text, .ref h_o_saved, .ref h_o_undone, .int o_undos, .int o_reached, .int o_length, .int o_begin, .int o_letters, .int o_sort, .long o_word, .int o_wrongAt, .int o_badAt, .int o_bad, .ref h_o_told, .ref h_o_shift, .int o_firstX, .int o_firstY, .int o_secondX, .int o_secondY, .ref h_o_rootOf, .ref h_o_becomes, .ref h_o_comes, .ref h_o_next, .int o_x])), (h_o_all, .inl (ca 0, 350, .inl o_all_r))] := hD
      have hf := Option.some.inj hf
      subst hf
      rw [eG0] at hG
      have hG : _ = res := hG
      subst hG
      exact W.iret (v := q24) hx hb hr (fun t ht hW => ⟨⟨q24, (), rfl, rfl, by rw [ht]; exact hP, hD⟩, hS.F ht⟩) hS.2.2 dX8_strip_27
  · replace hf := ds_t c_11 hf
    refine lv_iconst (v := -1) hx hb dX8_strip_14 (by decide) ?_
    have hf := Option.some.inj hf
    subst hf
    rw [eG0] at hG
    have hG : _ = res := hG
    subst hG
    exact W.iret (v := (-1 : Int32)) hx hb hr (fun t ht hW => ⟨⟨(-1 : Int32), (), rfl, rfl, by rw [ht]; exact hP, hD⟩, hS.F ht⟩) hS.2.2 dX8_strip_15
theorem dX8_isColoured_0 : decode cX8_isColoured 0 = .ok (.iconst 0, 1) := by decide +kernel
theorem dX8_isColoured_1 : decode cX8_isColoured 1 = .ok (.istore 4, 2) := by decide +kernel
theorem dX8_isColoured_3 : decode cX8_isColoured 3 = .ok (.iload 4, 2) := by decide +kernel
theorem dX8_isColoured_5 : decode cX8_isColoured 5 = .ok (.iconst 4, 1) := by decide +kernel
theorem dX8_isColoured_6 : decode cX8_isColoured 6 = .ok (.if_icmp .ge 25, 3) := by decide +kernel
theorem dX8_isColoured_9 : decode cX8_isColoured 9 = .ok (.aload_n 0, 1) := by decide +kernel
theorem dX8_isColoured_10 : decode cX8_isColoured 10 = .ok (.getfield 42, 3) := by decide +kernel
theorem dX8_isColoured_13 : decode cX8_isColoured 13 = .ok (.iload 4, 2) := by decide +kernel
theorem dX8_isColoured_15 : decode cX8_isColoured 15 = .ok (.iconst (-1), 1) := by decide +kernel
theorem dX8_isColoured_16 : decode cX8_isColoured 16 = .ok (.iastore, 1) := by decide +kernel
theorem dX8_isColoured_17 : decode cX8_isColoured 17 = .ok (.aload_n 0, 1) := by decide +kernel
theorem dX8_isColoured_18 : decode cX8_isColoured 18 = .ok (.getfield 45, 3) := by decide +kernel
theorem dX8_isColoured_21 : decode cX8_isColoured 21 = .ok (.iload 4, 2) := by decide +kernel
theorem dX8_isColoured_23 : decode cX8_isColoured 23 = .ok (.iconst (-1), 1) := by decide +kernel
theorem dX8_isColoured_24 : decode cX8_isColoured 24 = .ok (.iastore, 1) := by decide +kernel
theorem dX8_isColoured_25 : decode cX8_isColoured 25 = .ok (.iinc 4 1, 3) := by decide +kernel
theorem dX8_isColoured_28 : decode cX8_isColoured 28 = .ok (.goto (-25), 3) := by decide +kernel
theorem dX8_isColoured_31 : decode cX8_isColoured 31 = .ok (.iconst 0, 1) := by decide +kernel
theorem dX8_isColoured_32 : decode cX8_isColoured 32 = .ok (.istore 4, 2) := by decide +kernel
theorem dX8_isColoured_34 : decode cX8_isColoured 34 = .ok (.iload 4, 2) := by decide +kernel
theorem dX8_isColoured_36 : decode cX8_isColoured 36 = .ok (.aload_n 0, 1) := by decide +kernel
theorem dX8_isColoured_37 : decode cX8_isColoured 37 = .ok (.getfield 19, 3) := by decide +kernel
theorem dX8_isColoured_40 : decode cX8_isColoured 40 = .ok (.iconst 1, 1) := by decide +kernel
theorem dX8_isColoured_41 : decode cX8_isColoured 41 = .ok (.iaload, 1) := by decide +kernel
theorem dX8_isColoured_42 : decode cX8_isColoured 42 = .ok (.if_icmp .ge 133, 3) := by decide +kernel
theorem dX8_isColoured_45 : decode cX8_isColoured 45 = .ok (.iconst 0, 1) := by decide +kernel
theorem dX8_isColoured_46 : decode cX8_isColoured 46 = .ok (.istore 5, 2) := by decide +kernel
theorem dX8_isColoured_48 : decode cX8_isColoured 48 = .ok (.iload 5, 2) := by decide +kernel
theorem dX8_isColoured_50 : decode cX8_isColoured 50 = .ok (.aload_n 0, 1) := by decide +kernel
theorem dX8_isColoured_51 : decode cX8_isColoured 51 = .ok (.getfield 19, 3) := by decide +kernel
theorem dX8_isColoured_54 : decode cX8_isColoured 54 = .ok (.iconst 0, 1) := by decide +kernel
theorem dX8_isColoured_55 : decode cX8_isColoured 55 = .ok (.iaload, 1) := by decide +kernel
theorem dX8_isColoured_56 : decode cX8_isColoured 56 = .ok (.if_icmp .ge 113, 3) := by decide +kernel
theorem dX8_isColoured_59 : decode cX8_isColoured 59 = .ok (.aload_n 0, 1) := by decide +kernel
theorem dX8_isColoured_60 : decode cX8_isColoured 60 = .ok (.iload 5, 2) := by decide +kernel
theorem dX8_isColoured_62 : decode cX8_isColoured 62 = .ok (.iload 4, 2) := by decide +kernel
theorem dX8_isColoured_64 : decode cX8_isColoured 64 = .ok (.invokevirtual 127, 3) := by decide +kernel
theorem dX8_isColoured_67 : decode cX8_isColoured 67 = .ok (.istore 6, 2) := by decide +kernel
theorem dX8_isColoured_69 : decode cX8_isColoured 69 = .ok (.aload_n 0, 1) := by decide +kernel
theorem dX8_isColoured_70 : decode cX8_isColoured 70 = .ok (.aload_n 0, 1) := by decide +kernel
theorem dX8_isColoured_71 : decode cX8_isColoured 71 = .ok (.iload_n 1, 1) := by decide +kernel
theorem dX8_isColoured_72 : decode cX8_isColoured 72 = .ok (.iload 5, 2) := by decide +kernel
theorem dX8_isColoured_74 : decode cX8_isColoured 74 = .ok (.iload 4, 2) := by decide +kernel
theorem dX8_isColoured_76 : decode cX8_isColoured 76 = .ok (.invokevirtual 130, 3) := by decide +kernel
theorem dX8_isColoured_79 : decode cX8_isColoured 79 = .ok (.iload_n 2, 1) := by decide +kernel
theorem dX8_isColoured_80 : decode cX8_isColoured 80 = .ok (.iadd, 1) := by decide +kernel
theorem dX8_isColoured_81 : decode cX8_isColoured 81 = .ok (.aload_n 0, 1) := by decide +kernel
theorem dX8_isColoured_82 : decode cX8_isColoured 82 = .ok (.iload_n 1, 1) := by decide +kernel
theorem dX8_isColoured_83 : decode cX8_isColoured 83 = .ok (.iload 5, 2) := by decide +kernel
theorem dX8_isColoured_85 : decode cX8_isColoured 85 = .ok (.iload 4, 2) := by decide +kernel
theorem dX8_isColoured_87 : decode cX8_isColoured 87 = .ok (.invokevirtual 134, 3) := by decide +kernel
theorem dX8_isColoured_90 : decode cX8_isColoured 90 = .ok (.iload_n 3, 1) := by decide +kernel
theorem dX8_isColoured_91 : decode cX8_isColoured 91 = .ok (.iadd, 1) := by decide +kernel
theorem dX8_isColoured_92 : decode cX8_isColoured 92 = .ok (.invokevirtual 127, 3) := by decide +kernel
theorem dX8_isColoured_95 : decode cX8_isColoured 95 = .ok (.istore 7, 2) := by decide +kernel
theorem dX8_isColoured_97 : decode cX8_isColoured 97 = .ok (.aload_n 0, 1) := by decide +kernel
theorem dX8_isColoured_98 : decode cX8_isColoured 98 = .ok (.getfield 42, 3) := by decide +kernel
theorem dX8_isColoured_101 : decode cX8_isColoured 101 = .ok (.iload 6, 2) := by decide +kernel
theorem dX8_isColoured_103 : decode cX8_isColoured 103 = .ok (.iaload, 1) := by decide +kernel
theorem dX8_isColoured_104 : decode cX8_isColoured 104 = .ok (.iconst (-1), 1) := by decide +kernel
theorem dX8_isColoured_105 : decode cX8_isColoured 105 = .ok (.if_icmp .eq 15, 3) := by decide +kernel
theorem dX8_isColoured_108 : decode cX8_isColoured 108 = .ok (.aload_n 0, 1) := by decide +kernel
theorem dX8_isColoured_109 : decode cX8_isColoured 109 = .ok (.getfield 42, 3) := by decide +kernel
theorem dX8_isColoured_112 : decode cX8_isColoured 112 = .ok (.iload 6, 2) := by decide +kernel
theorem dX8_isColoured_114 : decode cX8_isColoured 114 = .ok (.iaload, 1) := by decide +kernel
theorem dX8_isColoured_115 : decode cX8_isColoured 115 = .ok (.iload 7, 2) := by decide +kernel
theorem dX8_isColoured_117 : decode cX8_isColoured 117 = .ok (.if_icmp .ne 26, 3) := by decide +kernel
theorem dX8_isColoured_120 : decode cX8_isColoured 120 = .ok (.aload_n 0, 1) := by decide +kernel
theorem dX8_isColoured_121 : decode cX8_isColoured 121 = .ok (.getfield 45, 3) := by decide +kernel
theorem dX8_isColoured_124 : decode cX8_isColoured 124 = .ok (.iload 7, 2) := by decide +kernel
theorem dX8_isColoured_126 : decode cX8_isColoured 126 = .ok (.iaload, 1) := by decide +kernel
theorem dX8_isColoured_127 : decode cX8_isColoured 127 = .ok (.iconst (-1), 1) := by decide +kernel
theorem dX8_isColoured_128 : decode cX8_isColoured 128 = .ok (.if_icmp .eq 17, 3) := by decide +kernel
theorem dX8_isColoured_131 : decode cX8_isColoured 131 = .ok (.aload_n 0, 1) := by decide +kernel
theorem dX8_isColoured_132 : decode cX8_isColoured 132 = .ok (.getfield 45, 3) := by decide +kernel
theorem dX8_isColoured_135 : decode cX8_isColoured 135 = .ok (.iload 7, 2) := by decide +kernel
theorem dX8_isColoured_137 : decode cX8_isColoured 137 = .ok (.iaload, 1) := by decide +kernel
theorem dX8_isColoured_138 : decode cX8_isColoured 138 = .ok (.iload 6, 2) := by decide +kernel
theorem dX8_isColoured_140 : decode cX8_isColoured 140 = .ok (.if_icmp .eq 5, 3) := by decide +kernel
theorem dX8_isColoured_143 : decode cX8_isColoured 143 = .ok (.iconst 0, 1) := by decide +kernel
theorem dX8_isColoured_144 : decode cX8_isColoured 144 = .ok (.ireturn, 1) := by decide +kernel
theorem dX8_isColoured_145 : decode cX8_isColoured 145 = .ok (.aload_n 0, 1) := by decide +kernel
theorem dX8_isColoured_146 : decode cX8_isColoured 146 = .ok (.getfield 42, 3) := by decide +kernel
theorem dX8_isColoured_149 : decode cX8_isColoured 149 = .ok (.iload 6, 2) := by decide +kernel
theorem dX8_isColoured_151 : decode cX8_isColoured 151 = .ok (.iload 7, 2) := by decide +kernel
theorem dX8_isColoured_153 : decode cX8_isColoured 153 = .ok (.iastore, 1) := by decide +kernel
theorem dX8_isColoured_154 : decode cX8_isColoured 154 = .ok (.aload_n 0, 1) := by decide +kernel
theorem dX8_isColoured_155 : decode cX8_isColoured 155 = .ok (.getfield 45, 3) := by decide +kernel
theorem dX8_isColoured_158 : decode cX8_isColoured 158 = .ok (.iload 7, 2) := by decide +kernel
theorem dX8_isColoured_160 : decode cX8_isColoured 160 = .ok (.iload 6, 2) := by decide +kernel
theorem dX8_isColoured_162 : decode cX8_isColoured 162 = .ok (.iastore, 1) := by decide +kernel
theorem dX8_isColoured_163 : decode cX8_isColoured 163 = .ok (.iinc 5 1, 3) := by decide +kernel
theorem dX8_isColoured_166 : decode cX8_isColoured 166 = .ok (.goto (-118), 3) := by decide +kernel
theorem dX8_isColoured_169 : decode cX8_isColoured 169 = .ok (.iinc 4 1, 3) := by decide +kernel
theorem dX8_isColoured_172 : decode cX8_isColoured 172 = .ok (.goto (-138), 3) := by decide +kernel
theorem dX8_isColoured_175 : decode cX8_isColoured 175 = .ok (.iconst 1, 1) := by decide +kernel
theorem dX8_isColoured_176 : decode cX8_isColoured 176 = .ok (.ireturn, 1) := by decide +kernel
def fX8_isColoured_169 (o_becomes_r : Nat → Int32) (o_comes_r : Nat → Int32) (v4 : Int32) : Option ((Int32 × (Nat → Int32) × (Nat → Int32)) ⊕ (Int32 × (Nat → Int32) × (Nat → Int32))) :=
  some (.inl ((v4 + 1), o_becomes_r, o_comes_r))
def fX8_isColoured_145 (o_becomes_r : Nat → Int32) (o_comes_r : Nat → Int32) (v5 : Int32) (v6 : Int32) (v7 : Int32) : Option ((Int32 × (Nat → Int32) × (Nat → Int32)) ⊕ ((Int32 × (Nat → Int32) × (Nat → Int32)) ⊕ (Int32 × (Nat → Int32) × (Nat → Int32)))) :=
  if ds_in v6 4 = true then if ds_in v7 4 = true then some (.inl ((v5 + 1), (upd o_becomes_r v6.toNatClampNeg v7), (upd o_comes_r v7.toNatClampNeg v6))) else none else none
def fX8_isColoured_120 (o_becomes_r : Nat → Int32) (o_comes_r : Nat → Int32) (v5 : Int32) (v6 : Int32) (v7 : Int32) : Option ((Int32 × (Nat → Int32) × (Nat → Int32)) ⊕ ((Int32 × (Nat → Int32) × (Nat → Int32)) ⊕ (Int32 × (Nat → Int32) × (Nat → Int32)))) :=
  if ds_in v7 4 = true then if (o_comes_r v7.toNatClampNeg) = (-1 : Int32) then fX8_isColoured_145 o_becomes_r o_comes_r v5 v6 v7 else if ds_in v7 4 = true then if (o_comes_r v7.toNatClampNeg) = v6 then fX8_isColoured_145 o_becomes_r o_comes_r v5 v6 v7 else some (.inr (.inr ((0 : Int32), o_becomes_r, o_comes_r))) else none else none
def fX8_isColoured_48_b (o_all_r : Nat → Int32) (o_plans_r : Nat → Int32) (p1 : Int32) (p2 : Int32) (p3 : Int32) (v4 : Int32) (v5 : Int32) (o_becomes_r : Nat → Int32) (o_comes_r : Nat → Int32) : Option ((Int32 × (Nat → Int32) × (Nat → Int32)) ⊕ ((Int32 × (Nat → Int32) × (Nat → Int32)) ⊕ (Int32 × (Nat → Int32) × (Nat → Int32)))) :=
  if (o_all_r (0 : Int32).toNatClampNeg) ≤ v5 then Option.bind (fX8_isColoured_169 o_becomes_r o_comes_r v4) fun z => some (.inr z) else Option.bind (fX8_colour o_all_r v5 v4) fun q64 => Option.bind (fX8_turnX o_all_r o_plans_r p1 v5 v4) fun q76 => Option.bind (fX8_turnY o_all_r o_plans_r p1 v5 v4) fun q87 => Option.bind (fX8_colour o_all_r (q76 + p2) (q87 + p3)) fun q92 => if ds_in q64 4 = true then if (o_becomes_r q64.toNatClampNeg) = (-1 : Int32) then fX8_isColoured_120 o_becomes_r o_comes_r v5 q64 q92 else if ds_in q64 4 = true then if (o_becomes_r q64.toNatClampNeg) = q92 then fX8_isColoured_120 o_becomes_r o_comes_r v5 q64 q92 else some (.inr (.inr ((0 : Int32), o_becomes_r, o_comes_r))) else none else none
def fX8_isColoured_48 (o_all_r : Nat → Int32) (o_plans_r : Nat → Int32) (p1 : Int32) (p2 : Int32) (p3 : Int32) (v4 : Int32) (v5 : Int32) (o_becomes_r : Nat → Int32) (o_comes_r : Nat → Int32) : Option ((Int32 × (Nat → Int32) × (Nat → Int32)) ⊕ (Int32 × (Nat → Int32) × (Nat → Int32))) := ds_it (fun s => fX8_isColoured_48_b o_all_r o_plans_r p1 p2 p3 v4 s.1 s.2.1 s.2.2) 1000 (v5, o_becomes_r, o_comes_r)
def fX8_isColoured_34_b (o_all_r : Nat → Int32) (o_plans_r : Nat → Int32) (p1 : Int32) (p2 : Int32) (p3 : Int32) (v4 : Int32) (o_becomes_r : Nat → Int32) (o_comes_r : Nat → Int32) : Option ((Int32 × (Nat → Int32) × (Nat → Int32)) ⊕ (Int32 × (Nat → Int32) × (Nat → Int32))) :=
  if (o_all_r (1 : Int32).toNatClampNeg) ≤ v4 then some (.inr ((1 : Int32), o_becomes_r, o_comes_r)) else fX8_isColoured_48 o_all_r o_plans_r p1 p2 p3 v4 (0 : Int32) o_becomes_r o_comes_r
def fX8_isColoured_34 (o_all_r : Nat → Int32) (o_plans_r : Nat → Int32) (p1 : Int32) (p2 : Int32) (p3 : Int32) (v4 : Int32) (o_becomes_r : Nat → Int32) (o_comes_r : Nat → Int32) : Option (Int32 × (Nat → Int32) × (Nat → Int32)) := ds_it (fun s => fX8_isColoured_34_b o_all_r o_plans_r p1 p2 p3 s.1 s.2.1 s.2.2) 1000 (v4, o_becomes_r, o_comes_r)
def fX8_isColoured_31 (o_becomes_r : Nat → Int32) (o_comes_r : Nat → Int32) (o_all_r : Nat → Int32) (o_plans_r : Nat → Int32) (p1 : Int32) (p2 : Int32) (p3 : Int32) : Option (Int32 × (Nat → Int32) × (Nat → Int32)) :=
  fX8_isColoured_34 o_all_r o_plans_r p1 p2 p3 (0 : Int32) o_becomes_r o_comes_r
def fX8_isColoured_3_b (o_all_r : Nat → Int32) (o_plans_r : Nat → Int32) (p1 : Int32) (p2 : Int32) (p3 : Int32) (v4 : Int32) (o_becomes_r : Nat → Int32) (o_comes_r : Nat → Int32) : Option ((Int32 × (Nat → Int32) × (Nat → Int32)) ⊕ (Int32 × (Nat → Int32) × (Nat → Int32))) :=
  if (4 : Int32) ≤ v4 then Option.bind (fX8_isColoured_31 o_becomes_r o_comes_r o_all_r o_plans_r p1 p2 p3) fun z => some (.inr z) else if ds_in v4 4 = true then if ds_in v4 4 = true then some (.inl ((v4 + 1), (upd o_becomes_r v4.toNatClampNeg (-1 : Int32)), (upd o_comes_r v4.toNatClampNeg (-1 : Int32)))) else none else none
def fX8_isColoured_3 (o_all_r : Nat → Int32) (o_plans_r : Nat → Int32) (p1 : Int32) (p2 : Int32) (p3 : Int32) (v4 : Int32) (o_becomes_r : Nat → Int32) (o_comes_r : Nat → Int32) : Option (Int32 × (Nat → Int32) × (Nat → Int32)) := ds_it (fun s => fX8_isColoured_3_b o_all_r o_plans_r p1 p2 p3 s.1 s.2.1 s.2.2) 1000 (v4, o_becomes_r, o_comes_r)
def fX8_isColoured (o_becomes_r : Nat → Int32) (o_comes_r : Nat → Int32) (o_all_r : Nat → Int32) (o_plans_r : Nat → Int32) (p1 : Int32) (p2 : Int32) (p3 : Int32) : Option (Int32 × (Nat → Int32) × (Nat → Int32)) :=
  fX8_isColoured_3 o_all_r o_plans_r p1 p2 p3 (0 : Int32) o_becomes_r o_comes_r
set_option maxHeartbeats 4000000 in
set_option maxRecDepth 100000 in
theorem c_X8_isColoured (l : Launch) (dC : Nat → ClassId) (dI : Nat → Nat → Nat) (ca : Nat → ClassId) (sa : Nat → Nat) (h_o : Nat) (h_o_plans : Nat) (h_o_makers : Nat) (h_o_halves : Nat) (h_o_all : Nat) (h_o_text : Nat) (h_o_saved : Nat) (h_o_undone : Nat) (h_o_told : Nat) (h_o_shift : Nat) (h_o_rootOf : Nat) (h_o_becomes : Nat) (h_o_comes : Nat) (h_o_next : Nat) (sz : Nat) (o_raised : Int32) (o_undos : Int32) (o_reached : Int32) (o_length : Int32) (o_begin : Int32) (o_letters : Int32) (o_sort : Int32) (o_word : Int64) (o_wrongAt : Int32) (o_badAt : Int32) (o_bad : Int32) (o_firstX : Int32) (o_firstY : Int32) (o_secondX : Int32) (o_secondY : Int32) (o_x : Int32) (o_becomes_r : Nat → Int32) (o_comes_r : Nat → Int32) (o_all_r : Nat → Int32) (o_plans_r : Nat → Int32) (p1 : Int32) (p2 : Int32) (p3 : Int32) (res : Int32 × (Nat → Int32) × (Nat → Int32)) (hf : fX8_isColoured o_becomes_r o_comes_r o_all_r o_plans_r p1 p2 p3 = some res) : Met l yX8_isColoured (Cond.code yX8_isColoured cX8_isColoured 8 (some .boolean) :: ds_gw) { frames := 3, cells := 0, slots := 0, locals := 66 } (va_Pc [.ref h_o, .int p1, .int p2, .int p3] (ds_Pre dC dI ca sa [(h_o, .inr (7, [.ref h_o_plans, .ref h_o_makers, .ref h_o_halves, .int o_raised, .ref h_o_all, .ref h_o_text, .ref h_o_saved, .ref h_o_undone, .int o_undos, .int o_reached, .int o_length, .int o_begin, .int o_letters, .int o_sort, .long o_word, .int o_wrongAt, .int o_badAt, .int o_bad, .ref h_o_told, .ref h_o_shift, .int o_firstX, .int o_firstY, .int o_secondX, .int o_secondY, .ref h_o_rootOf, .ref h_o_becomes, .ref h_o_comes, .ref h_o_next, .int o_x])), (h_o_becomes, .inl (ca 0, 4, .inl o_becomes_r)), (h_o_comes, .inl (ca 0, 4, .inl o_comes_r)), (h_o_all, .inl (ca 0, 350, .inl o_all_r)), (h_o_plans, .inl (ca 0, 80, .inl o_plans_r))] sz)) (va_Qi (fun r (_ : Unit) => r = res.1) (ds_B dC dI (va_A [(h_o, .inr (7, [.ref h_o_plans, .ref h_o_makers, .ref h_o_halves, .int o_raised, .ref h_o_all, .ref h_o_text, .ref h_o_saved, .ref h_o_undone, .int o_undos, .int o_reached, .int o_length, .int o_begin, .int o_letters, .int o_sort, .long o_word, .int o_wrongAt, .int o_badAt, .int o_bad, .ref h_o_told, .ref h_o_shift, .int o_firstX, .int o_firstY, .int o_secondX, .int o_secondY, .ref h_o_rootOf, .ref h_o_becomes, .ref h_o_comes, .ref h_o_next, .int o_x])), (h_o_becomes, .inl (ca 0, 4, .inl o_becomes_r)), (h_o_comes, .inl (ca 0, 4, .inl o_comes_r)), (h_o_all, .inl (ca 0, 350, .inl o_all_r)), (h_o_plans, .inl (ca 0, 80, .inl o_plans_r))] sz) [(h_o, .inr (7, [.ref h_o_plans, .ref h_o_makers, .ref h_o_halves, .int o_raised, .ref h_o_all, .ref h_o_text, .ref h_o_saved, .ref h_o_undone, .int o_undos, .int o_reached, .int o_length, .int o_begin, .int o_letters, .int o_sort, .long o_word, .int o_wrongAt, .int o_badAt, .int o_bad, .ref h_o_told, .ref h_o_shift, .int o_firstX, .int o_firstY, .int o_secondX, .int o_secondY, .ref h_o_rootOf, .ref h_o_becomes, .ref h_o_comes, .ref h_o_next, .int o_x])), (h_o_becomes, .inl (ca 0, 4, .inl res.2.1)), (h_o_comes, .inl (ca 0, 4, .inl res.2.2)), (h_o_all, .inl (ca 0, 350, .inl o_all_r)), (h_o_plans, .inl (ca 0, 80, .inl o_plans_r))]) (va_A [(h_o, .inr (7, [.ref h_o_plans, .ref h_o_makers, .ref h_o_halves, .int o_raised, .ref h_o_all, .ref h_o_text, .ref h_o_saved, .ref h_o_undone, .int o_undos, .int o_reached, .int o_length, .int o_begin, .int o_letters, .int o_sort, .long o_word, .int o_wrongAt, .int o_badAt, .int o_bad, .ref h_o_told, .ref h_o_shift, .int o_firstX, .int o_firstY, .int o_secondX, .int o_secondY, .ref h_o_rootOf, .ref h_o_becomes, .ref h_o_comes, .ref h_o_next, .int o_x])), (h_o_becomes, .inl (ca 0, 4, .inl o_becomes_r)), (h_o_comes, .inl (ca 0, 4, .inl o_comes_r)), (h_o_all, .inl (ca 0, 350, .inl o_all_r)), (h_o_plans, .inl (ca 0, 80, .inl o_plans_r))] sz)) 0 0 (va_A [(h_o, .inr (7, [.ref h_o_plans, .ref h_o_makers, .ref h_o_halves, .int o_raised, .ref h_o_all, .ref h_o_text, .ref h_o_saved, .ref h_o_undone, .int o_undos, .int o_reached, .int o_length, .int o_begin, .int o_letters, .int o_sort, .long o_word, .int o_wrongAt, .int o_badAt, .int o_bad, .ref h_o_told, .ref h_o_shift, .int o_firstX, .int o_firstY, .int o_secondX, .int o_secondY, .ref h_o_rootOf, .ref h_o_becomes, .ref h_o_comes, .ref h_o_next, .int o_x])), (h_o_becomes, .inl (ca 0, 4, .inl o_becomes_r)), (h_o_comes, .inl (ca 0, 4, .inl o_comes_r)), (h_o_all, .inl (ca 0, 350, .inl o_all_r)), (h_o_plans, .inl (ca 0, 80, .inl o_plans_r))] sz) := by
  refine Met.ofW (cc := cX8_isColoured) (maxL := 8) (ret := (some .boolean)) (by decide) rfl ?_
  intro p e s m args below meth c s₁ B hml hv
  obtain ⟨rfl, hsz, hP, hK, hD0, hE⟩ := hv
  have hx := B.exec
  have hb := B.bytes
  have hr := B.returns
  have hts := atoms_spec (ws := Cond.code yX8_isColoured cX8_isColoured 8 (some .boolean) :: ds_gw) B.pre
  have hg : ∀ {w : Cond}, w ∈ ds_gw → w.before _ s = true := fun h => hts _ (List.mem_cons_of_mem _ h)
  have hown : s.vm.findClass RX8 = some m.cls := findClass_of_methodNamed B.named
  have hlocks := B.notSynchronized
  subst hsz
  have hD := hD0.self (sz := s.heap.size)
  generalize hAe : va_A [(h_o, .inr (7, [.ref h_o_plans, .ref h_o_makers, .ref h_o_halves, .int o_raised, .ref h_o_all, .ref h_o_text, .ref h_o_saved, .ref h_o_undone, .int o_undos, .int o_reached, .int o_length, .int o_begin, .int o_letters, .int o_sort, .long o_word, .int o_wrongAt, .int o_badAt, .int o_bad, .ref h_o_told, .ref h_o_shift, .int o_firstX, .int o_firstY, .int o_secondX, .int o_secondY, .ref h_o_rootOf, .ref h_o_becomes, .ref h_o_comes, .ref h_o_next, .int o_x])), (h_o_becomes, .inl (ca 0, 4, .inl o_becomes_r)), (h_o_comes, .inl (ca 0, 4, .inl o_comes_r)), (h_o_all, .inl (ca 0, 350, .inl o_all_r)), (h_o_plans, .inl (ca 0, 80, .inl o_plans_r))] s.heap.size = A at hD hE ⊢
  have hA : ∀ q : Nat, s.heap.size ≤ q → A q := fun q h => by rw [← hAe]; exact Or.inr h
  have hS : va_S A s.heap s.heap [] := va_S.rf
  have hl := lv_entry ([.ref h_o, .int p1, .int p2, .int p3]) (n := 8) (Nat.le_of_ble_eq_true rfl)
  rw [lg_entry_eq]
  generalize (lg_sl ([.ref h_o, .int p1, .int p2, .int p3]) ++ List.replicate (8 - (lg_sl ([.ref h_o, .int p1, .int p2, .int p3])).length) Slot.unset).toArray = ls at hl ⊢
  have hl : lv_has ls 8 [(0, .ref h_o), (1, .int p1), (2, .int p2), (3, .int p3)] := hl
  obtain ⟨G0, eG0⟩ : ∃ G : (Int32 × (Nat → Int32) × (Nat → Int32)) → Prop, G = (fun r => r = res) := ⟨_, rfl⟩
  obtain ⟨rr, hrr⟩ : ∃ z, z = res := ⟨_, rfl⟩
  rw [← hrr] at hf
  have hG : G0 rr := by subst eG0; exact hrr
  refine ds_cap (fun WW h1 h2 => ?_)
  have J_34 : ∀ (n : Nat) (v4 : Int32) (o_becomes_r : Nat → Int32) (o_comes_r : Nat → Int32) (rr : Int32 × (Nat → Int32) × (Nat → Int32)) (hf : ds_it (fun s => fX8_isColoured_34_b o_all_r o_plans_r p1 p2 p3 s.1 s.2.1 s.2.2) n (v4, o_becomes_r, o_comes_r) = some rr) (hG : G0 rr) (H : Heap) (locs : List Loc) (hP : va_P (dC, dI) vwCl [(h_o, .inr (7, [.ref h_o_plans, .ref h_o_makers, .ref h_o_halves, .int o_raised, .ref h_o_all, .ref h_o_text, .ref h_o_saved, .ref h_o_undone, .int o_undos, .int o_reached, .int o_length, .int o_begin, .int o_letters, .int o_sort, .long o_word, .int o_wrongAt, .int o_badAt, .int o_bad, .ref h_o_told, .ref h_o_shift, .int o_firstX, .int o_firstY, .int o_secondX, .int o_secondY, .ref h_o_rootOf, .ref h_o_becomes, .ref h_o_comes, .ref h_o_next, .int o_x])), (h_o_becomes, .inl (ca 0, 4, .inl o_becomes_r)), (h_o_comes, .inl (ca 0, 4, .inl o_comes_r)), (h_o_all, .inl (ca 0, 350, .inl o_all_r)), (h_o_plans, .inl (ca 0, 80, .inl o_plans_r))] H) (hD : va_D A [(h_o, .inr (7, [.ref h_o_plans, .ref h_o_makers, .ref h_o_halves, .int o_raised, .ref h_o_all, .ref h_o_text, .ref h_o_saved, .ref h_o_undone, .int o_undos, .int o_reached, .int o_length, .int o_begin, .int o_letters, .int o_sort, .long o_word, .int o_wrongAt, .int o_badAt, .int o_bad, .ref h_o_told, .ref h_o_shift, .int o_firstX, .int o_firstY, .int o_secondX, .int o_secondY, .ref h_o_rootOf, .ref h_o_becomes, .ref h_o_comes, .ref h_o_next, .int o_x])), (h_o_becomes, .inl (ca 0, 4, .inl o_becomes_r)), (h_o_comes, .inl (ca 0, 4, .inl o_comes_r)), (h_o_all, .inl (ca 0, 350, .inl o_all_r)), (h_o_plans, .inl (ca 0, 80, .inl o_plans_r))]) (hS : va_S A s.heap H locs) (ls : Array Slot) (hl : lv_has ls 8 [(0, .ref h_o), (1, .int p1), (2, .int p2), (3, .int p3), (4, .int v4)]), WW H locs (F0 m 34 ls []) := by
    intro  n
    induction n with
    | zero => intro v4 o_becomes_r o_comes_r rr hf; exact (ds_it_zero hf).elim
    | succ n ih34 =>
      intro v4 o_becomes_r o_comes_r rr hf hG H locs hP hD hS ls hl
      refine h2 ?_
      obtain ⟨rr, hf, hG⟩ := ds_it_succ hf hG
      replace hf : fX8_isColoured_34_b o_all_r o_plans_r p1 p2 p3 v4 o_becomes_r o_comes_r = some rr := hf
      obtain ⟨G1, eG1⟩ : ∃ G : ((Int32 × (Nat → Int32) × (Nat → Int32)) ⊕ (Int32 × (Nat → Int32) × (Nat → Int32))) → Prop, G = ds_G (fun s' => ∃ r', ds_it (fun s => fX8_isColoured_34_b o_all_r o_plans_r p1 p2 p3 s.1 s.2.1 s.2.2) n s' = some r' ∧ G0 r') G0 := ⟨_, rfl⟩
      rw [← eG1] at hG
      have J_169 : ∀ (v4 : Int32) (o_becomes_r : Nat → Int32) (o_comes_r : Nat → Int32) (rr : (Int32 × (Nat → Int32) × (Nat → Int32)) ⊕ (Int32 × (Nat → Int32) × (Nat → Int32))) (hf : fX8_isColoured_169 o_becomes_r o_comes_r v4 = some rr) (hG : G1 rr) (H : Heap) (locs : List Loc) (hP : va_P (dC, dI) vwCl [(h_o, .inr (7, [.ref h_o_plans, .ref h_o_makers, .ref h_o_halves, .int o_raised, .ref h_o_all, .ref h_o_text, .ref h_o_saved, .ref h_o_undone, .int o_undos, .int o_reached, .int o_length, .int o_begin, .int o_letters, .int o_sort, .long o_word, .int o_wrongAt, .int o_badAt, .int o_bad, .ref h_o_told, .ref h_o_shift, .int o_firstX, .int o_firstY, .int o_secondX, .int o_secondY, .ref h_o_rootOf, .ref h_o_becomes, .ref h_o_comes, .ref h_o_next, .int o_x])), (h_o_becomes, .inl (ca 0, 4, .inl o_becomes_r)), (h_o_comes, .inl (ca 0, 4, .inl o_comes_r)), (h_o_all, .inl (ca 0, 350, .inl o_all_r)), (h_o_plans, .inl (ca 0, 80, .inl o_plans_r))] H) (hD : va_D A [(h_o, .inr (7, [.ref h_o_plans, .ref h_o_makers, .ref h_o_halves, .int o_raised, .ref h_o_all, .ref h_o_text, .ref h_o_saved, .ref h_o_undone, .int o_undos, .int o_reached, .int o_length, .int o_begin, .int o_letters, .int o_sort, .long o_word, .int o_wrongAt, .int o_badAt, .int o_bad, .ref h_o_told, .ref h_o_shift, .int o_firstX, .int o_firstY, .int o_secondX, .int o_secondY, .ref h_o_rootOf, .ref h_o_becomes, .ref h_o_comes, .ref h_o_next, .int o_x])), (h_o_becomes, .inl (ca 0, 4, .inl o_becomes_r)), (h_o_comes, .inl (ca 0, 4, .inl o_comes_r)), (h_o_all, .inl (ca 0, 350, .inl o_all_r)), (h_o_plans, .inl (ca 0, 80, .inl o_plans_r))]) (hS : va_S A s.heap H locs) (ls : Array Slot) (hl : lv_has ls 8 [(0, .ref h_o), (1, .int p1), (2, .int p2), (3, .int p3), (4, .int v4)]), WW H locs (F0 m 169 ls []) := by
        intro v4 o_becomes_r o_comes_r rr hf hG H locs hP hD hS ls hl
        refine h2 ?_
        unfold fX8_isColoured_169 at hf
        refine lv_iinc (v := (v4 + 1)) (lv' := [(4, .int (v4 + 1)), (0, .ref h_o), (1, .int p1), (2, .int p2), (3, .int p3)]) hx hb dX8_isColoured_169 hl (k := 4) rfl rfl (by decide) rfl (fun ls hl => ?_)
        refine lv_goto (tgt := 34) hx hb dX8_isColoured_172 (by decide) ?_
        have hf := Option.some.inj hf
        subst hf
        rw [eG1] at hG
        obtain ⟨rr, hf, hG⟩ := hG
        exact h1 (ih34 (v4 + 1) o_becomes_r o_comes_r rr hf hG _ _ hP hD hS _ (lv_sub hl [1, 2, 3, 4, 0] rfl))
      have J_48 : ∀ (v4 : Int32) (n : Nat) (v5 : Int32) (o_becomes_r : Nat → Int32) (o_comes_r : Nat → Int32) (rr : (Int32 × (Nat → Int32) × (Nat → Int32)) ⊕ (Int32 × (Nat → Int32) × (Nat → Int32))) (hf : ds_it (fun s => fX8_isColoured_48_b o_all_r o_plans_r p1 p2 p3 v4 s.1 s.2.1 s.2.2) n (v5, o_becomes_r, o_comes_r) = some rr) (hG : G1 rr) (H : Heap) (locs : List Loc) (hP : va_P (dC, dI) vwCl [(h_o, .inr (7, [.ref h_o_plans, .ref h_o_makers, .ref h_o_halves, .int o_raised, .ref h_o_all, .ref h_o_text, .ref h_o_saved, .ref h_o_undone, .int o_undos, .int o_reached, .int o_length, .int o_begin, .int o_letters, .int o_sort, .long o_word, .int o_wrongAt, .int o_badAt, .int o_bad, .ref h_o_told, .ref h_o_shift, .int o_firstX, .int o_firstY, .int o_secondX, .int o_secondY, .ref h_o_rootOf, .ref h_o_becomes, .ref h_o_comes, .ref h_o_next, .int o_x])), (h_o_becomes, .inl (ca 0, 4, .inl o_becomes_r)), (h_o_comes, .inl (ca 0, 4, .inl o_comes_r)), (h_o_all, .inl (ca 0, 350, .inl o_all_r)), (h_o_plans, .inl (ca 0, 80, .inl o_plans_r))] H) (hD : va_D A [(h_o, .inr (7, [.ref h_o_plans, .ref h_o_makers, .ref h_o_halves, .int o_raised, .ref h_o_all, .ref h_o_text, .ref h_o_saved, .ref h_o_undone, .int o_undos, .int o_reached, .int o_length, .int o_begin, .int o_letters, .int o_sort, .long o_word, .int o_wrongAt, .int o_badAt, .int o_bad, .ref h_o_told, .ref h_o_shift, .int o_firstX, .int o_firstY, .int o_secondX, .int o_secondY, .ref h_o_rootOf, .ref h_o_becomes, .ref h_o_comes, .ref h_o_next, .int o_x])), (h_o_becomes, .inl (ca 0, 4, .inl o_becomes_r)), (h_o_comes, .inl (ca 0, 4, .inl o_comes_r)), (h_o_all, .inl (ca 0, 350, .inl o_all_r)), (h_o_plans, .inl (ca 0, 80, .inl o_plans_r))]) (hS : va_S A s.heap H locs) (ls : Array Slot) (hl : lv_has ls 8 [(0, .ref h_o), (1, .int p1), (2, .int p2), (3, .int p3), (4, .int v4), (5, .int v5)]), WW H locs (F0 m 48 ls []) := by
        intro v4 n
        induction n with
        | zero => intro v5 o_becomes_r o_comes_r rr hf; exact (ds_it_zero hf).elim
        | succ n ih48 =>
          intro v5 o_becomes_r o_comes_r rr hf hG H locs hP hD hS ls hl
          refine h2 ?_
          obtain ⟨rr, hf, hG⟩ := ds_it_succ hf hG
          replace hf : fX8_isColoured_48_b o_all_r o_plans_r p1 p2 p3 v4 v5 o_becomes_r o_comes_r = some rr := hf
          obtain ⟨G2, eG2⟩ : ∃ G : ((Int32 × (Nat → Int32) × (Nat → Int32)) ⊕ ((Int32 × (Nat → Int32) × (Nat → Int32)) ⊕ (Int32 × (Nat → Int32) × (Nat → Int32)))) → Prop, G = ds_G (fun s' => ∃ r', ds_it (fun s => fX8_isColoured_48_b o_all_r o_plans_r p1 p2 p3 v4 s.1 s.2.1 s.2.2) n s' = some r' ∧ G1 r') G1 := ⟨_, rfl⟩
          rw [← eG2] at hG
          have J_145 : ∀ (v5 : Int32) (v6 : Int32) (v7 : Int32) (o_becomes_r : Nat → Int32) (o_comes_r : Nat → Int32) (rr : (Int32 × (Nat → Int32) × (Nat → Int32)) ⊕ ((Int32 × (Nat → Int32) × (Nat → Int32)) ⊕ (Int32 × (Nat → Int32) × (Nat → Int32)))) (hf : fX8_isColoured_145 o_becomes_r o_comes_r v5 v6 v7 = some rr) (hG : G2 rr) (H : Heap) (locs : List Loc) (hP : va_P (dC, dI) vwCl [(h_o, .inr (7, [.ref h_o_plans, .ref h_o_makers, .ref h_o_halves, .int o_raised, .ref h_o_all, .ref h_o_text, .ref h_o_saved, .ref h_o_undone, .int o_undos, .int o_reached, .int o_length, .int o_begin, .int o_letters, .int o_sort, .long o_word, .int o_wrongAt, .int o_badAt, .int o_bad, .ref h_o_told, .ref h_o_shift, .int o_firstX, .int o_firstY, .int o_secondX, .int o_secondY, .ref h_o_rootOf, .ref h_o_becomes, .ref h_o_comes, .ref h_o_next, .int o_x])), (h_o_becomes, .inl (ca 0, 4, .inl o_becomes_r)), (h_o_comes, .inl (ca 0, 4, .inl o_comes_r)), (h_o_all, .inl (ca 0, 350, .inl o_all_r)), (h_o_plans, .inl (ca 0, 80, .inl o_plans_r))] H) (hD : va_D A [(h_o, .inr (7, [.ref h_o_plans, .ref h_o_makers, .ref h_o_halves, .int o_raised, .ref h_o_all, .ref h_o_text, .ref h_o_saved, .ref h_o_undone, .int o_undos, .int o_reached, .int o_length, .int o_begin, .int o_letters, .int o_sort, .long o_word, .int o_wrongAt, .int o_badAt, .int o_bad, .ref h_o_told, .ref h_o_shift, .int o_firstX, .int o_firstY, .int o_secondX, .int o_secondY, .ref h_o_rootOf, .ref h_o_becomes, .ref h_o_comes, .ref h_o_next, .int o_x])), (h_o_becomes, .inl (ca 0, 4, .inl o_becomes_r)), (h_o_comes, .inl (ca 0, 4, .inl o_comes_r)), (h_o_all, .inl (ca 0, 350, .inl o_all_r)), (h_o_plans, .inl (ca 0, 80, .inl o_plans_r))]) (hS : va_S A s.heap H locs) (ls : Array Slot) (hl : lv_has ls 8 [(0, .ref h_o), (1, .int p1), (2, .int p2), (3, .int p3), (4, .int v4), (5, .int v5), (6, .int v6), (7, .int v7)]), WW H locs (F0 m 145 ls []) := by
            intro v5 v6 v7 o_becomes_r o_comes_r rr hf hG H locs hP hD hS ls hl
            refine h2 ?_
            unfold fX8_isColoured_145 at hf
            refine lv_aload_n hx hb dX8_isColoured_145 rfl (lv_at hl 0 rfl) ?_
            refine va_get (D := (dC, dI)) (ci := 7) (v := .ref h_o_becomes) (C := RX8) (T := TX8) (N := 29) hx hb hts (fun w h => List.mem_cons_of_mem _ (kc_X8 w h)) hown hK hP 0 rfl rfl 25 (by decide) (hg kw_803) (fun _ h9 => h9) rfl dX8_isColoured_146 ?_
            refine lv_iload hx hb dX8_isColoured_149 (lv_at hl 6 rfl) ?_
            refine lv_iload hx hb dX8_isColoured_151 (lv_at hl 7 rfl) ?_
            obtain ⟨i_153, hf⟩ := ds_ci hf
            refine va_iast hx hb hK hP hD hS 1 0 rfl rfl i_153 dX8_isColoured_153 (fun H locs hP hD hS => ?_)
            have hP : va_P (dC, dI) vwCl [(h_o, .inr (7, [.ref h_o_plans, .ref h_o_makers, .ref h_o_halves, .int o_raised, .ref h_o_all, .ref h_o_text, .ref h_o_saved, .ref h_o_undone, .int o_undos, .int o_reached, .int o_length, .int o_begin, .int o_letters, .int o_sort, .long o_word, .int o_wrongAt, .int o_badAt, .int o_bad, .ref h_o_told, .ref h_o_shift, .int o_firstX, .int o_firstY, .int o_secondX, .int o_secondY, .ref h_o_rootOf, .ref h_o_becomes, .ref h_o_comes, .ref h_o_next, .int o_x])), (h_o_becomes, .inl (ca 0, 4, .inl (upd o_becomes_r v6.toNatClampNeg v7))), (h_o_comes, .inl (ca 0, 4, .inl o_comes_r)), (h_o_all, .inl (ca 0, 350, .inl o_all_r)), (h_o_plans, .inl (ca 0, 80, .inl o_plans_r))] H := hP
            have hD : va_D A [(h_o, .inr (7, [.ref h_o_plans, .ref h_o_makers, .ref h_o_halves, .int o_raised, .ref h_o_all, .ref h_o_text, .ref h_o_saved, .ref h_o_undone, .int o_undos, .int o_reached, .int o_length, .int o_begin, .int o_letters, .int o_sort, .long o_word, .int o_wrongAt, .int o_badAt, .int o_bad, .ref h_o_told, .ref h_o_shift, .int o_firstX, .int o_firstY, .int o_secondX, .int o_secondY, .ref h_o_rootOf, .ref h_o_becomes, .ref h_o_comes, .ref h_o_next, .int o_x])), (h_o_becomes, .inl (ca 0, 4, .inl (upd o_becomes_r v6.toNatClampNeg v7))), (h_o_comes, .inl (ca 0, 4, .inl o_comes_r)), (h_o_all, .inl (ca 0, 350, .inl o_all_r)), (h_o_plans, .inl (ca 0, 80, .inl o_plans_r))] := hD
            refine lv_aload_n hx hb dX8_isColoured_154 rfl (lv_at hl 0 rfl) ?_
            refine va_get (D := (dC, dI)) (ci := 7) (v := .ref h_o_comes) (C := RX8) (T := TX8) (N := 29) hx hb hts (fun w h => List.mem_cons_of_mem _ (kc_X8 w h)) hown hK hP 0 rfl rfl 26 (by decide) (hg kw_804) (fun _ h9 => h9) rfl dX8_isColoured_155 ?_
            refine lv_iload hx hb dX8_isColoured_158 (lv_at hl 7 rfl) ?_
            refine lv_iload hx hb dX8_isColoured_160 (lv_at hl 6 rfl) ?_
            obtain ⟨i_162, hf⟩ := ds_ci hf
            refine va_iast hx hb hK hP hD hS 2 0 rfl rfl i_162 dX8_isColoured_162 (fun H locs hP hD hS => ?_)
            have hP : va_P (dC, dI) vwCl [(h_o, .inr (7, [.ref h_o_plans, .ref h_o_makers, .ref h_o_halves, .int o_raised, .ref h_o_all, .ref h_o_text, .ref h_o_saved, .ref h_o_undone, .int o_undos, .int o_reached, .int o_length, .int o_begin, .int o_letters, .int o_sort, .long o_word, .int o_wrongAt, .int o_badAt, .int o_bad, .ref h_o_told, .ref h_o_shift, .int o_firstX, .int o_firstY, .int o_secondX, .int o_secondY, .ref h_o_rootOf, .ref h_o_becomes, .ref h_o_comes, .ref h_o_next, .int o_x])), (h_o_becomes, .inl (ca 0, 4, .inl (upd o_becomes_r v6.toNatClampNeg v7))), (h_o_comes, .inl (ca 0, 4, .inl (upd o_comes_r v7.toNatClampNeg v6))), (h_o_all, .inl (ca 0, 350, .inl o_all_r)), (h_o_plans, .inl (ca 0, 80, .inl o_plans_r))] H := hP
            have hD : va_D A [(h_o, .inr (7, [.ref h_o_plans, .ref h_o_makers, .ref h_o_halves, .int o_raised, .ref h_o_all, .ref h_o_text, .ref h_o_saved, .ref h_o_undone, .int o_undos, .int o_reached, .int o_length, .int o_begin, .int o_letters, .int o_sort, .long o_word, .int o_wrongAt, .int o_badAt, .int o_bad, .ref h_o_told, .ref h_o_shift, .int o_firstX, .int o_firstY, .int o_secondX, .int o_secondY, .ref h_o_rootOf, .ref h_o_becomes, .ref h_o_comes, .ref h_o_next, .int o_x])), (h_o_becomes, .inl (ca 0, 4, .inl (upd o_becomes_r v6.toNatClampNeg v7))), (h_o_comes, .inl (ca 0, 4, .inl (upd o_comes_r v7.toNatClampNeg v6))), (h_o_all, .inl (ca 0, 350, .inl o_all_r)), (h_o_plans, .inl (ca 0, 80, .inl o_plans_r))] := hD
            refine lv_iinc (v := (v5 + 1)) (lv' := [(5, .int (v5 + 1)), (0, .ref h_o), (1, .int p1), (2, .int p2), (3, .int p3), (4, .int v4), (6, .int v6), (7, .int v7)]) hx hb dX8_isColoured_163 hl (k := 5) rfl rfl (by decide) rfl (fun ls hl => ?_)
            refine lv_goto (tgt := 48) hx hb dX8_isColoured_166 (by decide) ?_
            have hf := Option.some.inj hf
            subst hf
            rw [eG2] at hG
            obtain ⟨rr, hf, hG⟩ := hG
            exact h1 (ih48 (v5 + 1) (upd o_becomes_r v6.toNatClampNeg v7) (upd o_comes_r v7.toNatClampNeg v6) rr hf hG _ _ hP hD hS _ (lv_sub hl [1, 2, 3, 4, 5, 0] rfl))
          have J_120 : ∀ (v5 : Int32) (v6 : Int32) (v7 : Int32) (o_becomes_r : Nat → Int32) (o_comes_r : Nat → Int32) (rr : (Int32 × (Nat → Int32) × (Nat → Int32)) ⊕ ((Int32 × (Nat → Int32) × (Nat → Int32)) ⊕ (Int32 × (Nat → Int32) × (Nat → Int32)))) (hf : fX8_isColoured_120 o_becomes_r o_comes_r v5 v6 v7 = some rr) (hG : G2 rr) (H : Heap) (locs : List Loc) (hP : va_P (dC, dI) vwCl [(h_o, .inr (7, [.ref h_o_plans, .ref h_o_makers, .ref h_o_halves, .int o_raised, .ref h_o_all, .ref h_o_text, .ref h_o_saved, .ref h_o_undone, .int o_undos, .int o_reached, .int o_length, .int o_begin, .int o_letters, .int o_sort, .long o_word, .int o_wrongAt, .int o_badAt, .int o_bad, .ref h_o_told, .ref h_o_shift, .int o_firstX, .int o_firstY, .int o_secondX, .int o_secondY, .ref h_o_rootOf, .ref h_o_becomes, .ref h_o_comes, .ref h_o_next, .int o_x])), (h_o_becomes, .inl (ca 0, 4, .inl o_becomes_r)), (h_o_comes, .inl (ca 0, 4, .inl o_comes_r)), (h_o_all, .inl (ca 0, 350, .inl o_all_r)), (h_o_plans, .inl (ca 0, 80, .inl o_plans_r))] H) (hD : va_D A [(h_o, .inr (7, [.ref h_o_plans, .ref h_o_makers, .ref h_o_halves, .int o_raised, .ref h_o_all, .ref h_o_text, .ref h_o_saved, .ref h_o_undone, .int o_undos, .int o_reached, .int o_length, .int o_begin, .int o_letters, .int o_sort, .long o_word, .int o_wrongAt, .int o_badAt, .int o_bad, .ref h_o_told, .ref h_o_shift, .int o_firstX, .int o_firstY, .int o_secondX, .int o_secondY, .ref h_o_rootOf, .ref h_o_becomes, .ref h_o_comes, .ref h_o_next, .int o_x])), (h_o_becomes, .inl (ca 0, 4, .inl o_becomes_r)), (h_o_comes, .inl (ca 0, 4, .inl o_comes_r)), (h_o_all, .inl (ca 0, 350, .inl o_all_r)), (h_o_plans, .inl (ca 0, 80, .inl o_plans_r))]) (hS : va_S A s.heap H locs) (ls : Array Slot) (hl : lv_has ls 8 [(0, .ref h_o), (1, .int p1), (2, .int p2), (3, .int p3), (4, .int v4), (5, .int v5), (6, .int v6), (7, .int v7)]), WW H locs (F0 m 120 ls []) := by
            intro v5 v6 v7 o_becomes_r o_comes_r rr hf hG H locs hP hD hS ls hl
            refine h2 ?_
            unfold fX8_isColoured_120 at hf
            refine lv_aload_n hx hb dX8_isColoured_120 rfl (lv_at hl 0 rfl) ?_
            refine va_get (D := (dC, dI)) (ci := 7) (v := .ref h_o_comes) (C := RX8) (T := TX8) (N := 29) hx hb hts (fun w h => List.mem_cons_of_mem _ (kc_X8 w h)) hown hK hP 0 rfl rfl 26 (by decide) (hg kw_804) (fun _ h9 => h9) rfl dX8_isColoured_121 ?_
            refine lv_iload hx hb dX8_isColoured_124 (lv_at hl 7 rfl) ?_
            obtain ⟨i_126, hf⟩ := ds_ci hf
            refine va_iald hx hb hK hP 2 0 rfl rfl i_126 dX8_isColoured_126 ?_
            refine lv_iconst (v := -1) hx hb dX8_isColoured_127 (by decide) ?_
            refine lv_icmp_eq (tgt := 145) hx hb dX8_isColoured_128 (by decide) (fun c_128 => ?_) (fun c_128 => ?_)
            · replace hf := ds_t c_128 hf
              exact h1 (J_145 v5 v6 v7 o_becomes_r o_comes_r _ hf hG _ _ hP hD hS _ (lv_sub hl [0, 1, 2, 3, 4, 5, 6, 7] rfl))
            · replace hf := ds_f c_128 hf
              refine lv_aload_n hx hb dX8_isColoured_131 rfl (lv_at hl 0 rfl) ?_
              refine va_get (D := (dC, dI)) (ci := 7) (v := .ref h_o_comes) (C := RX8) (T := TX8) (N := 29) hx hb hts (fun w h => List.mem_cons_of_mem _ (kc_X8 w h)) hown hK hP 0 rfl rfl 26 (by decide) (hg kw_804) (fun _ h9 => h9) rfl dX8_isColoured_132 ?_
              refine lv_iload hx hb dX8_isColoured_135 (lv_at hl 7 rfl) ?_
              obtain ⟨i_137, hf⟩ := ds_ci hf
              refine va_iald hx hb hK hP 2 0 rfl rfl i_137 dX8_isColoured_137 ?_
              refine lv_iload hx hb dX8_isColoured_138 (lv_at hl 6 rfl) ?_
              refine lv_icmp_eq (tgt := 145) hx hb dX8_isColoured_140 (by decide) (fun c_140 => ?_) (fun c_140 => ?_)
              · replace hf := ds_t c_140 hf
                exact h1 (J_145 v5 v6 v7 o_becomes_r o_comes_r _ hf hG _ _ hP hD hS _ (lv_sub hl [0, 1, 2, 3, 4, 5, 6, 7] rfl))
              · replace hf := ds_f c_140 hf
                refine lv_iconst (v := 0) hx hb dX8_isColoured_143 (by decide) ?_
                have hf := Option.some.inj hf
                subst hf
                rw [eG2] at hG
                replace hG : G1 _ := hG
                rw [eG1] at hG
                replace hG : G0 _ := hG
                rw [eG0] at hG
                have hG : _ = res := hG
                subst hG
                exact W.zret (v := (0 : Int32)) (ty := .boolean) hx hb hr rfl (fun t ht hW => ⟨⟨(0 : Int32), (), rfl, rfl, by rw [ht]; exact hP, hD⟩, hS.F ht⟩) hS.2.2 dX8_isColoured_144
          unfold fX8_isColoured_48_b at hf
          refine lv_iload hx hb dX8_isColoured_48 (lv_at hl 5 rfl) ?_
          refine lv_aload_n hx hb dX8_isColoured_50 rfl (lv_at hl 0 rfl) ?_
          refine va_get (D := (dC, dI)) (ci := 7) (v := .ref h_o_all) (C := RX8) (T := TX8) (N := 29) hx hb hts (fun w h => List.mem_cons_of_mem _ (kc_X8 w h)) hown hK hP 0 rfl rfl 4 (by decide) (hg kw_594) (fun _ h9 => h9) rfl dX8_isColoured_51 ?_
          refine lv_iconst (v := 0) hx hb dX8_isColoured_54 (by decide) ?_
          refine va_iald hx hb hK hP 3 0 rfl rfl (ds_in_ok (i := 0) (n := 350) (by decide)) dX8_isColoured_55 ?_
          refine lv_icmp_ge (tgt := 169) hx hb dX8_isColoured_56 (by decide) (fun c_56 => ?_) (fun c_56 => ?_)
          · replace hf := ds_t c_56 hf
            obtain ⟨rr, hr_0, hf⟩ := ds_ob hf
            have hf := Option.some.inj hf
            subst hf
            rw [eG2] at hG
            replace hG : G1 rr := hG
            have hf := hr_0
            exact h1 (J_169 v4 o_becomes_r o_comes_r _ hf hG _ _ hP hD hS _ (lv_sub hl [0, 1, 2, 3, 4] rfl))
          · replace hf := ds_f c_56 hf
            refine lv_aload_n hx hb dX8_isColoured_59 rfl (lv_at hl 0 rfl) ?_
            refine lv_iload hx hb dX8_isColoured_60 (lv_at hl 5 rfl) ?_
            refine lv_iload hx hb dX8_isColoured_62 (lv_at hl 4 rfl) ?_
            obtain ⟨q64, hq64, hf⟩ := ds_ob hf
            refine ds_calli (wr := [(h_o_becomes, .inl (ca 0, 4, .inl o_becomes_r)), (h_o_comes, .inl (ca 0, 4, .inl o_comes_r)), (h_o_plans, .inl (ca 0, 80, .inl o_plans_r))]) (va_runV (As := [.int v5, .int v4]) (rest := []) ⟨hx, hb, hml, hown, hts⟩ (c_X8_colour l dC dI ca sa h_o h_o_plans h_o_makers h_o_halves h_o_all h_o_text h_o_saved h_o_undone h_o_told h_o_shift h_o_rootOf h_o_becomes h_o_comes h_o_next H.size o_raised o_undos o_reached o_length o_begin o_letters o_sort o_word o_wrongAt o_badAt o_bad o_firstX o_firstY o_secondX o_secondY o_x o_all_r v5 v4 q64 hq64) (cwV 2 hts (ds_gV kw_651 kw_652 kw_653 kw_597 kw_654) rfl rfl rfl (by decide +kernel) ⟨Nat.le_of_ble_eq_true rfl, Nat.le_of_ble_eq_true rfl⟩) ⟨ds_blind, va_recv hK hP (ci := 7) (q0 := 0) rfl rfl, ds_at hP hD hK hE hS hA [0, 3] rfl rfl _⟩ rfl rfl hl.1 rfl (lv_room (Nat.le_of_ble_eq_true rfl)) dX8_isColoured_64 ⟨Nat.zero_le _, Nat.zero_le _⟩) hP hD hS hA [0, 3] [1, 2, 4] rfl rfl rfl (by decide) (fun H locs hP hD hS => ?_)
            have hP : va_P (dC, dI) vwCl [(h_o_becomes, .inl (ca 0, 4, .inl o_becomes_r)), (h_o_comes, .inl (ca 0, 4, .inl o_comes_r)), (h_o_plans, .inl (ca 0, 80, .inl o_plans_r)), (h_o, .inr (7, [.ref h_o_plans, .ref h_o_makers, .ref h_o_halves, .int o_raised, .ref h_o_all, .ref h_o_text, .ref h_o_saved, .ref h_o_undone, .int o_undos, .int o_reached, .int o_length, .int o_begin, .int o_letters, .int o_sort, .long o_word, .int o_wrongAt, .int o_badAt, .int o_bad, .ref h_o_told, .ref h_o_shift, .int o_firstX, .int o_firstY, .int o_secondX, .int o_secondY, .ref h_o_rootOf, .ref h_o_becomes, .ref h_o_comes, .ref h_o_next, .int o_x])), (h_o_all, .inl (ca 0, 350, .inl o_all_r))] H := hP
            have hD : va_D A [(h_o_becomes, .inl (ca 0, 4, .inl o_becomes_r)), (h_o_comes, .inl (ca 0, 4, .inl o_comes_r)), (h_o_plans, .inl (ca 0, 80, .inl o_plans_r)), (h_o, .inr (7, [.ref h_o_plans, .ref h_o_makers, .ref h_o_halves, .int o_raised, .ref h_o_all, .ref h_o_text, .ref h_o_saved, .ref h_o_undone, .int o_undos, .int o_reached, .int o_length, .int o_begin, .int o_letters, .int o_sort, .long o_word, .int o_wrongAt, .int o_badAt, .int o_bad, .ref h_o_told, .ref h_o_shift, .int o_firstX, .int o_firstY, .int o_secondX, .int o_secondY, .ref h_o_rootOf, .ref h_o_becomes, .ref h_o_comes, .ref h_o_next, .int o_x])), (h_o_all, .inl (ca 0, 350, .inl o_all_r))] := hD
            refine lv_istore (lv' := [(6, .int q64), (0, .ref h_o), (1, .int p1), (2, .int p2), (3, .int p3), (4, .int v4), (5, .int v5)]) hx hb dX8_isColoured_67 hl (by decide) rfl (fun ls hl => ?_)
            refine lv_aload_n hx hb dX8_isColoured_69 rfl (lv_at hl 1 rfl) ?_
            refine lv_aload_n hx hb dX8_isColoured_70 rfl (lv_at hl 1 rfl) ?_
            refine lv_iload_n hx hb dX8_isColoured_71 rfl (lv_at hl 2 rfl) ?_
            refine lv_iload hx hb dX8_isColoured_72 (lv_at hl 6 rfl) ?_
            refine lv_iload hx hb dX8_isColoured_74 (lv_at hl 5 rfl) ?_
            obtain ⟨q76, hq76, hf⟩ := ds_ob hf
            refine ds_calli (wr := [(h_o_becomes, .inl (ca 0, 4, .inl o_becomes_r)), (h_o_comes, .inl (ca 0, 4, .inl o_comes_r))]) (va_runV (As := [.int p1, .int v5, .int v4]) (rest := [.ref h_o]) ⟨hx, hb, hml, hown, hts⟩ (c_X8_turnX l dC dI ca sa h_o h_o_plans h_o_makers h_o_halves h_o_all h_o_text h_o_saved h_o_undone h_o_told h_o_shift h_o_rootOf h_o_becomes h_o_comes h_o_next H.size o_raised o_undos o_reached o_length o_begin o_letters o_sort o_word o_wrongAt o_badAt o_bad o_firstX o_firstY o_secondX o_secondY o_x o_all_r o_plans_r p1 v5 v4 q76 hq76) (cwV 3 hts (ds_gV kw_655 kw_656 kw_657 kw_597 kw_658) rfl rfl rfl (by decide +kernel) ⟨Nat.le_of_ble_eq_true rfl, Nat.le_of_ble_eq_true rfl⟩) ⟨ds_blind, va_recv hK hP (ci := 7) (q0 := 3) rfl rfl, ds_at hP hD hK hE hS hA [3, 4, 2] rfl rfl _⟩ rfl rfl hl.1 rfl (lv_room (Nat.le_of_ble_eq_true rfl)) dX8_isColoured_76 ⟨Nat.zero_le _, Nat.zero_le _⟩) hP hD hS hA [3, 4, 2] [0, 1] rfl rfl rfl (by decide) (fun H locs hP hD hS => ?_)
            have hP : va_P (dC, dI) vwCl [(h_o_becomes, .inl (ca 0, 4, .inl o_becomes_r)), (h_o_comes, .inl (ca 0, 4, .inl o_comes_r)), (h_o, .inr (7, [.ref h_o_plans, .ref h_o_makers, .ref h_o_halves, .int o_raised, .ref h_o_all, .ref h_o_text, .ref h_o_saved, .ref h_o_undone, .int o_undos, .int o_reached, .int o_length, .int o_begin, .int o_letters, .int o_sort, .long o_word, .int o_wrongAt, .int o_badAt, .int o_bad, .ref h_o_told, .ref h_o_shift, .int o_firstX, .int o_firstY, .int o_secondX, .int o_secondY, .ref h_o_rootOf, .ref h_o_becomes, .ref h_o_comes, .ref h_o_next, .int o_x])), (h_o_all, .inl (ca 0, 350, .inl o_all_r)), (h_o_plans, .inl (ca 0, 80, .inl o_plans_r))] H := hP
            have hD : va_D A [(h_o_becomes, .inl (ca 0, 4, .inl o_becomes_r)), (h_o_comes, .inl (ca 0, 4, .inl o_comes_r)), (h_o, .inr (7, [.ref h_o_plans, .ref h_o_makers, .ref h_o_halves, .int o_raised, .ref h_o_all, .ref h_o_text, .ref h_o_saved, .ref h_o_undone, .int o_undos, .int o_reached, .int o_length, .int o_begin, .int o_letters, .int o_sort, .long o_word, .int o_wrongAt, .int o_badAt, .int o_bad, .ref h_o_told, .ref h_o_shift, .int o_firstX, .int o_firstY, .int o_secondX, .int o_secondY, .ref h_o_rootOf, .ref h_o_becomes, .ref h_o_comes, .ref h_o_next, .int o_x])), (h_o_all, .inl (ca 0, 350, .inl o_all_r)), (h_o_plans, .inl (ca 0, 80, .inl o_plans_r))] := hD
            refine lv_iload_n hx hb dX8_isColoured_79 rfl (lv_at hl 3 rfl) ?_
            refine lv_iadd hx hb dX8_isColoured_80 ?_
            refine lv_aload_n hx hb dX8_isColoured_81 rfl (lv_at hl 1 rfl) ?_
            refine lv_iload_n hx hb dX8_isColoured_82 rfl (lv_at hl 2 rfl) ?_
            refine lv_iload hx hb dX8_isColoured_83 (lv_at hl 6 rfl) ?_
            refine lv_iload hx hb dX8_isColoured_85 (lv_at hl 5 rfl) ?_
            obtain ⟨q87, hq87, hf⟩ := ds_ob hf
            refine ds_calli (wr := [(h_o_becomes, .inl (ca 0, 4, .inl o_becomes_r)), (h_o_comes, .inl (ca 0, 4, .inl o_comes_r))]) (va_runV (As := [.int p1, .int v5, .int v4]) (rest := [.int (q76 + p2), .ref h_o]) ⟨hx, hb, hml, hown, hts⟩ (c_X8_turnY l dC dI ca sa h_o h_o_plans h_o_makers h_o_halves h_o_all h_o_text h_o_saved h_o_undone h_o_told h_o_shift h_o_rootOf h_o_becomes h_o_comes h_o_next H.size o_raised o_undos o_reached o_length o_begin o_letters o_sort o_word o_wrongAt o_badAt o_bad o_firstX o_firstY o_secondX o_secondY o_x o_all_r o_plans_r p1 v5 v4 q87 hq87) (cwV 3 hts (ds_gV kw_659 kw_660 kw_661 kw_597 kw_662) rfl rfl rfl (by decide +kernel) ⟨Nat.le_of_ble_eq_true rfl, Nat.le_of_ble_eq_true rfl⟩) ⟨ds_blind, va_recv hK hP (ci := 7) (q0 := 2) rfl rfl, ds_at hP hD hK hE hS hA [2, 3, 4] rfl rfl _⟩ rfl rfl hl.1 rfl (lv_room (Nat.le_of_ble_eq_true rfl)) dX8_isColoured_87 ⟨Nat.zero_le _, Nat.zero_le _⟩) hP hD hS hA [2, 3, 4] [0, 1] rfl rfl rfl (by decide) (fun H locs hP hD hS => ?_)
            have hP : va_P (dC, dI) vwCl [(h_o_becomes, .inl (ca 0, 4, .inl o_becomes_r)), (h_o_comes, .inl (ca 0, 4, .inl o_comes_r)), (h_o, .inr (7, [.ref h_o_plans, .ref h_o_makers, .ref h_o_halves, .int o_raised, .ref h_o_all, .ref h_o_text, .ref h_o_saved, .ref h_o_undone, .int o_undos, .int o_reached, .int o_length, .int o_begin, .int o_letters, .int o_sort, .long o_word, .int o_wrongAt, .int o_badAt, .int o_bad, .ref h_o_told, .ref h_o_shift, .int o_firstX, .int o_firstY, .int o_secondX, .int o_secondY, .ref h_o_rootOf, .ref h_o_becomes, .ref h_o_comes, .ref h_o_next, .int o_x])), (h_o_all, .inl (ca 0, 350, .inl o_all_r)), (h_o_plans, .inl (ca 0, 80, .inl o_plans_r))] H := hP
            have hD : va_D A [(h_o_becomes, .inl (ca 0, 4, .inl o_becomes_r)), (h_o_comes, .inl (ca 0, 4, .inl o_comes_r)), (h_o, .inr (7, [.ref h_o_plans, .ref h_o_makers, .ref h_o_halves, .int o_raised, .ref h_o_all, .ref h_o_text, .ref h_o_saved, .ref h_o_undone, .int o_undos, .int o_reached, .int o_length, .int o_begin, .int o_letters, .int o_sort, .long o_word, .int o_wrongAt, .int o_badAt, .int o_bad, .ref h_o_told, .ref h_o_shift, .int o_firstX, .int o_firstY, .int o_secondX, .int o_secondY, .ref h_o_rootOf, .ref h_o_becomes, .ref h_o_comes, .ref h_o_next, .int o_x])), (h_o_all, .inl (ca 0, 350, .inl o_all_r)), (h_o_plans, .inl (ca 0, 80, .inl o_plans_r))] := hD
            refine lv_iload_n hx hb dX8_isColoured_90 rfl (lv_at hl 4 rfl) ?_
            refine lv_iadd hx hb dX8_isColoured_91 ?_
            obtain ⟨q92, hq92, hf⟩ := ds_ob hf
            refine ds_calli (wr := [(h_o_becomes, .inl (ca 0, 4, .inl o_becomes_r)), (h_o_comes, .inl (ca 0, 4, .inl o_comes_r)), (h_o_plans, .inl (ca 0, 80, .inl o_plans_r))]) (va_runV (As := [.int (q76 + p2), .int (q87 + p3)]) (rest := []) ⟨hx, hb, hml, hown, hts⟩ (c_X8_colour l dC dI ca sa h_o h_o_plans h_o_makers h_o_halves h_o_all h_o_text h_o_saved h_o_undone h_o_told h_o_shift h_o_rootOf h_o_becomes h_o_comes h_o_next H.size o_raised o_undos o_reached o_length o_begin o_letters o_sort o_word o_wrongAt o_badAt o_bad o_firstX o_firstY o_secondX o_secondY o_x o_all_r (q76 + p2) (q87 + p3) q92 hq92) (cwV 2 hts (ds_gV kw_651 kw_652 kw_653 kw_597 kw_654) rfl rfl rfl (by decide +kernel) ⟨Nat.le_of_ble_eq_true rfl, Nat.le_of_ble_eq_true rfl⟩) ⟨ds_blind, va_recv hK hP (ci := 7) (q0 := 2) rfl rfl, ds_at hP hD hK hE hS hA [2, 3] rfl rfl _⟩ rfl rfl hl.1 rfl (lv_room (Nat.le_of_ble_eq_true rfl)) dX8_isColoured_92 ⟨Nat.zero_le _, Nat.zero_le _⟩) hP hD hS hA [2, 3] [0, 1, 4] rfl rfl rfl (by decide) (fun H locs hP hD hS => ?_)
            have hP : va_P (dC, dI) vwCl [(h_o_becomes, .inl (ca 0, 4, .inl o_becomes_r)), (h_o_comes, .inl (ca 0, 4, .inl o_comes_r)), (h_o_plans, .inl (ca 0, 80, .inl o_plans_r)), (h_o, .inr (7, [.ref h_o_plans, .ref h_o_makers, .ref h_o_halves, .int o_raised, .ref h_o_all, .ref h_o_text, .ref h_o_saved, .ref h_o_undone, .int o_undos, .int o_reached, .int o_length, .int o_begin, .int o_letters, .int o_sort, .long o_word, .int o_wrongAt, .int o_badAt, .int o_bad, .ref h_o_told, .ref h_o_shift, .int o_firstX, .int o_firstY, .int o_secondX, .int o_secondY, .ref h_o_rootOf, .ref h_o_becomes, .ref h_o_comes, .ref h_o_next, .int o_x])), (h_o_all, .inl (ca 0, 350, .inl o_all_r))] H := hP
            have hD : va_D A [(h_o_becomes, .inl (ca 0, 4, .inl o_becomes_r)), (h_o_comes, .inl (ca 0, 4, .inl o_comes_r)), (h_o_plans, .inl (ca 0, 80, .inl o_plans_r)), (h_o, .inr (7, [.ref h_o_plans, .ref h_o_makers, .ref h_o_halves, .int o_raised, .ref h_o_all, .ref h_o_text, .ref h_o_saved, .ref h_o_undone, .int o_undos, .int o_reached, .int o_length, .int o_begin, .int o_letters, .int o_sort, .long o_word, .int o_wrongAt, .int o_badAt, .int o_bad, .ref h_o_told, .ref h_o_shift, .int o_firstX, .int o_firstY, .int o_secondX, .int o_secondY, .ref h_o_rootOf, .ref h_o_becomes, .ref h_o_comes, .ref h_o_next, .int o_x])), (h_o_all, .inl (ca 0, 350, .inl o_all_r))] := hD
            refine lv_istore (lv' := [(7, .int q92), (6, .int q64), (0, .ref h_o), (1, .int p1), (2, .int p2), (3, .int p3), (4, .int v4), (5, .int v5)]) hx hb dX8_isColoured_95 hl (by decide) rfl (fun ls hl => ?_)
            refine lv_aload_n hx hb dX8_isColoured_97 rfl (lv_at hl 2 rfl) ?_
            refine va_get (D := (dC, dI)) (ci := 7) (v := .ref h_o_becomes) (C := RX8) (T := TX8) (N := 29) hx hb hts (fun w h => List.mem_cons_of_mem _ (kc_X8 w h)) hown hK hP 3 rfl rfl 25 (by decide) (hg kw_803) (fun _ h9 => h9) rfl dX8_isColoured_98 ?_
            refine lv_iload hx hb dX8_isColoured_101 (lv_at hl 1 rfl) ?_
            obtain ⟨i_103, hf⟩ := ds_ci hf
            refine va_iald hx hb hK hP 0 0 rfl rfl i_103 dX8_isColoured_103 ?_
            refine lv_iconst (v := -1) hx hb dX8_isColoured_104 (by decide) ?_
            refine lv_icmp_eq (tgt := 120) hx hb dX8_isColoured_105 (by decide) (fun c_105 => ?_) (fun c_105 => ?_)
            · replace hf := ds_t c_105 hf
              exact h1 (J_120 v5 q64 q92 o_becomes_r o_comes_r _ hf hG _ _ (hP.sub [3, 0, 1, 4, 2] rfl) (hD.sub [3, 0, 1, 4, 2] rfl rfl) hS _ (lv_sub hl [2, 3, 4, 5, 6, 7, 1, 0] rfl))
            · replace hf := ds_f c_105 hf
              refine lv_aload_n hx hb dX8_isColoured_108 rfl (lv_at hl 2 rfl) ?_
              refine va_get (D := (dC, dI)) (ci := 7) (v := .ref h_o_becomes) (C := RX8) (T := TX8) (N := 29) hx hb hts (fun w h => List.mem_cons_of_mem _ (kc_X8 w h)) hown hK hP 3 rfl rfl 25 (by decide) (hg kw_803) (fun _ h9 => h9) rfl dX8_isColoured_109 ?_
              refine lv_iload hx hb dX8_isColoured_112 (lv_at hl 1 rfl) ?_
              obtain ⟨i_114, hf⟩ := ds_ci hf
              refine va_iald hx hb hK hP 0 0 rfl rfl i_114 dX8_isColoured_114 ?_
              refine lv_iload hx hb dX8_isColoured_115 (lv_at hl 0 rfl) ?_
              refine lv_icmp_ne (tgt := 143) hx hb dX8_isColoured_117 (by decide) (fun c_117 => ?_) (fun c_117 => ?_)
              · replace hf := ds_f c_117 hf
                refine lv_iconst (v := 0) hx hb dX8_isColoured_143 (by decide) ?_
                have hf := Option.some.inj hf
                subst hf
                rw [eG2] at hG
                replace hG : G1 _ := hG
                rw [eG1] at hG
                replace hG : G0 _ := hG
                rw [eG0] at hG
                have hG : _ = res := hG
                subst hG
                exact W.zret (v := (0 : Int32)) (ty := .boolean) hx hb hr rfl (fun t ht hW => ⟨⟨(0 : Int32), (), rfl, rfl, by rw [ht]; exact (hP.sub [3, 0, 1, 4, 2] rfl), (hD.sub [3, 0, 1, 4, 2] rfl rfl)⟩, hS.F ht⟩) hS.2.2 dX8_isColoured_144
              · replace hf := ds_t c_117 hf
                exact h1 (J_120 v5 q64 q92 o_becomes_r o_comes_r _ hf hG _ _ (hP.sub [3, 0, 1, 4, 2] rfl) (hD.sub [3, 0, 1, 4, 2] rfl rfl) hS _ (lv_sub hl [2, 3, 4, 5, 6, 7, 1, 0] rfl))
      unfold fX8_isColoured_34_b at hf
      refine lv_iload hx hb dX8_isColoured_34 (lv_at hl 4 rfl) ?_
      refine lv_aload_n hx hb dX8_isColoured_36 rfl (lv_at hl 0 rfl) ?_
      refine va_get (D := (dC, dI)) (ci := 7) (v := .ref h_o_all) (C := RX8) (T := TX8) (N := 29) hx hb hts (fun w h => List.mem_cons_of_mem _ (kc_X8 w h)) hown hK hP 0 rfl rfl 4 (by decide) (hg kw_594) (fun _ h9 => h9) rfl dX8_isColoured_37 ?_
      refine lv_iconst (v := 1) hx hb dX8_isColoured_40 (by decide) ?_
      refine va_iald hx hb hK hP 3 0 rfl rfl (ds_in_ok (i := 1) (n := 350) (by decide)) dX8_isColoured_41 ?_
      refine lv_icmp_ge (tgt := 175) hx hb dX8_isColoured_42 (by decide) (fun c_42 => ?_) (fun c_42 => ?_)
      · replace hf := ds_t c_42 hf
        refine lv_iconst (v := 1) hx hb dX8_isColoured_175 (by decide) ?_
        have hf := Option.some.inj hf
        subst hf
        rw [eG1] at hG
        replace hG : G0 _ := hG
        rw [eG0] at hG
        have hG : _ = res := hG
        subst hG
        exact W.zret (v := (1 : Int32)) (ty := .boolean) hx hb hr rfl (fun t ht hW => ⟨⟨(1 : Int32), (), rfl, rfl, by rw [ht]; exact hP, hD⟩, hS.F ht⟩) hS.2.2 dX8_isColoured_176
      · replace hf := ds_f c_42 hf
        refine lv_iconst (v := 0) hx hb dX8_isColoured_45 (by decide) ?_
        refine lv_istore (lv' := [(5, .int (0 : Int32)), (0, .ref h_o), (1, .int p1), (2, .int p2), (3, .int p3), (4, .int v4)]) hx hb dX8_isColoured_46 hl (by decide) rfl (fun ls hl => ?_)
        exact h1 (J_48 v4 1000 (0 : Int32) o_becomes_r o_comes_r _ hf hG _ _ hP hD hS _ (lv_sub hl [1, 2, 3, 4, 5, 0] rfl))
  have J_31 : ∀ (o_becomes_r : Nat → Int32) (o_comes_r : Nat → Int32) (rr : Int32 × (Nat → Int32) × (Nat → Int32)) (hf : fX8_isColoured_31 o_becomes_r o_comes_r o_all_r o_plans_r p1 p2 p3 = some rr) (hG : G0 rr) (H : Heap) (locs : List Loc) (hP : va_P (dC, dI) vwCl [(h_o, .inr (7, [.ref h_o_plans, .ref h_o_makers, .ref h_o_halves, .int o_raised, .ref h_o_all, .ref h_o_text, .ref h_o_saved, .ref h_o_undone, .int o_undos, .int o_reached, .int o_length, .int o_begin, .int o_letters, .int o_sort, .long o_word, .int o_wrongAt, .int o_badAt, .int o_bad, .ref h_o_told, .ref h_o_shift, .int o_firstX, .int o_firstY, .int o_secondX, .int o_secondY, .ref h_o_rootOf, .ref h_o_becomes, .ref h_o_comes, .ref h_o_next, .int o_x])), (h_o_becomes, .inl (ca 0, 4, .inl o_becomes_r)), (h_o_comes, .inl (ca 0, 4, .inl o_comes_r)), (h_o_all, .inl (ca 0, 350, .inl o_all_r)), (h_o_plans, .inl (ca 0, 80, .inl o_plans_r))] H) (hD : va_D A [(h_o, .inr (7, [.ref h_o_plans, .ref h_o_makers, .ref h_o_halves, .int o_raised, .ref h_o_all, .ref h_o_text, .ref h_o_saved, .ref h_o_undone, .int o_undos, .int o_reached, .int o_length, .int o_begin, .int o_letters, .int o_sort, .long o_word, .int o_wrongAt, .int o_badAt, .int o_bad, .ref h_o_told, .ref h_o_shift, .int o_firstX, .int o_firstY, .int o_secondX, .int o_secondY, .ref h_o_rootOf, .ref h_o_becomes, .ref h_o_comes, .ref h_o_next, .int o_x])), (h_o_becomes, .inl (ca 0, 4, .inl o_becomes_r)), (h_o_comes, .inl (ca 0, 4, .inl o_comes_r)), (h_o_all, .inl (ca 0, 350, .inl o_all_r)), (h_o_plans, .inl (ca 0, 80, .inl o_plans_r))]) (hS : va_S A s.heap H locs) (ls : Array Slot) (hl : lv_has ls 8 [(0, .ref h_o), (1, .int p1), (2, .int p2), (3, .int p3)]), WW H locs (F0 m 31 ls []) := by
    intro o_becomes_r o_comes_r rr hf hG H locs hP hD hS ls hl
    refine h2 ?_
    unfold fX8_isColoured_31 at hf
    refine lv_iconst (v := 0) hx hb dX8_isColoured_31 (by decide) ?_
    refine lv_istore (lv' := [(4, .int (0 : Int32)), (0, .ref h_o), (1, .int p1), (2, .int p2), (3, .int p3)]) hx hb dX8_isColoured_32 hl (by decide) rfl (fun ls hl => ?_)
    exact h1 (J_34  1000 (0 : Int32) o_becomes_r o_comes_r _ hf hG _ _ hP hD hS _ (lv_sub hl [1, 2, 3, 4, 0] rfl))
  have J_3 : ∀ (n : Nat) (v4 : Int32) (o_becomes_r : Nat → Int32) (o_comes_r : Nat → Int32) (rr : Int32 × (Nat → Int32) × (Nat → Int32)) (hf : ds_it (fun s => fX8_isColoured_3_b o_all_r o_plans_r p1 p2 p3 s.1 s.2.1 s.2.2) n (v4, o_becomes_r, o_comes_r) = some rr) (hG : G0 rr) (H : Heap) (locs : List Loc) (hP : va_P (dC, dI) vwCl [(h_o, .inr (7, [.ref h_o_plans, .ref h_o_makers, .ref h_o_halves, .int o_raised, .ref h_o_all, .ref h_o_text, .ref h_o_saved, .ref h_o_undone, .int o_undos, .int o_reached, .int o_length, .int o_begin, .int o_letters, .int o_sort, .long o_word, .int o_wrongAt, .int o_badAt, .int o_bad, .ref h_o_told, .ref h_o_shift, .int o_firstX, .int o_firstY, .int o_secondX, .int o_secondY, .ref h_o_rootOf, .ref h_o_becomes, .ref h_o_comes, .ref h_o_next, .int o_x])), (h_o_becomes, .inl (ca 0, 4, .inl o_becomes_r)), (h_o_comes, .inl (ca 0, 4, .inl o_comes_r)), (h_o_all, .inl (ca 0, 350, .inl o_all_r)), (h_o_plans, .inl (ca 0, 80, .inl o_plans_r))] H) (hD : va_D A [(h_o, .inr (7, [.ref h_o_plans, .ref h_o_makers, .ref h_o_halves, .int o_raised, .ref h_o_all, .ref h_o_text, .ref h_o_saved, .ref h_o_undone, .int o_undos, .int o_reached, .int o_length, .int o_begin, .int o_letters, .int o_sort, .long o_word, .int o_wrongAt, .int o_badAt, .int o_bad, .ref h_o_told, .ref h_o_shift, .int o_firstX, .int o_firstY, .int o_secondX, .int o_secondY, .ref h_o_rootOf, .ref h_o_becomes, .ref h_o_comes, .ref h_o_next, .int o_x])), (h_o_becomes, .inl (ca 0, 4, .inl o_becomes_r)), (h_o_comes, .inl (ca 0, 4, .inl o_comes_r)), (h_o_all, .inl (ca 0, 350, .inl o_all_r)), (h_o_plans, .inl (ca 0, 80, .inl o_plans_r))]) (hS : va_S A s.heap H locs) (ls : Array Slot) (hl : lv_has ls 8 [(0, .ref h_o), (1, .int p1), (2, .int p2), (3, .int p3), (4, .int v4)]), WW H locs (F0 m 3 ls []) := by
    intro  n
    induction n with
    | zero => intro v4 o_becomes_r o_comes_r rr hf; exact (ds_it_zero hf).elim
    | succ n ih3 =>
      intro v4 o_becomes_r o_comes_r rr hf hG H locs hP hD hS ls hl
      refine h2 ?_
      obtain ⟨rr, hf, hG⟩ := ds_it_succ hf hG
      replace hf : fX8_isColoured_3_b o_all_r o_plans_r p1 p2 p3 v4 o_becomes_r o_comes_r = some rr := hf
      obtain ⟨G1, eG1⟩ : ∃ G : ((Int32 × (Nat → Int32) × (Nat → Int32)) ⊕ (Int32 × (Nat → Int32) × (Nat → Int32))) → Prop, G = ds_G (fun s' => ∃ r', ds_it (fun s => fX8_isColoured_3_b o_all_r o_plans_r p1 p2 p3 s.1 s.2.1 s.2.2) n s' = some r' ∧ G0 r') G0 := ⟨_, rfl⟩
      rw [← eG1] at hG
      unfold fX8_isColoured_3_b at hf
      refine lv_iload hx hb dX8_isColoured_3 (lv_at hl 4 rfl) ?_
      refine lv_iconst (v := 4) hx hb dX8_isColoured_5 (by decide) ?_
      refine lv_icmp_ge (tgt := 31) hx hb dX8_isColoured_6 (by decide) (fun c_6 => ?_) (fun c_6 => ?_)
      · replace hf := ds_t c_6 hf
        obtain ⟨rr, hr_0, hf⟩ := ds_ob hf
        have hf := Option.some.inj hf
        subst hf
        rw [eG1] at hG
        replace hG : G0 rr := hG
        have hf := hr_0
        exact h1 (J_31 o_becomes_r o_comes_r _ hf hG _ _ hP hD hS _ (lv_sub hl [0, 1, 2, 3] rfl))
      · replace hf := ds_f c_6 hf
        refine lv_aload_n hx hb dX8_isColoured_9 rfl (lv_at hl 0 rfl) ?_
        refine va_get (D := (dC, dI)) (ci := 7) (v := .ref h_o_becomes) (C := RX8) (T := TX8) (N := 29) hx hb hts (fun w h => List.mem_cons_of_mem _ (kc_X8 w h)) hown hK hP 0 rfl rfl 25 (by decide) (hg kw_803) (fun _ h9 => h9) rfl dX8_isColoured_10 ?_
        refine lv_iload hx hb dX8_isColoured_13 (lv_at hl 4 rfl) ?_
        refine lv_iconst (v := -1) hx hb dX8_isColoured_15 (by decide) ?_
        obtain ⟨i_16, hf⟩ := ds_ci hf
        refine va_iast hx hb hK hP hD hS 1 0 rfl rfl i_16 dX8_isColoured_16 (fun H locs hP hD hS => ?_)
        have hP : va_P (dC, dI) vwCl [(h_o, .inr (7, [.ref h_o_plans, .ref h_o_makers, .ref h_o_halves, .int o_raised, .ref h_o_all, .ref h_o_text, .ref h_o_saved, .ref h_o_undone, .int o_undos, .int o_reached, .int o_length, .int o_begin, .int o_letters, .int o_sort, .long o_word, .int o_wrongAt, .int o_badAt, .int o_bad, .ref h_o_told, .ref h_o_shift, .int o_firstX, .int o_firstY, .int o_secondX, .int o_secondY, .ref h_o_rootOf, .ref h_o_becomes, .ref h_o_comes, .ref h_o_next, .int o_x])), (h_o_becomes, .inl (ca 0, 4, .inl (upd o_becomes_r v4.toNatClampNeg (-1 : Int32)))), (h_o_comes, .inl (ca 0, 4, .inl o_comes_r)), (h_o_all, .inl (ca 0, 350, .inl o_all_r)), (h_o_plans, .inl (ca 0, 80, .inl o_plans_r))] H := hP
        have hD : va_D A [(h_o, .inr (7, [.ref h_o_plans, .ref h_o_makers, .ref h_o_halves, .int o_raised, .ref h_o_all, .ref h_o_text, .ref h_o_saved, .ref h_o_undone, .int o_undos, .int o_reached, .int o_length, .int o_begin, .int o_letters, .int o_sort, .long o_word, .int o_wrongAt, .int o_badAt, .int o_bad, .ref h_o_told, .ref h_o_shift, .int o_firstX, .int o_firstY, .int o_secondX, .int o_secondY, .ref h_o_rootOf, .ref h_o_becomes, .ref h_o_comes, .ref h_o_next, .int o_x])), (h_o_becomes, .inl (ca 0, 4, .inl (upd o_becomes_r v4.toNatClampNeg (-1 : Int32)))), (h_o_comes, .inl (ca 0, 4, .inl o_comes_r)), (h_o_all, .inl (ca 0, 350, .inl o_all_r)), (h_o_plans, .inl (ca 0, 80, .inl o_plans_r))] := hD
        refine lv_aload_n hx hb dX8_isColoured_17 rfl (lv_at hl 0 rfl) ?_
        refine va_get (D := (dC, dI)) (ci := 7) (v := .ref h_o_comes) (C := RX8) (T := TX8) (N := 29) hx hb hts (fun w h => List.mem_cons_of_mem _ (kc_X8 w h)) hown hK hP 0 rfl rfl 26 (by decide) (hg kw_804) (fun _ h9 => h9) rfl dX8_isColoured_18 ?_
        refine lv_iload hx hb dX8_isColoured_21 (lv_at hl 4 rfl) ?_
        refine lv_iconst (v := -1) hx hb dX8_isColoured_23 (by decide) ?_
        obtain ⟨i_24, hf⟩ := ds_ci hf
        refine va_iast hx hb hK hP hD hS 2 0 rfl rfl i_24 dX8_isColoured_24 (fun H locs hP hD hS => ?_)
        have hP : va_P (dC, dI) vwCl [(h_o, .inr (7, [.ref h_o_plans, .ref h_o_makers, .ref h_o_halves, .int o_raised, .ref h_o_all, .ref h_o_text, .ref h_o_saved, .ref h_o_undone, .int o_undos, .int o_reached, .int o_length, .int o_begin, .int o_letters, .int o_sort, .long o_word, .int o_wrongAt, .int o_badAt, .int o_bad, .ref h_o_told, .ref h_o_shift, .int o_firstX, .int o_firstY, .int o_secondX, .int o_secondY, .ref h_o_rootOf, .ref h_o_becomes, .ref h_o_comes, .ref h_o_next, .int o_x])), (h_o_becomes, .inl (ca 0, 4, .inl (upd o_becomes_r v4.toNatClampNeg (-1 : Int32)))), (h_o_comes, .inl (ca 0, 4, .inl (upd o_comes_r v4.toNatClampNeg (-1 : Int32)))), (h_o_all, .inl (ca 0, 350, .inl o_all_r)), (h_o_plans, .inl (ca 0, 80, .inl o_plans_r))] H := hP
        have hD : va_D A [(h_o, .inr (7, [.ref h_o_plans, .ref h_o_makers, .ref h_o_halves, .int o_raised, .ref h_o_all, .ref h_o_text, .ref h_o_saved, .ref h_o_undone, .int o_undos, .int o_reached, .int o_length, .int o_begin, .int o_letters, .int o_sort, .long o_word, .int o_wrongAt, .int o_badAt, .int o_bad, .ref h_o_told, .ref h_o_shift, .int o_firstX, .int o_firstY, .int o_secondX, .int o_secondY, .ref h_o_rootOf, .ref h_o_becomes, .ref h_o_comes, .ref h_o_next, .int o_x])), (h_o_becomes, .inl (ca 0, 4, .inl (upd o_becomes_r v4.toNatClampNeg (-1 : Int32)))), (h_o_comes, .inl (ca 0, 4, .inl (upd o_comes_r v4.toNatClampNeg (-1 : Int32)))), (h_o_all, .inl (ca 0, 350, .inl o_all_r)), (h_o_plans, .inl (ca 0, 80, .inl o_plans_r))] := hD
        refine lv_iinc (v := (v4 + 1)) (lv' := [(4, .int (v4 + 1)), (0, .ref h_o), (1, .int p1), (2, .int p2), (3, .int p3)]) hx hb dX8_isColoured_25 hl (k := 4) rfl rfl (by decide) rfl (fun ls hl => ?_)
        refine lv_goto (tgt := 3) hx hb dX8_isColoured_28 (by decide) ?_
        have hf := Option.some.inj hf
        subst hf
        rw [eG1] at hG
        obtain ⟨rr, hf, hG⟩ := hG
        exact h1 (ih3 (v4 + 1) (upd o_becomes_r v4.toNatClampNeg (-1 : Int32)) (upd o_comes_r v4.toNatClampNeg (-1 : Int32)) rr hf hG _ _ hP hD hS _ (lv_sub hl [1, 2, 3, 4, 0] rfl))
  unfold fX8_isColoured at hf
  refine lv_iconst (v := 0) hx hb dX8_isColoured_0 (by decide) ?_
  refine lv_istore (lv' := [(4, .int (0 : Int32)), (0, .ref h_o), (1, .int p1), (2, .int p2), (3, .int p3)]) hx hb dX8_isColoured_1 hl (by decide) rfl (fun ls hl => ?_)
  exact h1 (J_3  1000 (0 : Int32) o_becomes_r o_comes_r _ hf hG _ _ hP hD hS _ (lv_sub hl [1, 2, 3, 4, 0] rfl))
