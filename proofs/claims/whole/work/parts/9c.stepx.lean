/-! the class's step, where it throws -/
def dt_ex : String := "java/util/NoSuchElementException"
def dt_at7 : List Cond := dt_at RX7 240 "java/util/NoSuchElementException" 13 prog_25_method_4_code "java/lang/RuntimeException" ["java/lang/Exception"]
/-- words that the tables decide, but not among the good ones -/
def dt_nw : List Cond := [.declares (Bundle.initS "java/lang/RuntimeException"), .declares (Bundle.initS "java/lang/Exception"), .declares (Bundle.initS Bundle.tN), .castable "java/util/NoSuchElementException" "java/util/NoSuchElementException"]
theorem dt_nw_on : ∀ w ∈ dt_nw, w.onTables = true := by
  intro w hw
  simp only [dt_nw, List.mem_cons, List.not_mem_nil, or_false] at hw
  rcases hw with rfl | rfl | rfl | rfl <;> rfl
theorem dt_nw_warm {s U : State} (hW : s.WarmedH U.vm) (h : ∀ w ∈ dt_nw, va_Nw w s) : ∀ w ∈ dt_nw, va_Nw w U := by
  intro w hw
  have h9 := h w hw
  simp only [dt_nw, List.mem_cons, List.not_mem_nil, or_false] at hw
  rcases hw with rfl | rfl | rfl | rfl
  · exact va_Nw.warmD hW h9
  · exact va_Nw.warmD hW h9
  · exact va_Nw.warmD hW h9
  · exact va_Nw.warmC hW h9
theorem dt_words : ∀ w ∈ dt_at7.filter vx_no, w ∈ ds_gw ∨ w ∈ dt_nw := by
  intro w hw
  obtain ⟨hm, hn⟩ := List.mem_filter.mp hw
  simp only [dt_at7, dt_at, Bundle.throwableAtoms, Bundle.throwableSAtoms, Bundle.passSAtoms, Bundle.chainSAtoms, List.cons_append, List.nil_append, List.mem_cons, List.not_mem_nil, or_false] at hm
  rcases hm with rfl | rfl | rfl | rfl | rfl | rfl | rfl | rfl | rfl | rfl | rfl | rfl | rfl | rfl | rfl | rfl | rfl | rfl | rfl | rfl | rfl | rfl | rfl | rfl | rfl | rfl | rfl | rfl | rfl | rfl | rfl | rfl | rfl | rfl | rfl | rfl | rfl | rfl | rfl | rfl | rfl | rfl | rfl | rfl | rfl | rfl | rfl | rfl | rfl | rfl | rfl | rfl | rfl | rfl | rfl | rfl | rfl
  · exact Or.inl (ds_g (ds_t1 17 (by decide +kernel)) rfl)
  · exact Or.inl (ds_g (ds_t4 117 (by decide +kernel)) rfl)
  · exact Or.inl (ds_g (ds_t4 126 (by decide +kernel)) rfl)
  · exact Or.inl (ds_g (ds_t4 128 (by decide +kernel)) rfl)
  · exact Or.inl (ds_g (ds_t4 131 (by decide +kernel)) rfl)
  · exact Or.inl (ds_g (ds_t4 133 (by decide +kernel)) rfl)
  · exact Or.inl (ds_g (ds_t4 118 (by decide +kernel)) rfl)
  · exact Or.inl (ds_g (ds_t4 119 (by decide +kernel)) rfl)
  · exact Or.inl (ds_g (ds_t1 27 (by decide +kernel)) rfl)
  · exact Or.inl (ds_g (ds_t1 28 (by decide +kernel)) rfl)
  · exact Or.inl (ds_g (ds_t4 120 (by decide +kernel)) rfl)
  · exact Or.inl (ds_g (ds_t4 125 (by decide +kernel)) rfl)
  · exact Or.inl (ds_g (ds_t4 129 (by decide +kernel)) rfl)
  · exact Or.inl (ds_g (ds_t4 149 (by decide +kernel)) rfl)
  · exact Or.inl (ds_g (ds_t4 107 (by decide +kernel)) rfl)
  · exact Or.inl (ds_g (ds_t4 150 (by decide +kernel)) rfl)
  · exact Or.inl (ds_g (ds_t4 109 (by decide +kernel)) rfl)
  · exact Or.inl (ds_g (ds_t4 151 (by decide +kernel)) rfl)
  · exact Or.inl (ds_g (ds_t4 111 (by decide +kernel)) rfl)
  · exact Or.inl (ds_g (ds_t4 121 (by decide +kernel)) rfl)
  · exact absurd hn (by decide +kernel)
  · exact Or.inl (ds_g (ds_t4 123 (by decide +kernel)) rfl)
  · exact absurd hn (by decide +kernel)
  · exact Or.inl (ds_g (ds_t4 113 (by decide +kernel)) rfl)
  · exact Or.inl (ds_g (ds_t4 145 (by decide +kernel)) rfl)
  · exact Or.inl (ds_g (ds_t4 146 (by decide +kernel)) rfl)
  · exact Or.inl (ds_g (ds_t4 148 (by decide +kernel)) rfl)
  · exact Or.inl (ds_g (ds_t4 113 (by decide +kernel)) rfl)
  · exact Or.inl (ds_g (ds_t4 136 (by decide +kernel)) rfl)
  · exact Or.inl (ds_g (ds_t4 137 (by decide +kernel)) rfl)
  · exact Or.inl (ds_g (ds_t4 138 (by decide +kernel)) rfl)
  · exact Or.inl (ds_g (ds_t4 139 (by decide +kernel)) rfl)
  · exact Or.inr (List.mem_of_getElem? (i := 0) rfl)
  · exact Or.inl (ds_g (ds_t4 139 (by decide +kernel)) rfl)
  · exact Or.inl (ds_g (ds_t4 140 (by decide +kernel)) rfl)
  · exact Or.inl (ds_g (ds_t4 141 (by decide +kernel)) rfl)
  · exact Or.inl (ds_g (ds_t4 142 (by decide +kernel)) rfl)
  · exact Or.inr (List.mem_of_getElem? (i := 1) rfl)
  · exact Or.inl (ds_g (ds_t4 142 (by decide +kernel)) rfl)
  · exact Or.inl (ds_g (ds_t4 143 (by decide +kernel)) rfl)
  · exact Or.inl (ds_g (ds_t4 144 (by decide +kernel)) rfl)
  · exact Or.inl (ds_g (ds_t4 145 (by decide +kernel)) rfl)
  · exact Or.inr (List.mem_of_getElem? (i := 2) rfl)
  · exact Or.inl (ds_g (ds_t4 135 (by decide +kernel)) rfl)
  · exact Or.inl (ds_g (ds_t4 96 (by decide +kernel)) rfl)
  · exact Or.inr (List.mem_of_getElem? (i := 3) rfl)
  · exact Or.inl (ds_g (ds_t4 104 (by decide +kernel)) rfl)
  · exact Or.inl (ds_g (ds_t4 105 (by decide +kernel)) rfl)
  · exact Or.inl (ds_g (ds_t4 106 (by decide +kernel)) rfl)
  · exact Or.inl (ds_g (ds_t4 108 (by decide +kernel)) rfl)
  · exact Or.inl (ds_g (ds_t4 110 (by decide +kernel)) rfl)
  · exact Or.inl (ds_g (ds_t4 112 (by decide +kernel)) rfl)
  · exact Or.inl (ds_g (ds_t4 114 (by decide +kernel)) rfl)
  · exact absurd hn (by decide +kernel)
  · exact absurd hn (by decide +kernel)
  · exact Or.inl (ds_g (ds_t4 116 (by decide +kernel)) rfl)
  · exact Or.inl (ds_g (ds_t4 115 (by decide +kernel)) rfl)
theorem dt_kx : Cond.classLink RX7 236 "java/util/NoSuchElementException" ∈ ds_gw := ds_g (ds_t4 95 (by decide +kernel)) rfl
theorem dt_ki : Cond.initialized "java/util/NoSuchElementException" ∈ ds_gw := ds_g (ds_t1 20 (by decide +kernel)) rfl
theorem dt_good : ∀ w ∈ Cond.classLink RX7 236 "java/util/NoSuchElementException" :: Cond.initialized "java/util/NoSuchElementException" :: dt_at7.filter vx_no, vx_ot w = true := by
  have hgd : ∀ w : Cond, w ∈ ds_gw → vx_ot w = true := fun w h => by
    have h9 : goodWord w = true := (List.mem_filter.mp h).2
    unfold vx_ot
    rw [h9, Bool.or_true]
  intro w hw
  rcases List.mem_cons.mp hw with rfl | hw
  · exact hgd _ dt_kx
  · rcases List.mem_cons.mp hw with rfl | hw
    · exact hgd _ dt_ki
    · rcases dt_words w hw with h | h
      · exact hgd _ h
      · unfold vx_ot
        rw [dt_nw_on w h, Bool.true_or]
/-- what a throw needs of the world -/
def dt_E (sq : Nat) (A : Nat → Prop) (U : State) (H : Heap) : Prop :=
  (∀ w ∈ dt_nw, va_Nw w U) ∧ vk_R RX7 238 "what is 0, 1 or 2" sq U ∧ vx_Zq Bundle.tN "UNASSIGNED_STACK" Bundle.steD A U H ∧ vx_Zq Bundle.tN "SUPPRESSED_SENTINEL" Bundle.listD A U H
theorem dt_E.warm {sq : Nat} {A : Nat → Prop} {s U : State} {H : Heap} (hW : s.WarmedH U.vm) (h : dt_E sq A s H) : dt_E sq A U H :=
  ⟨dt_nw_warm hW h.1, vk_R.warm hW h.2.1, vx_Zq.moved hW.alike h.2.2.1, vx_Zq.moved hW.alike h.2.2.2⟩
theorem dt_E.kept {sq : Nat} {A : Nat → Prop} {U : State} {H H1 : Heap} (h : dt_E sq A U H) (hq : ∀ a : Nat, a < H.size → ¬ A a → H1[a]? = H[a]?) : dt_E sq A U H1 := ⟨h.1, h.2.1, h.2.2.1.kept hq, h.2.2.2.kept hq⟩
theorem dt_E.narrow {sq : Nat} {A B : Nat → Prop} {U : State} {H : Heap} (h : dt_E sq A U H) (hq : ∀ q, B q → A q) : dt_E sq B U H := ⟨h.1, h.2.1, h.2.2.1.narrow hq, h.2.2.2.narrow hq⟩
theorem dt_E.same {sq : Nat} {A : Nat → Prop} {s U : State} {H : Heap} (hvm : s.vm = U.vm) (h : dt_E sq A s H) : dt_E sq A U H := h.warm (by rw [← hvm]; exact State.WarmedH.refl s)
def dt_Pre (sq sz : Nat) : State → Prop := fun U => U.heap.size = sz ∧ dt_E sq (fun q => sz ≤ q) U U.heap
theorem dt_blind {sq sz : Nat} {av : List Value} : FrameBlind (va_Pc av (dt_Pre sq sz)) := by
  intro a U g mk q
  obtain ⟨q0, q1, qE⟩ := q
  exact ⟨q0, q1, dt_E.same (s := U) (U := U.calling g mk a) (H := U.heap) rfl qE⟩
theorem dt_stepX (l : Launch) (hl0 : l.stackTraces = false) (o sq sz : Nat) (p1 p2 : Int32) (hw : p2 < 0 ∨ 2 < p2) :
    vx_Met l yX7_step (Cond.code yX7_step cX7_step 5 (some .int) :: ds_gw) { frames := 6, cells := 1, slots := 6, locals := 150 } (va_Pc [.ref o, .int p1, .int p2] (dt_Pre sq sz))
      (va_Qi (fun _ (_ : Unit) => False) (fun _ _ => True) (fun q => sz ≤ q)) (vx_X (fun _ : Unit => True) (fun E _ _ => E = "java/util/NoSuchElementException") (fun q => sz ≤ q)) 1 6 (fun q => sz ≤ q) := by
  refine vx_ofW (cc := cX7_step) (maxL := 5) (ret := (some .int)) (by decide) rfl ?_
  intro p e s m args below meth c s₁ B hml htb hv
  obtain ⟨rfl, hsz, hE⟩ := hv
  have hx := B.exec
  have hb := B.bytes
  have hts := atoms_spec (ws := Cond.code yX7_step cX7_step 5 (some .int) :: ds_gw) B.pre
  have hg : ∀ {w : Cond}, w ∈ ds_gw → w.before _ s = true := fun h => hts _ (List.mem_cons_of_mem _ h)
  have hown : s.vm.findClass RX7 = some m.cls := findClass_of_methodNamed B.named
  have hlocks := B.notSynchronized
  subst hsz
  have hS : va_S (fun q => s.heap.size ≤ q) s.heap s.heap [] := va_S.rf
  have hl := lv_entry ([.ref o, .int p1, .int p2]) (n := 5) (Nat.le_of_ble_eq_true rfl)
  rw [lg_entry_eq]
  generalize (lg_sl ([.ref o, .int p1, .int p2]) ++ List.replicate (5 - (lg_sl ([.ref o, .int p1, .int p2])).length) Slot.unset).toArray = ls at hl ⊢
  have hl : lv_has ls 5 [(0, .ref o), (1, .int p1), (2, .int p2)] := hl
  have J : W p l e (headSpec (Cond.code yX7_step cX7_step 5 (some .int) :: ds_gw) { frames := 6, cells := 1, slots := 6, locals := 150 }).room s m #[Value.ref o, Value.int p1, Value.int p2] below meth c s.heap [] 0 0 (vx_MQ below (va_Qi (fun _ (_ : Unit) => False) (fun _ _ => True) (fun q => s.heap.size ≤ q)) (vx_X (fun _ : Unit => True) (fun E _ _ => E = "java/util/NoSuchElementException") (fun q => s.heap.size ≤ q)) #[Value.ref o, Value.int p1, Value.int p2] s 1 6 (fun q => s.heap.size ≤ q)) (F0 m 9 ls []) := by
    refine dt_throw (pc := 9) hx hb hl0 (own := RX7) (cls := "java/util/NoSuchElementException") (text := "what is 0, 1 or 2") (nY := "java/lang/RuntimeException") (nr := ["java/lang/Exception"]) (ik := 236) (is := 238) (ic := 240) (ix := 13) (sa := sq) (rx := prog_25_method_4_code) (A := fun q => s.heap.size ≤ q)
      (by decide +kernel) (by decide +kernel) (by decide +kernel) (by decide +kernel) hown (by decide +kernel) (by decide +kernel) (hg dt_kx) (hg dt_ki) hE.2.1 ?_ dt_good hE.2.2.1 hE.2.2.2 hS (hl.1.trans hml.symm) dX7_step_9 dX7_step_12 dX7_step_13 dX7_step_15 dX7_step_18
      (fun x hx9 => (htb x hx9).elim) (by decide) (by decide) (by decide) (by decide) hlocks (fun t ht h1 h2 => ⟨(), trivial, rfl, h1, fun q hq _ => h2 q hq⟩) (fun z hz => nomatch hz) (by decide) (by decide)
    intro w hw9
    rcases dt_words w hw9 with h | h
    · exact hg h
    · exact va_Nw.use (dt_nw_on w h) (hE.1 w h)
  refine lv_iload_n hx hb dX7_step_0 rfl (lv_at hl 2 rfl) ?_
  refine lv_if_lt (tgt := 9) hx hb dX7_step_1 (by decide) (fun c_1 => ?_) (fun c_1 => ?_)
  · exact J
  · refine lv_iload_n hx hb dX7_step_4 rfl (lv_at hl 2 rfl) ?_
    refine lv_iconst (v := 2) hx hb dX7_step_5 (by decide) ?_
    refine lv_icmp_le (tgt := 19) hx hb dX7_step_6 (by decide) (fun c_6 => ?_) (fun c_6 => ?_)
    · exfalso
      rcases hw with h | h
      · exact c_1 h
      · rw [Int32.lt_iff_toInt_lt] at h
        rw [Int32.le_iff_toInt_le] at c_6
        omega
    · exact J
