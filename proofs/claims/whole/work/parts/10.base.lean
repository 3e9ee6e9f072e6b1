/-! the words that every method has, the environment that nobody writes, loops, small rows -/
def ds_gw : List Cond := lw_tbl.filter goodWord
def ds_isN : Cond → Bool
  | .fieldLinkNest _ _ _ _ _ _ => true
  | .methodLinkNest _ _ _ _ => true
  | _ => false
def ds_nw : List Cond := lw_tbl.filter ds_isN
theorem ds_gw_good {w : Cond} (h : w ∈ ds_gw) : (w.onTables && w.keeps) = true ∨ ∃ ty, w = .arrayClass ty := good_of_word (List.mem_filter.mp h).2
theorem ds_t1 {w : Cond} (i : Nat) (h : tables_1_1[i]? = some w) : w ∈ lw_tbl := List.mem_append_right _ (List.mem_append_left _ (List.mem_of_getElem? h))
theorem ds_t2 {w : Cond} (i : Nat) (h : tables_1_2[i]? = some w) : w ∈ lw_tbl := List.mem_append_right _ (List.mem_append_right _ (List.mem_append_left _ (List.mem_of_getElem? h)))
theorem ds_t3 {w : Cond} (i : Nat) (h : tables_1_3[i]? = some w) : w ∈ lw_tbl := List.mem_append_right _ (List.mem_append_right _ (List.mem_append_right _ (List.mem_append_left _ (List.mem_of_getElem? h))))
theorem ds_t4 {w : Cond} (i : Nat) (h : tables_1_4[i]? = some w) : w ∈ lw_tbl := List.mem_append_right _ (List.mem_append_right _ (List.mem_append_right _ (List.mem_append_right _ (List.mem_append_left _ (List.mem_of_getElem? h)))))
theorem ds_t5 {w : Cond} (i : Nat) (h : tables_1_5[i]? = some w) : w ∈ lw_tbl := List.mem_append_right _ (List.mem_append_right _ (List.mem_append_right _ (List.mem_append_right _ (List.mem_append_right _ (List.mem_append_left _ (List.mem_of_getElem? h))))))
theorem ds_t6 {w : Cond} (i : Nat) (h : tables_1_6[i]? = some w) : w ∈ lw_tbl := List.mem_append_right _ (List.mem_append_right _ (List.mem_append_right _ (List.mem_append_right _ (List.mem_append_right _ (List.mem_append_right _ (List.mem_of_getElem? h))))))
theorem ds_sel {y : MethodName} (n : Nat) (h : (y, n) ∈ lw_privs) : Cond.selects y.cls y y ∈ lw_tbl := List.mem_append_left _ (List.mem_map.mpr ⟨(y, n), h, rfl⟩)
theorem ds_p1 {q : MethodName × Nat} (i : Nat) (h : lw_privs_1[i]? = some q) : q ∈ lw_privs := List.mem_append_left _ (List.mem_of_getElem? h)
theorem ds_p2 {q : MethodName × Nat} (i : Nat) (h : lw_privs_2[i]? = some q) : q ∈ lw_privs := List.mem_append_right _ (List.mem_append_left _ (List.mem_of_getElem? h))
theorem ds_p3 {q : MethodName × Nat} (i : Nat) (h : lw_privs_3[i]? = some q) : q ∈ lw_privs := List.mem_append_right _ (List.mem_append_right _ (List.mem_append_left _ (List.mem_of_getElem? h)))
theorem ds_p4 {q : MethodName × Nat} (i : Nat) (h : lw_privs_4[i]? = some q) : q ∈ lw_privs := List.mem_append_right _ (List.mem_append_right _ (List.mem_append_right _ (List.mem_append_left _ (List.mem_of_getElem? h))))
theorem ds_p5 {q : MethodName × Nat} (i : Nat) (h : lw_privs_5[i]? = some q) : q ∈ lw_privs := List.mem_append_right _ (List.mem_append_right _ (List.mem_append_right _ (List.mem_append_right _ (List.mem_append_left _ (List.mem_of_getElem? h)))))
theorem ds_p6 {q : MethodName × Nat} (i : Nat) (h : lw_privs_6[i]? = some q) : q ∈ lw_privs := List.mem_append_right _ (List.mem_append_right _ (List.mem_append_right _ (List.mem_append_right _ (List.mem_append_right _ (List.mem_of_getElem? h)))))
theorem ds_g {w : Cond} (h : w ∈ lw_tbl) (hg : goodWord w = true) : w ∈ ds_gw := List.mem_filter.mpr ⟨h, hg⟩
theorem ds_n {w : Cond} (h : w ∈ lw_tbl) (hg : ds_isN w = true) : w ∈ ds_nw := List.mem_filter.mpr ⟨h, hg⟩
theorem ds_gV {own C : String} {idx : Nat} {y : MethodName} {c : ByteArray} {n : Nat} {r : Option FieldType} {hd : Cond} (h1 : Cond.methodLink own idx y ∈ ds_gw) (h2 : Cond.instanceMethod y ∈ ds_gw) (h3 : Cond.selects C y y ∈ ds_gw) (h4 : Cond.initialized C ∈ ds_gw) (h5 : Cond.code y c n r ∈ ds_gw) : GoodIn (hd :: ds_gw) (wsV own idx C y (Cond.code y c n r :: ds_gw)) := by
  intro w hw
  have h : w ∈ ds_gw := by
    unfold wsV at hw
    simp only [List.cons_append, List.nil_append, List.mem_cons] at hw
    rcases hw with rfl | rfl | rfl | rfl | rfl | hw <;> assumption
  exact ⟨List.mem_cons_of_mem _ h, ds_gw_good h⟩
theorem ds_gS {own : String} {idx : Nat} {y : MethodName} {c : ByteArray} {n : Nat} {r : Option FieldType} {hd : Cond} (h1 : Cond.methodLink own idx y ∈ ds_gw) (h2 : Cond.static y ∈ ds_gw) (h4 : Cond.initialized y.cls ∈ ds_gw) (h5 : Cond.code y c n r ∈ ds_gw) : GoodIn (hd :: ds_gw) (va_wsS own idx y (Cond.code y c n r :: ds_gw)) := by
  intro w hw
  have h : w ∈ ds_gw := by
    unfold va_wsS at hw
    simp only [List.cons_append, List.nil_append, List.mem_cons] at hw
    rcases hw with rfl | rfl | rfl | rfl | hw <;> assumption
  exact ⟨List.mem_cons_of_mem _ h, ds_gw_good h⟩
theorem ds_gN {y : MethodName} {c : ByteArray} {n : Nat} {r : Option FieldType} {hd : Cond} (h5 : Cond.code y c n r ∈ ds_gw) : GoodIn (hd :: ds_gw) (Cond.code y c n r :: ds_gw) := by
  intro w hw
  have h : w ∈ ds_gw := by
    rcases List.mem_cons.mp hw with rfl | hw <;> assumption
  exact ⟨List.mem_cons_of_mem _ h, ds_gw_good h⟩
-- what the tables of the class hold
def ds_tab : List Int32 := [1, 0, 0, 1, 0, -1, 1, 0, -1, 0, 0, -1, 0, 1, -1, 0, 1, 0, 0, -1, -1, 0, 0, 1, 0, 1, 1, 0, 0, -1, -1, 0, 1, 0, 0, 1, 0, -1, 1, 1, -1, -1, 1, 0, -1, 0, 0, -1, 0, 1, -1, -1, 1, 1, -1, 0, 0, 1, 1, 0, 0, -1, -1, 0, 1, 1, 0, -1, -1, -1, 0, 1, 1, 0, -1, -1, -1, 0, 1, 1]
def ds_acr : List Int32 := [0, 0, 0, 0, 0, 0, 0, 0, 0, 1, 1, 0, 1, -1, 1, 1, 0, 0, 0, 0, 0, 0, 0, 0, 0, 0, 0, 0, 1, -1, 1, 1, 1, -2, 1, 0, 0, 1, 2, -1]
def ds_mak : List Int32 := [0, 0, 0, 0, 0, 0, 2, 0, 0, 0, 0, 0, 5, 0, 0, 0, 0, 0, 5, 0, 1, 0, 0, 0, 6, 0, 0, 0, 0, 0, 5, 0, 0, 4, 0, 0, 2, 0, 0, 5, 1, 0, 2, 0, 0, 5, 1, 1, 2, 0, 0, 6, 0, 0, 1, 0, 0, 0, 0, 0, 1, 0, 0, 6, 0, 0, 1, 0, 0, 7, 1, 1, 2, 0, 0, 0, 0, 0, 2, 0, 0, 6, 0, 0, 2, 0, 0, 7, 0, 0, 1, 0, 0, 0, 0, 0, 1, 0, 0, 6, 0, 0]
def ds_tabF (j : Nat) : Int32 := ds_tab.getD j 0
def ds_acrF (j : Nat) : Int32 := ds_acr.getD j 0
def ds_makF (j : Nat) : Int32 := ds_mak.getD j 0
abbrev ds_byt : List (List Int32) := [[104, 101, 120], [115, 113, 117, 97, 114, 101]]
def ds_fz (sa : Nat → Nat) : Option Nat := if sa 7 = 0 then none else some (sa 8)
def ds_E (sa : Nat → Nat) (A : Nat → Prop) (U : State) (H : Heap) : Prop :=
  (∀ w ∈ ds_nw, va_Nw w U) ∧
  (va_Z RX1 "TABLE" "[I" (.ref (sa 0)) A U H ∧ va_T .int (sa 0) 80 (fun j => .int (ds_tabF j)) A U H) ∧
  (va_Z RX1 "ACROSS" "[I" (.ref (sa 1)) A U H ∧ va_T .int (sa 1) 40 (fun j => .int (ds_acrF j)) A U H) ∧
  (va_Z RX2 "MAKERS" "[I" (.ref (sa 2)) A U H ∧ va_T .int (sa 2) 102 (fun j => .int (ds_makF j)) A U H) ∧
  (va_Z "java/lang/String" "COMPACT_STRINGS" "Z" (.int 1) A U H ∧ va_Z "jdk/internal/util/Preconditions" "SIOOBE_FORMATTER" "Ljava/util/function/BiFunction;" (va_rf (ds_fz sa)) A U H) ∧
  (vk_R RX5 63 "hex" (sa 3) U ∧ vk_R RX5 69 "square" (sa 4) U) ∧
  vk_S 2 [3, 6] ds_byt (fun i => sa (3 + i)) (fun i => sa (5 + i)) A U H ∧
  (va_AO "OrnamentDesk$Page" U ∧ va_AO "OrnamentDesk$Tile" U)
theorem ds_nw_warm {s U : State} (hW : s.WarmedH U.vm) : ∀ w : Cond, ds_isN w = true → va_Nw w s → va_Nw w U := by
  intro w hn hw
  cases w <;> first | exact va_Nw.warmF hW hw | exact va_Nw.warmM hW hw | (exfalso; exact absurd hn (by simp [ds_isN]))
theorem ds_nw_same {s U : State} (hv : s.vm = U.vm) : ∀ w : Cond, ds_isN w = true → va_Nw w s → va_Nw w U := by
  intro w hn hw
  cases w <;> first | exact va_Nw.same rfl hv hw | (exfalso; exact absurd hn (by simp [ds_isN]))
theorem ds_E.go {sa : Nat → Nat} {A B : Nat → Prop} {s U : State} {H H1 : Heap} (h : ds_E sa A s H) (hq : ∀ a : Nat, a < H.size → ¬ A a → H1[a]? = H[a]?) (hAB : ∀ q, B q → A q) (hW : s.WarmedH U.vm) : ds_E sa B U H1 := by
  obtain ⟨h0, ⟨h1, h2⟩, ⟨h3, h4⟩, ⟨h5, h6⟩, ⟨h7, h7b⟩, ⟨h8, h9⟩, h10, h11, h12⟩ := h
  exact ⟨fun w hw => ds_nw_warm hW w (List.mem_filter.mp hw).2 (h0 w hw), ⟨((h1.kept hq).narrow hAB).moved hW.alike, ((h2.kept hq).narrow hAB).moved hW.alike⟩, ⟨((h3.kept hq).narrow hAB).moved hW.alike, ((h4.kept hq).narrow hAB).moved hW.alike⟩, ⟨((h5.kept hq).narrow hAB).moved hW.alike, ((h6.kept hq).narrow hAB).moved hW.alike⟩, ⟨((h7.kept hq).narrow hAB).moved hW.alike, ((h7b.kept hq).narrow hAB).moved hW.alike⟩, ⟨h8.warm hW, h9.warm hW⟩, ((h10.kept hq).narrow hAB).moved hW.alike, h11.moved hW.alike, h12.moved hW.alike⟩
theorem ds_E.same {sa : Nat → Nat} {A : Nat → Prop} {s U : State} {H : Heap} (h : ds_E sa A s H) (hv : s.vm = U.vm) : ds_E sa A U H := by
  have hal : s.vm.Alike U.vm := by rw [hv]; exact Vm.Alike.refl U.vm
  obtain ⟨h0, ⟨h1, h2⟩, ⟨h3, h4⟩, ⟨h5, h6⟩, ⟨h7, h7b⟩, ⟨h8, h9⟩, h10, h11, h12⟩ := h
  exact ⟨fun w hw => ds_nw_same hv w (List.mem_filter.mp hw).2 (h0 w hw), ⟨h1.moved hal, h2.moved hal⟩, ⟨h3.moved hal, h4.moved hal⟩, ⟨h5.moved hal, h6.moved hal⟩, ⟨h7.moved hal, h7b.moved hal⟩, ⟨h8.same hv.symm, h9.same hv.symm⟩, h10.moved hal, h11.moved hal, h12.moved hal⟩
abbrev ds_ty (ca : Nat → ClassId) : List (ClassId × FieldType) := [(ca 0, .int), (ca 1, .long), (ca 2, .byte), (ca 3, .boolean), (ca 4, .object "OrnamentDesk$Page"), (ca 5, .object "OrnamentDesk$Tile")]
def ds_Pre (dC : Nat → ClassId) (dI : Nat → Nat → Nat) (ca : Nat → ClassId) (sa : Nat → Nat) (ws : va_W) (sz : Nat) : State → Prop := fun U => U.heap.size = sz ∧ va_P (dC, dI) vwCl ws U.heap ∧ va_K (dC, dI) vwCl (ds_ty ca) U ∧ va_D (fun _ => True) ws ∧ ds_E sa (va_A ws sz) U U.heap
theorem ds_blind {dC : Nat → ClassId} {dI : Nat → Nat → Nat} {ca : Nat → ClassId} {sa : Nat → Nat} {ws : va_W} {sz : Nat} {av : List Value} : FrameBlind (va_Pc av (ds_Pre dC dI ca sa ws sz)) := by
  intro a U g mk q
  obtain ⟨q0, q1, qP, qK, qD, qE⟩ := q
  exact ⟨q0, q1, qP, va_K.moved (u := U) (U := U.calling g mk a) (Vm.Alike.refl U.vm) qK, qD, qE.same rfl⟩
theorem ds_fm {α β : Type} (g : α → Option β) (l : List α) (w : List β) (h : l.map g = w.map some) : l.filterMap g = w := by
  have h1 : l.filterMap g = (l.map g).filterMap id := by rw [List.filterMap_map]; rfl
  rw [h1, h, List.filterMap_map]
  exact List.filterMap_some
theorem ds_at {dC : Nat → ClassId} {dI : Nat → Nat → Nat} {ca : Nat → ClassId} {sa : Nat → Nat} {A : Nat → Prop} {s : State} {H : Heap} {locs : List Loc} {ws wc : va_W} (hP : va_P (dC, dI) vwCl ws H) (hD : va_D A ws) (hK : va_K (dC, dI) vwCl (ds_ty ca) s) (hE : ds_E sa A s s.heap) (hS : va_S A s.heap H locs) (hA : ∀ q : Nat, s.heap.size ≤ q → A q) (isC : List Nat) (hn : va_nd isC = true) (hC : isC.map (fun i => ws[i]?) = wc.map some) (av : List Value) :
    ∀ U : State, U.heap = H → s.WarmedH U.vm → va_Pc av (ds_Pre dC dI ca sa wc H.size) av.toArray U := by
  intro U hU hW
  have hF := va_free (wc := wc) hD hS hA isC hC
  refine ⟨rfl, by rw [hU], by rw [hU]; exact hP.sub (ws' := wc) isC (ds_fm _ _ _ hC), va_K.moved hW.alike hK, (hD.sub (ws' := wc) isC hn hC).weaken (fun _ _ _ _ => trivial), ?_⟩
  rw [hU]
  exact hE.go hS.2.1 hF hW
def ds_B (dC : Nat → ClassId) (dI : Nat → Nat → Nat) (A : Nat → Prop) (w1 : va_W) : Unit → State → Prop := fun _ t => va_P (dC, dI) vwCl w1 t.heap ∧ va_D A w1
section DSC
variable {p : Program} {l : Launch} {e : Env} {R : Room} {s : State} {m : MethodId} {args : Array Value} {below : List Frame} {meth : Method} {c : Code} {H : Heap} {locs : List Loc} {cells slots : Nat} {Q : State → Prop}
variable {pc : Nat} {ls : Array Slot} {rest st0 : List Value} {a : Array Value} {A : Nat → Prop} {H0 : Heap} {dC : Nat → ClassId} {dI : Nat → Nat → Nat} {ws wc wr w1 : va_W}
theorem ds_calli {v : Int32} (hr : va_Run p l e R s m args below meth c H locs cells slots 0 0 (F0 m pc ls st0) rest (va_Qi (fun r (_ : Unit) => r = v) (ds_B dC dI (va_A wc H.size) w1) (va_A wc H.size) a) (va_A wc H.size)) (hP : va_P (dC, dI) vwCl ws H) (hD : va_D A ws) (hS : va_S A H0 H locs) (hA : ∀ q : Nat, H0.size ≤ q → A q) (isC isR : List Nat) (hC : isC.map (fun i => ws[i]?) = wc.map some) (hR : isR.map (fun i => ws[i]?) = wr.map some) (hn : va_nd isR = true) (hdis : ∀ i ∈ isR, i ∉ isC)
    (kk : ∀ (H1 : Heap) (locs1 : List Loc), va_P (dC, dI) vwCl (wr ++ w1) H1 → va_D A (wr ++ w1) → va_S A H0 H1 locs1 → W p l e R s m args below meth c H1 locs1 cells slots Q (F0 m (pc + 3) ls (.int v :: rest))) : W p l e R s m args below meth c H locs cells slots Q (F0 m pc ls st0) := by
  have hF := va_free (wc := wc) hD hS hA isC hC
  refine va_calli hr hS (fun q _ h => hF q h) hF (fun r u t H1 locs1 ht hvm hw hB hz1 hk1 hS1 => ?_)
  subst hw
  obtain ⟨hP1, hD1⟩ := hB
  rw [ht] at hP1
  obtain ⟨hP2, hD2⟩ := va_join (wr := wr) (w1 := w1) hP hD isC isR hC hR hn hdis hk1 hF hP1 hD1
  exact kk H1 locs1 hP2 hD2 hS1
theorem ds_calll {v : Int64} (hr : va_Run p l e R s m args below meth c H locs cells slots 0 0 (F0 m pc ls st0) rest (va_Ql (fun r (_ : Unit) => r = v) (ds_B dC dI (va_A wc H.size) w1) (va_A wc H.size) a) (va_A wc H.size)) (hP : va_P (dC, dI) vwCl ws H) (hD : va_D A ws) (hS : va_S A H0 H locs) (hA : ∀ q : Nat, H0.size ≤ q → A q) (isC isR : List Nat) (hC : isC.map (fun i => ws[i]?) = wc.map some) (hR : isR.map (fun i => ws[i]?) = wr.map some) (hn : va_nd isR = true) (hdis : ∀ i ∈ isR, i ∉ isC)
    (kk : ∀ (H1 : Heap) (locs1 : List Loc), va_P (dC, dI) vwCl (wr ++ w1) H1 → va_D A (wr ++ w1) → va_S A H0 H1 locs1 → W p l e R s m args below meth c H1 locs1 cells slots Q (F0 m (pc + 3) ls (.long v :: rest))) : W p l e R s m args below meth c H locs cells slots Q (F0 m pc ls st0) := by
  have hF := va_free (wc := wc) hD hS hA isC hC
  refine va_calll hr hS (fun q _ h => hF q h) hF (fun r u t H1 locs1 ht hvm hw hB hz1 hk1 hS1 => ?_)
  subst hw
  obtain ⟨hP1, hD1⟩ := hB
  rw [ht] at hP1
  obtain ⟨hP2, hD2⟩ := va_join (wr := wr) (w1 := w1) hP hD isC isR hC hR hn hdis hk1 hF hP1 hD1
  exact kk H1 locs1 hP2 hD2 hS1
theorem ds_callv (hr : va_Run p l e R s m args below meth c H locs cells slots 0 0 (F0 m pc ls st0) rest (va_Qv (fun (_ : Unit) => True) (ds_B dC dI (va_A wc H.size) w1) (va_A wc H.size) a) (va_A wc H.size)) (hP : va_P (dC, dI) vwCl ws H) (hD : va_D A ws) (hS : va_S A H0 H locs) (hA : ∀ q : Nat, H0.size ≤ q → A q) (isC isR : List Nat) (hC : isC.map (fun i => ws[i]?) = wc.map some) (hR : isR.map (fun i => ws[i]?) = wr.map some) (hn : va_nd isR = true) (hdis : ∀ i ∈ isR, i ∉ isC)
    (kk : ∀ (H1 : Heap) (locs1 : List Loc), va_P (dC, dI) vwCl (wr ++ w1) H1 → va_D A (wr ++ w1) → va_S A H0 H1 locs1 → W p l e R s m args below meth c H1 locs1 cells slots Q (F0 m (pc + 3) ls rest)) : W p l e R s m args below meth c H locs cells slots Q (F0 m pc ls st0) := by
  have hF := va_free (wc := wc) hD hS hA isC hC
  refine va_callv hr hS (fun q _ h => hF q h) hF (fun u t H1 locs1 ht hvm hw hB hz1 hk1 hS1 => ?_)
  obtain ⟨hP1, hD1⟩ := hB
  rw [ht] at hP1
  obtain ⟨hP2, hD2⟩ := va_join (wr := wr) (w1 := w1) hP hD isC isR hC hR hn hdis hk1 hF hP1 hD1
  exact kk H1 locs1 hP2 hD2 hS1
theorem ds_callq {v : Option Nat} (hr : va_Run p l e R s m args below meth c H locs cells slots 0 0 (F0 m pc ls st0) rest (va_Qq (fun r (_ : Unit) => r = v) (ds_B dC dI (va_A wc H.size) w1) (va_A wc H.size) a) (va_A wc H.size)) (hP : va_P (dC, dI) vwCl ws H) (hD : va_D A ws) (hS : va_S A H0 H locs) (hA : ∀ q : Nat, H0.size ≤ q → A q) (isC isR : List Nat) (hC : isC.map (fun i => ws[i]?) = wc.map some) (hR : isR.map (fun i => ws[i]?) = wr.map some) (hn : va_nd isR = true) (hdis : ∀ i ∈ isR, i ∉ isC)
    (kk : ∀ (H1 : Heap) (locs1 : List Loc), va_P (dC, dI) vwCl (wr ++ w1) H1 → va_D A (wr ++ w1) → va_S A H0 H1 locs1 → W p l e R s m args below meth c H1 locs1 cells slots Q (F0 m (pc + 3) ls (va_rf v :: rest))) : W p l e R s m args below meth c H locs cells slots Q (F0 m pc ls st0) := by
  have hF := va_free (wc := wc) hD hS hA isC hC
  refine va_callq hr hS (fun q _ h => hF q h) hF (fun r u t H1 locs1 ht hvm hw hB hz1 hk1 hS1 => ?_)
  subst hw
  obtain ⟨hP1, hD1⟩ := hB
  rw [ht] at hP1
  obtain ⟨hP2, hD2⟩ := va_join (wr := wr) (w1 := w1) hP hD isC isR hC hR hn hdis hk1 hF hP1 hD1
  exact kk H1 locs1 hP2 hD2 hS1
theorem ds_cap {g0 : JFrame} (k : ∀ WW : Heap → List Loc → JFrame → Prop, (∀ {H : Heap} {locs : List Loc} {g : JFrame}, WW H locs g → W p l e R s m args below meth c H locs cells slots Q g) → (∀ {H : Heap} {locs : List Loc} {g : JFrame}, W p l e R s m args below meth c H locs cells slots Q g → WW H locs g) → W p l e R s m args below meth c H locs cells slots Q g0) : W p l e R s m args below meth c H locs cells slots Q g0 := k (fun H locs g => W p l e R s m args below meth c H locs cells slots Q g) (fun h => h) (fun h => h)
/-- a name for what lies on top -/
theorem ds_nmi {x y : Int32} (h : some x = some y) (k : W p l e R s m args below meth c H locs cells slots Q (F0 m pc ls (.int y :: rest))) : W p l e R s m args below meth c H locs cells slots Q (F0 m pc ls (.int x :: rest)) := by
  cases h; exact k
theorem ds_nml {x y : Int64} (h : some x = some y) (k : W p l e R s m args below meth c H locs cells slots Q (F0 m pc ls (.long y :: rest))) : W p l e R s m args below meth c H locs cells slots Q (F0 m pc ls (.long x :: rest)) := by
  cases h; exact k
theorem ds_ai {f : Nat → Option Nat} {i : Int32} {k : Nat} (h : i.toNatClampNeg = k) (kk : W p l e R s m args below meth c H locs cells slots Q (F0 m pc ls (va_rf (f k) :: rest))) : W p l e R s m args below meth c H locs cells slots Q (F0 m pc ls (va_rf (f i.toNatClampNeg) :: rest)) := by
  subst h; exact kk
end DSC
-- what the methods answer, as functions: a loop, checks
def ds_it {σ ρ : Type} (body : σ → Option (σ ⊕ ρ)) : Nat → σ → Option ρ
  | 0, _ => none
  | n + 1, s => match body s with
    | none => none
    | some (.inl s') => ds_it body n s'
    | some (.inr r) => some r
def ds_G {σ ρ : Type} (K : σ → Prop) (G : ρ → Prop) : σ ⊕ ρ → Prop
  | .inl s => K s
  | .inr r => G r
theorem ds_it_zero {σ ρ : Type} {body : σ → Option (σ ⊕ ρ)} {s : σ} {r : ρ} (h : ds_it body 0 s = some r) : False := by
  simp [ds_it] at h
theorem ds_it_succ {σ ρ : Type} {body : σ → Option (σ ⊕ ρ)} {n : Nat} {s : σ} {r : ρ} {G : ρ → Prop} (h : ds_it body (n + 1) s = some r) (hG : G r) : ∃ q, body s = some q ∧ ds_G (fun s' => ∃ r', ds_it body n s' = some r' ∧ G r') G q := by
  unfold ds_it at h
  split at h
  · cases h
  · next s' hb => exact ⟨_, hb, r, h, hG⟩
  · next r' hb => cases h; exact ⟨_, hb, hG⟩
theorem ds_ob {α β : Type} {x : Option α} {f : α → Option β} {b : β} (h : x.bind f = some b) : ∃ a, x = some a ∧ f a = some b := Option.bind_eq_some_iff.mp h
theorem ds_t {β : Type} {c : Prop} [Decidable c] {A B : Option β} {r : β} (h : c) (hf : (if c then A else B) = some r) : A = some r := by
  rw [if_pos h] at hf; exact hf
theorem ds_f {β : Type} {c : Prop} [Decidable c] {A B : Option β} {r : β} (h : ¬ c) (hf : (if c then A else B) = some r) : B = some r := by
  rw [if_neg h] at hf; exact hf
def ds_in (i : Int32) (n : Nat) : Bool := !(decide (i < 0) || decide (n ≤ i.toNatClampNeg))
theorem ds_in_ok {i : Int32} {n : Nat} (h : ds_in i n = true) : vp_in i n := by
  unfold ds_in at h
  simp only [Bool.not_eq_true', Bool.or_eq_false_iff, decide_eq_false_iff_not] at h
  exact fun q => q.elim h.1 h.2
theorem ds_c {β : Type} {c : Prop} [Decidable c] {A : Option β} {r : β} (hf : (if c then A else none) = some r) : c ∧ A = some r := by
  by_cases h : c
  · rw [if_pos h] at hf; exact ⟨h, hf⟩
  · rw [if_neg h] at hf; cases hf
theorem ds_ci {β : Type} {i : Int32} {n : Nat} {A : Option β} {r : β} (hf : (if ds_in i n = true then A else none) = some r) : vp_in i n ∧ A = some r := ⟨ds_in_ok (ds_c hf).1, (ds_c hf).2⟩
theorem ds_cn {β : Type} {c : Prop} [Decidable c] {A : Option β} {r : β} (hf : (if c then none else A) = some r) : ¬ c ∧ A = some r := by
  by_cases h : c
  · rw [if_pos h] at hf; cases hf
  · rw [if_neg h] at hf; exact ⟨h, hf⟩
theorem ds_toInt_ne {x k : Int32} (h : ¬ x = k) : ¬ x.toInt = k.toInt := fun q => h (Int32.toInt_inj.mp q)
abbrev ds_TV : Type := Int32 × Int32 × Int32 × Int64 × Int64
abbrev ds_min (x y : Int32) : Int32 := if y < x then y else x
abbrev ds_max (x y : Int32) : Int32 := if x < y then y else x
theorem ds_zn {v : Int32} (h : v = 0 ∨ v = 1) : narrow .boolean (.int v) = .int v := by
  rcases h with rfl | rfl <;> rfl
theorem ds_nar_char {v : Int32} (h : vp_nar .char v = v) : narrow .char (.int v) = .int v := by
  have e : narrow .char (.int v) = .int (vp_nar .char v) := rfl
  rw [e, h]
theorem ds_nar_byte {v : Int32} (h : vp_nar .byte v = v) : narrow .byte (.int v) = .int v := by
  have e : narrow .byte (.int v) = .int (vp_nar .byte v) := rfl
  rw [e, h]
theorem ds_zf {v : Int32} (h : v = 0 ∨ v = 1) : fits .boolean (.int v) = true := by
  rcases h with rfl | rfl <;> rfl
abbrev ds_rem (x y : Int32) : Int32 := x - x / y * y
abbrev ds_iushr (x y : Int32) : Int32 := (x.toUInt32 >>> (y.toUInt32 &&& Int32.toUInt32 31)).toInt32
abbrev ds_lushr (x : Int64) (y : Int32) : Int64 := (x.toUInt64 >>> (y.toInt64.toUInt64 &&& Int64.toUInt64 63)).toInt64
abbrev ds_lshl (x : Int64) (y : Int32) : Int64 := x <<< (y.toInt64 &&& 63)
abbrev ds_lshr (x : Int64) (y : Int32) : Int64 := x >>> (y.toInt64 &&& 63)
theorem ds_last3 {i : Int32} (h : vp_in i 3) (h0 : ¬ i = 0) (h1 : ¬ i = 1) : i.toNatClampNeg = 2 := by
  obtain ⟨j, hj, rfl⟩ := nI_of (fun q => h (Or.inl q))
  have hn : ¬ 3 ≤ (nI j).toNatClampNeg := fun q => h (Or.inr q)
  rw [nI_clamp hj] at hn ⊢
  have a0 : j ≠ 0 := fun e => h0 (by rw [e]; rfl)
  have a1 : j ≠ 1 := fun e => h1 (by rw [e]; rfl)
  omega
theorem ds_last8 {i : Int32} (h : vp_in i 8) (h0 : ¬ i = 0) (h1 : ¬ i = 1) (h2 : ¬ i = 2) (h3 : ¬ i = 3) (h4 : ¬ i = 4) (h5 : ¬ i = 5) (h6 : ¬ i = 6) : i.toNatClampNeg = 7 := by
  obtain ⟨j, hj, rfl⟩ := nI_of (fun q => h (Or.inl q))
  have hn : ¬ 8 ≤ (nI j).toNatClampNeg := fun q => h (Or.inr q)
  rw [nI_clamp hj] at hn ⊢
  have a0 : j ≠ 0 := fun e => h0 (by rw [e]; rfl)
  have a1 : j ≠ 1 := fun e => h1 (by rw [e]; rfl)
  have a2 : j ≠ 2 := fun e => h2 (by rw [e]; rfl)
  have a3 : j ≠ 3 := fun e => h3 (by rw [e]; rfl)
  have a4 : j ≠ 4 := fun e => h4 (by rw [e]; rfl)
  have a5 : j ≠ 5 := fun e => h5 (by rw [e]; rfl)
  have a6 : j ≠ 6 := fun e => h6 (by rw [e]; rfl)
  omega
