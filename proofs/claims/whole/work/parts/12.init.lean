/-! rows for constructors: new cells, arrays as lists -/
theorem ds_arrV {cA : ClassId} {n : Nat} {f g : Nat → Value} (h : ∀ j, j < n → f j = g j) : arrV cA n f = arrV cA n g := by
  unfold arrV
  congr 1
  apply Array.ext
  · simp
  · intro i h1 h2
    simp only [Array.getElem_ofFn]
    exact h i (by simpa using h1)
section DSN
variable {p : Program} {l : Launch} {e : Env} {R : Room} {s : State} {m : MethodId} {args : Array Value} {below : List Frame} {meth : Method} {c : Code} {H : Heap} {locs : List Loc} {cells slots : Nat} {Q : State → Prop}
variable {pc : Nat} {ls : Array Slot} {rest st0 : List Value} {a : Array Value} {A : Nat → Prop} {H0 : Heap} {dC : Nat → ClassId} {dI : Nat → Nat → Nat} {ws wc wr : va_W}
theorem ds_callI {mc ms : Nat} {w1 : (Nat → Nat) → va_W} (hr : va_Run p l e R s m args below meth c H locs cells slots mc ms (F0 m pc ls st0) rest (va_Qv (fun (_ : Nat → Nat) => True) (fun u t => va_P (dC, dI) vwCl (w1 u) t.heap ∧ va_D (va_A wc H.size) (w1 u)) (va_A wc H.size) a) (va_A wc H.size)) (hP : va_P (dC, dI) vwCl ws H) (hD : va_D A ws) (hS : va_S A H0 H locs) (hA : ∀ q : Nat, H0.size ≤ q → A q) (isC isR : List Nat) (hC : isC.map (fun i => ws[i]?) = wc.map some) (hR : isR.map (fun i => ws[i]?) = wr.map some) (hn : va_nd isR = true) (hdis : ∀ i ∈ isR, i ∉ isC)
    (kk : ∀ (u : Nat → Nat) (H1 : Heap) (locs1 : List Loc), va_P (dC, dI) vwCl (wr ++ w1 u) H1 → va_D A (wr ++ w1 u) → va_S A H0 H1 locs1 → W p l e R s m args below meth c H1 locs1 (cells + mc) (slots + ms) Q (F0 m (pc + 3) ls rest)) : W p l e R s m args below meth c H locs cells slots Q (F0 m pc ls st0) := by
  have hF := va_free (wc := wc) hD hS hA isC hC
  refine va_callv hr hS (fun q _ h => hF q h) hF (fun u t H1 locs1 ht hvm hw hB hz1 hk1 hS1 => ?_)
  obtain ⟨hP1, hD1⟩ := hB
  rw [ht] at hP1
  obtain ⟨hP2, hD2⟩ := va_join (wr := wr) (w1 := w1 u) hP hD isC isR hC hR hn hdis hk1 hF hP1 hD1
  exact kk u H1 locs1 hP2 hD2 hS1
def ds_LF (L : List Int32) : Nat → Int32 := fun j => L.getD j 0
theorem ds_LF_upd (L : List Int32) (k : Nat) (v : Int32) (h : k < L.length) : upd (ds_LF L) k v = ds_LF (L.set k v) := by
  funext j
  unfold upd ds_LF
  by_cases hj : j = k
  · subst hj
    rw [if_pos rfl, List.getD_eq_getElem?_getD, List.getElem?_set_self h]; rfl
  · rw [if_neg hj, List.getD_eq_getElem?_getD, List.getD_eq_getElem?_getD, List.getElem?_set_ne (fun q => hj q.symm)]
theorem ds_LF_zero (n : Nat) : (fun _ => (0 : Int32)) = ds_LF (List.replicate n 0) := by
  funext j
  unfold ds_LF
  rw [List.getD_eq_getElem?_getD, List.getElem?_replicate]
  split <;> rfl
theorem ds_iastL {tys : List (ClassId × FieldType)} {cc : ByteArray} {ad : Nat} (hexec : p.tables.exec = Jvm.exec) (hb : c.code = cc) (hK : va_K (dC, dI) vwCl tys s) (hP : va_P (dC, dI) vwCl ws H) (hD : va_D A ws) (hS : va_S A H0 H locs) (q0 t0 k : Nat) {cA : ClassId} {n : Nat} {L : List Int32} (ha : ws[q0]? = some (ad, .inl (cA, n, .inl (ds_LF L)))) (ht : tys[t0]? = some (cA, .int)) {i : Int32} {x : Int32} (hin : ds_in i n = true) (hk : i.toNatClampNeg = k) (hl : k < L.length) (hdg : decode cc pc = .ok (.iastore, 1))
    (kk : ∀ (H1 : Heap) (locs1 : List Loc), va_P (dC, dI) vwCl (ws.set q0 (ad, .inl (cA, n, .inl (ds_LF (L.set k x))))) H1 → va_D A (ws.set q0 (ad, .inl (cA, n, .inl (ds_LF (L.set k x))))) → va_S A H0 H1 locs1 → W p l e R s m args below meth c H1 locs1 cells slots Q (F0 m (pc + 1) ls rest)) : W p l e R s m args below meth c H locs cells slots Q (F0 m pc ls (.int x :: .int i :: .ref ad :: rest)) := by
  subst hk
  refine va_iast hexec hb hK hP hD hS q0 t0 ha ht (ds_in_ok hin) hdg (fun H1 locs1 hP1 hD1 hS1 => ?_)
  rw [ds_LF_upd L _ x hl] at hP1 hD1
  exact kk H1 locs1 hP1 hD1 hS1
theorem ds_cA {ca : Nat → ClassId} {cA c0 : ClassId} {ty : FieldType} (h : va_K (dC, dI) vwCl (ds_ty ca ++ [(cA, ty)]) s) (i : Nat) (hi : (ds_ty ca ++ [(cA, ty)])[i]? = some (c0, ty)) : cA = c0 := by
  have h1 := (h.2 6 (cA, ty) rfl).2
  have h2 := (h.2 i (c0, ty) hi).2
  cases ty <;> first
    | (obtain ⟨_, _, _, _, _, e1⟩ := h1
       obtain ⟨_, _, _, _, _, e2⟩ := h2
       exact Option.some.inj (e1.symm.trans e2))
    | exact Option.some.inj (Eq.trans (Eq.symm h1) h2)
/-- an array of references may be told by any function that agrees on its places -/
theorem ds_rows {k n ad : Nat} {cA : ClassId} {f g : Nat → Option Nat} (hP : va_P (dC, dI) vwCl ws H) (hk : ws[k]? = some (ad, .inl (cA, n, .inr (.inr (.inr (.inr f)))))) (hfg : ∀ j, j < n → f j = g j) : va_P (dC, dI) vwCl (ws.set k (ad, .inl (cA, n, .inr (.inr (.inr (.inr g)))))) H := by
  intro i q hq
  by_cases hik : i = k
  · subst hik
    rw [List.getElem?_set_self (List.getElem?_eq_some_iff.mp hk).1] at hq
    have hq := Option.some.inj hq
    subst hq
    have h0 := hP i _ hk
    have e : vp_cell cA (n, .inr (.inr (.inr (.inr f)))) = vp_cell cA (n, .inr (.inr (.inr (.inr g)))) := by
      rw [vp_cell_q, vp_cell_q]
      exact ds_arrV (fun j hj => by rw [hfg j hj])
    show va_at _ _ _ _
    unfold va_at at h0 ⊢
    dsimp only at h0 ⊢
    rw [← e]; exact h0
  · rw [List.getElem?_set_ne (fun q => hik q.symm)] at hq
    exact hP i q hq
end DSN
