/-! own rows: calls that write nothing; contracts over one world of cells -/
section RQ
variable {p : Program} {l : Launch} {e : Env} {R : Room} {s : State} {m : MethodId} {args : Array Value} {below : List Frame} {meth : Method} {c : Code} {H : Heap} {locs : List Loc} {cells slots : Nat} {Q : State → Prop}
variable {pc : Nat} {ls : Array Slot} {rest st0 : List Value} {a : Array Value}
/-- an int comes back, nothing is written -/
def rq_i (post : Int32 → Prop) : Array Value → State → Outcome → State → Prop := fun _ st o t => ∃ r : Int32, o = .returned (some (.int r)) ∧ post r ∧ t.heap = st.heap
theorem rq_calli {post : Int32 → Prop} (hr : CallRun p l e R s m args below meth c H locs cells slots 0 0 (F0 m pc ls st0) rest (rq_i post a) (fun _ => False))
    (kk : ∀ r : Int32, post r → W p l e R s m args below meth c H locs cells slots Q (F0 m (pc + 3) ls (.int r :: rest))) : W p l e R s m args below meth c H locs cells slots Q (F0 m pc ls st0) := by
  intro T hT X
  obtain ⟨v, st₀, t, T', L, h0, X', hL, e1, ⟨z, hv, hp, hh⟩, st⟩ := hr T hT X
  cases hv
  obtain ⟨t2, a1, b1⟩ := kk z hp T' (by rw [e1, hh, h0]) (Stand.forget X' (fun q h => (hL q h).elim))
  exact ⟨t2, st t2 a1, b1⟩
end RQ
/-- a start: the world ws is there -/
abbrev ro_P (D : va_G) (cl : List vw_C) (ws : va_W) (tys : List (ClassId × FieldType)) (av : List Value) : Array Value → State → Prop := va_Pc av (fun U => va_P D cl ws U.heap ∧ va_K D cl tys U)
/-- a start: the world ws is there, its cells apart, sz the heap's size -/
abbrev rw_P (D : va_G) (cl : List vw_C) (ws : va_W) (tys : List (ClassId × FieldType)) (sz : Nat) (av : List Value) : Array Value → State → Prop := va_Pc av (fun U => U.heap.size = sz ∧ va_P D cl ws U.heap ∧ va_K D cl tys U ∧ va_D (fun _ => True) ws)
/-- an end: the world is w u -/
abbrev rw_B {S : Type} (D : va_G) (cl : List vw_C) (tys : List (ClassId × FieldType)) (A : Nat → Prop) (w : S → va_W) : S → State → Prop := fun u t => va_P D cl (w u) t.heap ∧ va_K D cl tys t ∧ va_D A (w u)
theorem ro_blind {D : va_G} {cl : List vw_C} {ws : va_W} {tys : List (ClassId × FieldType)} {av : List Value} : FrameBlind (ro_P D cl ws tys av) := by
  intro a U g mk q
  obtain ⟨q0, qP, qK⟩ := q
  exact ⟨q0, qP, va_K.moved (u := U) (U := U.calling g mk a) (Vm.Alike.refl U.vm) qK⟩
theorem rw_blind {D : va_G} {cl : List vw_C} {ws : va_W} {tys : List (ClassId × FieldType)} {sz : Nat} {av : List Value} : FrameBlind (rw_P D cl ws tys sz av) := by
  intro a U g mk q
  obtain ⟨q0, qz, qP, qK, qD⟩ := q
  exact ⟨q0, qz, qP, va_K.moved (u := U) (U := U.calling g mk a) (Vm.Alike.refl U.vm) qK, qD⟩
section RP
variable {s : State} {H : Heap} {D : va_G} {cl : List vw_C} {ws : va_W} {tys : List (ClassId × FieldType)} {A : Nat → Prop} {As : List Value} {b ci q0 : Nat} {q : vw_C} {fs : List Value}
theorem ro_PV (hK : va_K D cl tys s) (hP : va_P D cl ws H) (hc : cl[ci]? = some q) (he : ws[q0]? = some (b, .inr (ci, fs))) : PreV s H q.1 b (ro_P D cl ws tys (.ref b :: As)) As :=
  ⟨ro_blind, va_recv hK hP hc he, fun U hU hW => ⟨rfl, by rw [hU]; exact hP, va_K.moved hW.alike hK⟩⟩
theorem rw_PV (hK : va_K D cl tys s) (hP : va_P D cl ws H) (hD : va_D A ws) (hc : cl[ci]? = some q) (he : ws[q0]? = some (b, .inr (ci, fs))) : PreV s H q.1 b (rw_P D cl ws tys H.size (.ref b :: As)) As :=
  ⟨rw_blind, va_recv hK hP hc he, fun U hU hW => ⟨rfl, by rw [hU], by rw [hU]; exact hP, va_K.moved hW.alike hK, hD.weaken (fun _ _ _ _ => trivial)⟩⟩
end RP
/-! what may throw: on a return nothing is written; on a throw nothing old is written -/
def rq_v (post : Prop) : Array Value → State → Outcome → State → Prop := fun _ st o t => o = .returned none ∧ post ∧ t.heap = st.heap
def rq_X (px : String → Prop) : String → State → State → Prop := fun E st t => px E ∧ st.heap.size ≤ t.heap.size ∧ ∀ q : Nat, q < st.heap.size → t.heap[q]? = st.heap[q]?
/-- .. and a method that writes its world: what a throw leaves -/
abbrev rw_X {S : Type} (D : va_G) (cl : List vw_C) (tys : List (ClassId × FieldType)) (A : Nat → Prop) (w : S → va_W) (px : String → S → Prop) : String → State → State → Prop := vx_X (fun _ : S => True) (fun E u t => px E u ∧ rw_B D cl tys A w u t) A
section RX
variable {p : Program} {l : Launch} {e : Env} {R : Room} {s : State} {m : MethodId} {args : Array Value} {below : List Frame} {meth : Method} {c : Code} {H : Heap} {locs : List Loc} {cells slots : Nat} {Q : State → Prop}
variable {pc : Nat} {ls : Array Slot} {rest st0 : List Value} {a : Array Value} {mc ms : Nat}
theorem rx_callv {px : String → Prop} {post : Prop} (hr : vx_Run p l e R s m args below meth c H locs cells slots mc ms (F0 m pc ls st0) rest (rq_v post a) (rq_X px) (fun _ => False))
    (kx : ∀ (E : String) (ce : Cell) (q9 : Addr) (H1 : Heap), px E → H.size ≤ H1.size → (∀ q : Nat, q < H.size → H1[q]? = H[q]?) → H1[q9]? = some ce → ce.vm = .none → s.vm.findClass E = some ce.cls → vx_W p l e R s m args below meth c H1 locs (cells + mc) (slots + ms) Q (F0 m pc ls rest) q9)
    (kk : post → W p l e R s m args below meth c H locs (cells + mc) (slots + ms) Q (F0 m (pc + 3) ls rest)) : W p l e R s m args below meth c H locs cells slots Q (F0 m pc ls st0) := by
  intro T hT X
  rcases hr T hT X with ⟨v, st₀, t, T', L, h0, X', hL, e1, e2, ⟨hv, hp, hh⟩, st⟩ | ⟨q, st₀, t, T', L, E, ce, h0, X', hL, e1, e2, ⟨hp, hz, hk⟩, hce, hcv, hcl, st⟩
  · cases hv
    obtain ⟨t2, a1, b1⟩ := kk hp T' (by rw [e1, hh, h0]) (Stand.forget X' (fun q h => (hL q h).elim))
    exact ⟨t2, st t2 a1, b1⟩
  · rw [h0] at hz hk
    obtain ⟨t2, a1, b1⟩ := kx E ce q t.heap hp hz hk hce hcv hcl T' e1 (Stand.forget X' (fun q h => (hL q h).elim))
    exact ⟨t2, st.trans a1, b1⟩
/-- a throw goes on out of a method that writes nothing -/
theorem rq_out {px : String → Prop} {Qc : Array Value → State → Outcome → State → Prop} {H1 : Heap} {E : String} {ce : Cell} {q : Addr} (hEx : ∀ x ∈ c.exceptionTable.toList, False) (hlocks : meth.locks = false) (hp : px E) (hz : s.heap.size ≤ H1.size) (hk : ∀ q : Nat, q < s.heap.size → H1[q]? = s.heap[q]?)
    (hce : H1[q]? = some ce) (hcv : ce.vm = .none) (hcl : s.vm.findClass E = some ce.cls) (hc : cells ≤ mc) (hs : slots ≤ ms) :
    vx_W p l e R s m args below meth c H1 [] cells slots (vx_MQ below Qc (rq_X px) args s mc ms (fun _ => False)) (F0 m pc ls rest) q :=
  vx_out (fun x hx => (hEx x hx).elim) hlocks hce hcv hcl (fun t ht _ => ⟨hp, by rw [ht]; exact hz, fun q hq => by rw [ht]; exact hk q hq⟩) (fun _ h9 => nomatch h9) hc hs
/-- .. and of one that writes its world -/
theorem rx_out {S : Type} {D : va_G} {cl : List vw_C} {tys : List (ClassId × FieldType)} {A : Nat → Prop} {w : S → va_W} {ws : va_W} {px : String → S → Prop} {Qc : Array Value → State → Outcome → State → Prop} {H1 : Heap} {E : String} {ce : Cell} {q : Addr} (u : S) (hw : w u = ws)
    (hEx : ∀ x ∈ c.exceptionTable.toList, False) (hlocks : meth.locks = false) (hK : va_K D cl tys s) (hP : va_P D cl ws H) (hD : va_D A ws) (hS : va_S A s.heap H locs) (hp : px E u) (hz : H.size ≤ H1.size) (hk : ∀ q : Nat, q < H.size → H1[q]? = H[q]?)
    (hce : H1[q]? = some ce) (hcv : ce.vm = .none) (hcl : s.vm.findClass E = some ce.cls) (hc : cells ≤ mc) (hs : slots ≤ ms) :
    vx_W p l e R s m args below meth c H1 locs cells slots (vx_MQ below Qc (rw_X D cl tys A w px) args s mc ms A) (F0 m pc ls rest) q := by
  refine vx_out (fun x hx => (hEx x hx).elim) hlocks hce hcv hcl (fun t ht hvm => ?_) hS.2.2 hc hs
  subst hw
  exact ⟨u, trivial, ⟨hp, by rw [ht]; exact hP.kept (fun k q hk' => hk q.1 ((hP k q hk').lt)), va_K.moved hvm hK, hD⟩, ⟨by rw [ht]; exact Nat.le_trans hS.1 hz, fun q h1 h2 => by rw [ht, hk q (Nat.lt_of_lt_of_le h1 hS.1)]; exact hS.2.1 q h1 h2⟩⟩
end RX

theorem xc_moved {C D : String} {u U : State} (hvm : u.vm.Alike U.vm) (h : ∀ a, (Cond.castable C D).before a u = true) : ∀ a, (Cond.castable C D).before a U = true := by
  intro a
  have h1 : (Cond.castable C D).before #[] (u.setVm U.vm) = true := by rw [Cond.castable_setVm hvm]; exact h #[]
  exact va_tabs (u := u.setVm U.vm) rfl rfl h1
theorem xd_moved {y : MethodName} {u U : State} (hvm : u.vm.Alike U.vm) (h : ∀ a, (Cond.declares y).before a u = true) : ∀ a, (Cond.declares y).before a U = true := by
  intro a
  have h1 : (Cond.declares y).before #[] (u.setVm U.vm) = true := by rw [Cond.declares_setVm hvm]; exact h #[]
  exact va_tabs (u := u.setVm U.vm) rfl rfl h1
/-- what a throw needs of the heap and of the constants: statics of Throwable out of the written part, the texts -/
def xt_T (A : Nat → Prop) (sa : Nat → Nat) (U : State) (H : Heap) : Prop := vx_Zq Bundle.tN "UNASSIGNED_STACK" Bundle.steD A U H ∧ vx_Zq Bundle.tN "SUPPRESSED_SENTINEL" Bundle.listD A U H ∧ (vk_R R_T 159 "a number is out of its range" (sa 0) U ∧ vk_R R_T 164 "there is no such register" (sa 1) U ∧ vk_R R_T 166 "the register has no object" (sa 2) U ∧ vk_R R_T 168 "the register has no object of slots" (sa 3) U ∧ vk_R R_T 170 "the register has no object of bytes" (sa 4) U ∧ vk_R R_T 174 "the object has no such slot or byte" (sa 5) U ∧ vk_R R_T 179 "there is no room for the object" (sa 6) U ∧ (∀ a, (Cond.castable "java/lang/IllegalArgumentException" "java/lang/IllegalArgumentException").before a U = true) ∧ (∀ a, (Cond.castable "java/lang/IndexOutOfBoundsException" "java/lang/IndexOutOfBoundsException").before a U = true) ∧ (∀ a, (Cond.castable "java/lang/UnsupportedOperationException" "java/lang/UnsupportedOperationException").before a U = true) ∧ (∀ a, (Cond.declares (Bundle.initS "java/lang/RuntimeException")).before a U = true) ∧ (∀ a, (Cond.declares (Bundle.initS "java/lang/Exception")).before a U = true) ∧ (∀ a, (Cond.declares (Bundle.initS "java/lang/Throwable")).before a U = true))
theorem xt_at {A : Nat → Prop} {sa : Nat → Nat} {s : State} {H0 H : Heap} {locs : List Loc} (h : xt_T A sa s H0) (hS : va_S A H0 H locs) : xt_T A sa s H := ⟨h.1.kept hS.2.1, h.2.1.kept hS.2.1, h.2.2⟩
theorem xt_to {A B : Nat → Prop} {sa : Nat → Nat} {s U : State} {H : Heap} (h : xt_T A sa s H) (hW : s.WarmedH U.vm) (hAB : ∀ q, B q → A q) : xt_T B sa U H := by
  refine ⟨(vx_Zq.moved hW.alike h.1).narrow hAB, (vx_Zq.moved hW.alike h.2.1).narrow hAB, ?_⟩
  obtain ⟨-, -, t0, t1, t2, t3, t4, t5, t6, c0, c1, c2, d0, d1, d2⟩ := h
  exact ⟨vk_R.warm hW t0, vk_R.warm hW t1, vk_R.warm hW t2, vk_R.warm hW t3, vk_R.warm hW t4, vk_R.warm hW t5, vk_R.warm hW t6, xc_moved hW.alike c0, xc_moved hW.alike c1, xc_moved hW.alike c2, xd_moved hW.alike d0, xd_moved hW.alike d1, xd_moved hW.alike d2⟩
theorem xt_same {A : Nat → Prop} {sa : Nat → Nat} {s U : State} {H : Heap} (h : xt_T A sa s H) (hv : U.vm = s.vm) : xt_T A sa U H := by
  have hA : s.vm.Alike U.vm := by rw [hv]; exact Vm.Alike.refl _
  refine ⟨vx_Zq.moved hA h.1, vx_Zq.moved hA h.2.1, ?_⟩
  obtain ⟨-, -, t0, t1, t2, t3, t4, t5, t6, c0, c1, c2, d0, d1, d2⟩ := h
  exact ⟨vk_R.same hv t0, vk_R.same hv t1, vk_R.same hv t2, vk_R.same hv t3, vk_R.same hv t4, vk_R.same hv t5, vk_R.same hv t6, xc_moved hA c0, xc_moved hA c1, xc_moved hA c2, xd_moved hA d0, xd_moved hA d1, xd_moved hA d2⟩
abbrev xs_P (sa : Nat → Nat) (av : List Value) : Array Value → State → Prop := va_Pc av (fun U => xt_T (fun _ => False) sa U U.heap)
abbrev xo_P (D : va_G) (cl : List vw_C) (ws : va_W) (tys : List (ClassId × FieldType)) (sa : Nat → Nat) (av : List Value) : Array Value → State → Prop := va_Pc av (fun U => va_P D cl ws U.heap ∧ va_K D cl tys U ∧ xt_T (fun _ => False) sa U U.heap)
abbrev xw_P (D : va_G) (cl : List vw_C) (ws : va_W) (tys : List (ClassId × FieldType)) (sz : Nat) (sa : Nat → Nat) (av : List Value) : Array Value → State → Prop := va_Pc av (fun U => U.heap.size = sz ∧ va_P D cl ws U.heap ∧ va_K D cl tys U ∧ va_D (fun _ => True) ws ∧ xt_T (va_A ws sz) sa U U.heap)
theorem xs_PS {A : Nat → Prop} {sa : Nat → Nat} {s : State} {H : Heap} {As : List Value} (h : xt_T A sa s H) : PreS s H (xs_P sa As) As :=
  ⟨fun a U g mk q => ⟨q.1, xt_same (U := U.calling g mk a) q.2 rfl⟩, fun U hU hW => ⟨rfl, by show xt_T _ sa U U.heap; rw [hU]; exact xt_to h hW (fun _ f => f.elim)⟩⟩
section XP
variable {s : State} {H : Heap} {D : va_G} {cl : List vw_C} {ws : va_W} {tys : List (ClassId × FieldType)} {A : Nat → Prop} {As : List Value} {b ci q0 : Nat} {q : vw_C} {fs : List Value} {sa : Nat → Nat}
theorem xo_PV (hK : va_K D cl tys s) (hP : va_P D cl ws H) (hX : xt_T A sa s H) (hc : cl[ci]? = some q) (he : ws[q0]? = some (b, .inr (ci, fs))) : PreV s H q.1 b (xo_P D cl ws tys sa (.ref b :: As)) As :=
  ⟨fun a U g mk z => ⟨z.1, z.2.1, va_K.moved (u := U) (U := U.calling g mk a) (Vm.Alike.refl U.vm) z.2.2.1, xt_same (U := U.calling g mk a) z.2.2.2 rfl⟩, va_recv hK hP hc he, fun U hU hW => ⟨rfl, by rw [hU]; exact hP, va_K.moved hW.alike hK, by rw [hU]; exact xt_to hX hW (fun _ f => f.elim)⟩⟩
theorem xw_PV (hK : va_K D cl tys s) (hP : va_P D cl ws H) (hD : va_D A ws) (hX : xt_T A sa s H) (hF : ∀ q, va_A ws H.size q → A q) (hc : cl[ci]? = some q) (he : ws[q0]? = some (b, .inr (ci, fs))) : PreV s H q.1 b (xw_P D cl ws tys H.size sa (.ref b :: As)) As :=
  ⟨fun a U g mk z => ⟨z.1, z.2.1, z.2.2.1, va_K.moved (u := U) (U := U.calling g mk a) (Vm.Alike.refl U.vm) z.2.2.2.1, z.2.2.2.2.1, xt_same (U := U.calling g mk a) z.2.2.2.2.2 rfl⟩, va_recv hK hP hc he, fun U hU hW => ⟨rfl, by rw [hU], by rw [hU]; exact hP, va_K.moved hW.alike hK, hD.weaken (fun _ _ _ _ => trivial), by rw [hU]; exact xt_to hX hW hF⟩⟩
end XP

abbrev TSw (cA : ClassId) (a0 : Nat) (aR : Nat) (aM : Nat) (aW : Nat) (aP : Nat) (aS : Nat) (aC : Nat) (aO : Nat) (nW : Nat) (nE : Nat) (R : Nat → Int32) (f : Nat → Int32) (us : Int32) (P : Nat → Int32) (S : Nat → Int32) (sc : Int32) (li : Int32) (rc : Nat → Int32) (rn : Int32) (ro : Nat → Int32) (rd : Int32) (st : Int32) : va_W := [(a0, .inr (0, [.ref aR, .ref aM])), (aR, .inl (cA, 32, .inl R)), (aM, .inr (1, [.ref aW, .int us, .ref aP, .ref aS, .int sc, .int li, .ref aC, .int rn, .ref aO, .int rd, .int st])), (aW, .inl (cA, nW, .inl f)), (aP, .inl (cA, nE, .inl P)), (aS, .inl (cA, nE, .inl S)), (aC, .inl (cA, nE, .inl rc)), (aO, .inl (cA, nE, .inl ro))]
