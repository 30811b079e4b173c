/-! references that may be null; stores; ends; throws -/
theorem rf_cat (o : Option Nat) : (va_rf o).category = 1 := by cases o <;> rfl
theorem cat_i (x : Int32) : (Value.int x).category = 1 := rfl
theorem cat_r (x : Nat) : (Value.ref x).category = 1 := rfl
theorem cat_l (x : Int64) : (Value.long x).category = 2 := rfl
theorem cat_n : Value.null.category = 1 := rfl
/-- the listed locals behind a store -/
def lvOK (lv : List (Nat × Value)) (i : Nat) (v : Value) (lv' : List (Nat × Value)) : Prop := ∀ q ∈ lv', q = (i, v) ∨ (q ∈ lv ∧ q.1 ≠ i ∧ (q.1 + 1 ≠ i ∨ q.2.category = 1))
theorem lvOK.e {lv : List (Nat × Value)} {i : Nat} {v : Value} : lvOK lv i v [] := fun q h => nomatch h
theorem lvOK.n {lv l : List (Nat × Value)} {i : Nat} {v : Value} (h : lvOK lv i v l) : lvOK lv i v ((i, v) :: l) := fun q hq => (List.mem_cons.mp hq).elim (fun e => Or.inl e) (h q)
theorem lvOK.k {lv l : List (Nat × Value)} {i j : Nat} {v u : Value} (k : Nat) (hk : lv[k]? = some (j, u)) (h1 : j ≠ i) (h2 : j + 1 ≠ i) (h : lvOK lv i v l) : lvOK lv i v ((j, u) :: l) := fun x hx => (List.mem_cons.mp hx).elim (fun e => by subst e; exact Or.inr ⟨List.mem_of_getElem? hk, h1, Or.inl h2⟩) (h x)
theorem lvOK.c {lv l : List (Nat × Value)} {i j : Nat} {v u : Value} (k : Nat) (hk : lv[k]? = some (j, u)) (h1 : j ≠ i) (h2 : u.category = 1) (h : lvOK lv i v l) : lvOK lv i v ((j, u) :: l) := fun x hx => (List.mem_cons.mp hx).elim (fun e => by subst e; exact Or.inr ⟨List.mem_of_getElem? hk, h1, Or.inr h2⟩) (h x)
theorem lv_ok {ls : Array Slot} {nL i : Nat} {v : Value} {lv lv' : List (Nat × Value)} (h : lv_has ls nL ((i, v) :: lv.filter (fun q => !(q.1 == i) && !(q.1 + 1 == i && q.2.category == 2)))) (hs : lvOK lv i v lv') : lv_has ls nL lv' := by
  refine ⟨h.1, h.2.1, fun q hq => ?_⟩
  rcases hs q hq with rfl | ⟨h1, h2, h3⟩
  · exact h.2.2 _ List.mem_cons_self
  · refine h.2.2 q (List.mem_cons_of_mem _ (List.mem_filter.mpr ⟨h1, ?_⟩))
    rcases h3 with h3 | h3
    · simp [h2, h3]
    · simp [h2, h3]
section HV
variable {p : Program} {l : Launch} {e : Env} {R : Room} {s : State} {m : MethodId} {args : Array Value} {below : List Frame} {meth : Method} {c : Code} {H : Heap} {locs : List Loc} {cells slots : Nat} {Q : State → Prop}
variable {cc : ByteArray} {nL pc mc ms : Nat} {ls : Array Slot} {rest : List Value} {own : String} {Ts : List Cond} {D : va_G} {cA : Nat → ClassId} {sz z mi : Nat} {g : Sg} {a j : Nat} {i : Int32} {o : Option Nat}
theorem q_aload_n (hx : p.tables.exec = Jvm.exec) (hb : c.code = cc) {k : Fin 4} {i : Nat} (hdg : decode cc pc = .ok (.aload_n k, 1)) (hi : (k : Nat) = i) (hl : ls[i]? = some (.val (va_rf o))) (kk : W p l e R s m args below meth c H locs cells slots Q (F0 m (pc + 1) ls (va_rf o :: rest))) : W p l e R s m args below meth c H locs cells slots Q (F0 m pc ls rest) := by
  cases o with
  | none => exact lv_aload_nN hx hb hdg hi hl kk
  | some x => exact lv_aload_n hx hb hdg hi hl kk
theorem q_aload (hx : p.tables.exec = Jvm.exec) (hb : c.code = cc) {i : Nat} (hdg : decode cc pc = .ok (.aload i, 2)) (hl : ls[i]? = some (.val (va_rf o))) (kk : W p l e R s m args below meth c H locs cells slots Q (F0 m (pc + 2) ls (va_rf o :: rest))) : W p l e R s m args below meth c H locs cells slots Q (F0 m pc ls rest) := by
  cases o with
  | none => exact lv_aloadN hx hb hdg hl kk
  | some x => exact lv_aload hx hb hdg hl kk
theorem q_astore_n (hx : p.tables.exec = Jvm.exec) (hb : c.code = cc) {k : Fin 4} {i : Nat} {lv lv' : List (Nat × Value)} (hdg : decode cc pc = .ok (.astore_n k, 1)) (hi : (k : Nat) = i) (h : lv_has ls nL lv) (hn : i < nL) (hs : lvOK lv i (va_rf o) lv') (kk : ∀ ls' : Array Slot, lv_has ls' nL lv' → W p l e R s m args below meth c H locs cells slots Q (F0 m (pc + 1) ls' rest)) : W p l e R s m args below meth c H locs cells slots Q (F0 m pc ls (va_rf o :: rest)) := by
  cases o with
  | none => exact lv_astore_nN hx hb hdg hi h hn rfl (fun ls' hl => kk ls' (lv_ok hl hs))
  | some x => exact lv_astore_n hx hb hdg hi h hn rfl (fun ls' hl => kk ls' (lv_ok hl hs))
theorem q_astore (hx : p.tables.exec = Jvm.exec) (hb : c.code = cc) {i : Nat} {lv lv' : List (Nat × Value)} (hdg : decode cc pc = .ok (.astore i, 2)) (h : lv_has ls nL lv) (hn : i < nL) (hs : lvOK lv i (va_rf o) lv') (kk : ∀ ls' : Array Slot, lv_has ls' nL lv' → W p l e R s m args below meth c H locs cells slots Q (F0 m (pc + 2) ls' rest)) : W p l e R s m args below meth c H locs cells slots Q (F0 m pc ls (va_rf o :: rest)) := by
  cases o with
  | none => exact lv_astoreN hx hb hdg h hn rfl (fun ls' hl => kk ls' (lv_ok hl hs))
  | some x => exact lv_astore hx hb hdg h hn rfl (fun ls' hl => kk ls' (lv_ok hl hs))
theorem q_istore_n (hx : p.tables.exec = Jvm.exec) (hb : c.code = cc) {k : Fin 4} {i : Nat} {x : Int32} {lv lv' : List (Nat × Value)} (hdg : decode cc pc = .ok (.istore_n k, 1)) (hi : (k : Nat) = i) (h : lv_has ls nL lv) (hn : i < nL) (hs : lvOK lv i (.int x) lv') (kk : ∀ ls' : Array Slot, lv_has ls' nL lv' → W p l e R s m args below meth c H locs cells slots Q (F0 m (pc + 1) ls' rest)) : W p l e R s m args below meth c H locs cells slots Q (F0 m pc ls (.int x :: rest)) :=
  lv_istore_n hx hb hdg hi h hn rfl (fun ls' hl => kk ls' (lv_ok hl hs))
theorem q_istore (hx : p.tables.exec = Jvm.exec) (hb : c.code = cc) {i : Nat} {x : Int32} {lv lv' : List (Nat × Value)} (hdg : decode cc pc = .ok (.istore i, 2)) (h : lv_has ls nL lv) (hn : i < nL) (hs : lvOK lv i (.int x) lv') (kk : ∀ ls' : Array Slot, lv_has ls' nL lv' → W p l e R s m args below meth c H locs cells slots Q (F0 m (pc + 2) ls' rest)) : W p l e R s m args below meth c H locs cells slots Q (F0 m pc ls (.int x :: rest)) :=
  lv_istore hx hb hdg h hn rfl (fun ls' hl => kk ls' (lv_ok hl hs))
theorem q_iinc (hx : p.tables.exec = Jvm.exec) (hb : c.code = cc) {i k : Nat} {n : Int} {x v : Int32} {lv lv' : List (Nat × Value)} (hdg : decode cc pc = .ok (.iinc i n, 3)) (h : lv_has ls nL lv) (hk : lv[k]? = some (i, .int x)) (hv : x + Int32.ofInt n = v) (hn : i < nL) (hs : lvOK lv i (.int v) lv') (kk : ∀ ls' : Array Slot, lv_has ls' nL lv' → W p l e R s m args below meth c H locs cells slots Q (F0 m (pc + 3) ls' rest)) : W p l e R s m args below meth c H locs cells slots Q (F0 m pc ls rest) :=
  lv_iinc hx hb hdg h hk hv hn rfl (fun ls' hl => kk ls' (lv_ok hl hs))
theorem q_ifnull (hx : p.tables.exec = Jvm.exec) (hb : c.code = cc) {off : Int} {tgt : Nat} (hdg : decode cc pc = .ok (.ifnull off, 3)) (ht : (pc : Int) + off = (tgt : Int)) (kt : o = none → W p l e R s m args below meth c H locs cells slots Q (F0 m tgt ls rest)) (kf : ∀ x, o = some x → W p l e R s m args below meth c H locs cells slots Q (F0 m (pc + 3) ls rest)) : W p l e R s m args below meth c H locs cells slots Q (F0 m pc ls (va_rf o :: rest)) := by
  cases o with
  | none => exact lv_ifnullN hx hb hdg ht (kt rfl)
  | some x => exact lv_ifnull hx hb hdg (kf x rfl)
theorem q_ifnonnull (hx : p.tables.exec = Jvm.exec) (hb : c.code = cc) {off : Int} {tgt : Nat} (hdg : decode cc pc = .ok (.ifnonnull off, 3)) (ht : (pc : Int) + off = (tgt : Int)) (kt : ∀ x, o = some x → W p l e R s m args below meth c H locs cells slots Q (F0 m tgt ls rest)) (kf : o = none → W p l e R s m args below meth c H locs cells slots Q (F0 m (pc + 3) ls rest)) : W p l e R s m args below meth c H locs cells slots Q (F0 m pc ls (va_rf o :: rest)) := by
  cases o with
  | none => exact lv_ifnonnullN hx hb hdg (kf rfl)
  | some x => exact lv_ifnonnull hx hb hdg ht (kt x rfl)
/-! ends -/
theorem r_iret {post : Int32 → Sg → Prop} {v : Int32} (S : CallFix p m c cc nL s args Ts own) (hr : meth.sig.returnType = some .int) (hlk : meth.locks = false) (hG : WP D cA sz g H) (hS : va_S (oA sz) s.heap H locs) (hp : post v g) (hc : cells ≤ mc) (hs : slots ≤ ms) (hdg : decode cc pc = .ok (.ireturn, 1)) :
    W p l e R s m args below meth c H locs cells slots (MQ below (Qg D cA sz (pI post)) args s mc ms (oA sz)) (F0 m pc ls [.int v]) :=
  W.widen hc hs (W.iret S.1 S.2.1 hr (fun t ht hW => ⟨⟨_, g, rfl, ⟨v, rfl, hp⟩, by rw [ht]; exact hG⟩, hS.F ht⟩) hS.2.2 hdg hlk)
theorem r_zret {post : Int32 → Sg → Prop} {v : Int32} (S : CallFix p m c cc nL s args Ts own) (hr : meth.sig.returnType = some .boolean) (hlk : meth.locks = false) (hv : narrow .boolean (.int v) = .int v) (hG : WP D cA sz g H) (hS : va_S (oA sz) s.heap H locs) (hp : post v g) (hc : cells ≤ mc) (hs : slots ≤ ms) (hdg : decode cc pc = .ok (.ireturn, 1)) :
    W p l e R s m args below meth c H locs cells slots (MQ below (Qg D cA sz (pI post)) args s mc ms (oA sz)) (F0 m pc ls [.int v]) :=
  W.widen hc hs (W.zret S.1 S.2.1 hr hv (fun t ht hW => ⟨⟨_, g, rfl, ⟨v, rfl, hp⟩, by rw [ht]; exact hG⟩, hS.F ht⟩) hS.2.2 hdg hlk)
theorem r_lret {post : Int64 → Sg → Prop} {v : Int64} (S : CallFix p m c cc nL s args Ts own) (hr : meth.sig.returnType = some .long) (hlk : meth.locks = false) (hG : WP D cA sz g H) (hS : va_S (oA sz) s.heap H locs) (hp : post v g) (hc : cells ≤ mc) (hs : slots ≤ ms) (hdg : decode cc pc = .ok (.lreturn, 1)) :
    W p l e R s m args below meth c H locs cells slots (MQ below (Qg D cA sz (pL post)) args s mc ms (oA sz)) (F0 m pc ls [.long v]) :=
  W.widen hc hs (W.lret S.1 S.2.1 hr (fun t ht hW => ⟨⟨_, g, rfl, ⟨v, rfl, hp⟩, by rw [ht]; exact hG⟩, hS.F ht⟩) hS.2.2 hdg hlk)
theorem r_aret {post : Option Nat → Sg → Prop} {rt : FieldType} (S : CallFix p m c cc nL s args Ts own) (hr : meth.sig.returnType = some rt) (hrt : (∃ n, rt = .object n) ∨ ∃ t, rt = .array t) (hlk : meth.locks = false) (hG : WP D cA sz g H) (hS : va_S (oA sz) s.heap H locs) (hp : post o g) (hc : cells ≤ mc) (hs : slots ≤ ms) (hdg : decode cc pc = .ok (.areturn, 1)) :
    W p l e R s m args below meth c H locs cells slots (MQ below (Qg D cA sz (pR post)) args s mc ms (oA sz)) (F0 m pc ls [va_rf o]) :=
  W.widen hc hs (W.aret S.1 S.2.1 hr hrt (by cases o with | none => exact Or.inl rfl | some x => exact Or.inr ⟨x, rfl⟩) (fun t ht hW => ⟨⟨_, g, rfl, ⟨o, rfl, hp⟩, by rw [ht]; exact hG⟩, hS.F ht⟩) hS.2.2 hdg hlk)
theorem r_vret {post : Sg → Prop} (S : CallFix p m c cc nL s args Ts own) (hr : meth.sig.returnType = none) (hlk : meth.locks = false) (hG : WP D cA sz g H) (hS : va_S (oA sz) s.heap H locs) (hp : post g) (hc : cells ≤ mc) (hs : slots ≤ ms) (hdg : decode cc pc = .ok (.return_, 1)) :
    W p l e R s m args below meth c H locs cells slots (MQ below (Qg D cA sz (pV post)) args s mc ms (oA sz)) (F0 m pc ls []) :=
  W.widen hc hs (W.vret S.1 S.2.1 hr (fun t ht hW => ⟨⟨_, g, rfl, ⟨rfl, hp⟩, by rw [ht]; exact hG⟩, hS.F ht⟩) hS.2.2 hdg hlk)
/-! throws -/
abbrev exS : List String := ["java/lang/RuntimeException", "java/lang/Exception"]
theorem exN_fit : ∀ i : Nat, i < 5 → Bundle.fit (exN i) = true := by decide +kernel
theorem WP.kept {H1 : Heap} (h : WP D cA sz g H) (hk : ∀ q : Nat, q < H.size → H1[q]? = H[q]?) : WP D cA sz g H1 := by
  obtain ⟨L, h1, h2, h3⟩ := h
  exact ⟨L, h1, h2.kept (fun k q hq => hk q.1 (h2 k q hq).lt), h3⟩
theorem r_throw {i ik ic : Nat} {px : Nat → Sg → Prop} {Qc : Array Value → State → Outcome → State → Prop} (S : CallFix p m c cc nL s args TBL own) (hl : l.stackTraces = false) (hZ : Ws D cA sz z mi s) (hG : WP D cA sz g H) (hS : va_S (oA sz) s.heap H locs) (hi : i < 5) (hk : Cond.classLink own ik (exN i) ∈ TBL) (hn : Cond.initialized (exN i) ∈ TBL)
    (h1 : ∀ w ∈ (vx_at0 own ic (exN i) exS).filter goodWord, w ∈ TBL) (h2 : ∀ w ∈ (vx_at0 own ic (exN i) exS).filter (fun w => !goodWord w), w ∈ Cond.castable (exN i) (exN i) :: nDecl.map Cond.declares) (h3 : (Cond.classLink own ik (exN i) :: Cond.initialized (exN i) :: vx_at0 own ic (exN i) exS).all vx_ot = true)
    (hsize : ls.size = nL) (d0 : decode cc pc = .ok (.new ik, 3)) (d3 : decode cc (pc + 3) = .ok (.dup, 1)) (d4 : decode cc (pc + 4) = .ok (.invokespecial ic, 3)) (d7 : decode cc (pc + 7) = .ok (.athrow, 1)) (hout : ∀ x ∈ c.exceptionTable.toList, covers x (pc + 7) = false)
    (hF : 5 < R.frames) (hL : (rest.map fun v => v.category).sum + 81 ≤ R.locals) (hRc : R.cells = mc) (hRs : R.slots = ms) (hlk : meth.locks = false) (hp : px i g) (hc : cells + 1 ≤ mc) (hs : slots + 6 ≤ ms) :
    W p l e R s m args below meth c H locs cells slots (vx_MQ below Qc (Xg D cA sz px) args s mc ms (oA sz)) (F0 m pc ls rest) := by
  obtain ⟨hx, hb, hml, hown, hts⟩ := S
  have hat : ∀ w ∈ vx_at0 own ic (exN i) exS, w.before args s = true := vx_hat (fun w hw => hts w (h1 w hw)) h2 (fun w hw => by
    rcases List.mem_cons.mp hw with rfl | hw
    · exact va_Nw.use rfl (hZ.2.2.2.2.2.2.2.2.2.2.1 i hi)
    · obtain ⟨x, hx, rfl⟩ := List.mem_map.mp hw
      exact va_Nw.use rfl (hZ.2.2.2.2.2.2.2.2.2.2.2.2.2.2.2.2.2.2 x hx))
  refine vx_throw0 hx hb hl (A := oA sz) hown (exN_fit i hi) (by decide +kernel) (hts _ hk) (hts _ hn) hat (fun w hw => List.all_eq_true.mp h3 w hw) hZ.2.2.2.1 hZ.2.2.2.2.1 hS (hsize.trans hml.symm) d0 d3 d4 d7 hout hF hL (by rw [hRc]; exact hc) (by rw [hRs]; exact hs) hlk (fun t hal hz hq => ?_) hS.2.2 hc hs
  exact ⟨i, g, hi, rfl, hp, hG.kept hq, Nat.le_trans hS.1 hz, fun q h1 h2 => (hq q (Nat.lt_of_lt_of_le h1 hS.1)).trans (hS.2.1 q h1 h2)⟩
/-- what was thrown below leaves this method too -/
theorem r_out {i : Nat} {px : Nat → Sg → Prop} {Qc : Array Value → State → Outcome → State → Prop} {ce : Cell} {q9 : Addr} (hout : ∀ x ∈ c.exceptionTable.toList, covers x pc = false) (hlk : meth.locks = false) (hG : WP D cA sz g H) (hS : va_S (oA sz) s.heap H locs) (hi : i < 5) (hp : px i g) (h1 : H[q9]? = some ce) (h2 : ce.vm = .none) (h3 : s.vm.findClass (exN i) = some ce.cls) (hc : cells ≤ mc) (hs : slots ≤ ms) :
    vx_W p l e R s m args below meth c H locs cells slots (vx_MQ below Qc (Xg D cA sz px) args s mc ms (oA sz)) (F0 m pc ls rest) q9 :=
  vx_out hout hlk h1 h2 h3 (fun t ht hal => ⟨i, g, hi, rfl, hp, by rw [ht]; exact hG, hS.F ht⟩) hS.2.2 hc hs
/-- .. or is caught here, by row x -/
theorem r_catch {i : Nat} {ce : Cell} {q9 : Addr} (S : CallFix p m c cc nL s args TBL own) (hZ : Ws D cA sz z mi s) (hi : i < 5) (pre : List ExceptionTableEntry) (x : ExceptionTableEntry) (suf : List ExceptionTableEntry) (hsp : c.exceptionTable.toList = pre ++ x :: suf)
    (hpre : ∀ y ∈ pre, y.catchType ≠ 0 ∧ ∃ j, j < 5 ∧ i ≠ j ∧ Cond.classLink own y.catchType (exN j) ∈ TBL) (hx : covers x pc = true) (h0 : x.catchType ≠ 0) (hl : Cond.classLink own x.catchType (exN i) ∈ TBL) (h1 : H[q9]? = some ce) (h2 : ce.vm = .none) (h3 : s.vm.findClass (exN i) = some ce.cls)
    (kk : W p l e R s m args below meth c H locs cells slots Q (F0 m x.handlerPc ls [.ref q9])) : vx_W p l e R s m args below meth c H locs cells slots Q (F0 m pc ls rest) q9 :=
  vx_catch S.2.2.2.1 pre x suf hsp (fun y hy => by
    obtain ⟨a1, j, b1, b2, b3⟩ := hpre y hy
    exact Or.inr ⟨a1, exN j, S.2.2.2.2 _ b3, hZ.2.2.2.2.2.2.2.2.2.1 i j hi b1 b2⟩) hx h0 (S.2.2.2.2 _ hl) (va_Nw.use rfl (hZ.2.2.2.2.2.2.2.2.2.2.1 i hi)) h1 h2 h3 kk
/-! objects into rows, casts -/
theorem r_aast {k b kb nb N : Nat} {E C : String} {T : u_T} (S : CallFix p m c cc nL s args Ts own) (hZ : Ws D cA sz z mi s) (hG : WP D cA sz g H) (hS : va_S (oA sz) s.heap H locs) (hi : inA g a k i j) (hk : 103 < k) (ht : (hp_tys cA)[k - 100]? = some (cA k, .object E)) (hv : hT g b = some (kb, nb)) (hb1 : kb < 100) (hc : hp_cl[kb]? = some (C, T, N)) (hca : C = E ∨ (C, E) ∈ nCast) (hdg : decode cc pc = .ok (.aastore, 1))
    (kk : ∀ (g2 : Sg) (H1 : Heap) (locs1 : List Loc), g2 = sR g a j (some b) → WP D cA sz g2 H1 → va_S (oA sz) s.heap H1 locs1 → W p l e R s m args below meth c H1 locs1 cells slots Q (F0 m (pc + 1) ls rest)) : W p l e R s m args below meth c H locs cells slots Q (F0 m pc ls (.ref b :: .int i :: .ref a :: rest)) := by
  obtain ⟨n, ha, hv1, rfl, -⟩ := hi.vp
  obtain ⟨L, hL, hP, hD⟩ := hG
  obtain ⟨hm, q0, hq⟩ := WP.at (cA := cA) (by rw [ha]; exact fun h => nomatch h) hL
  obtain ⟨hm2, q2, hq2⟩ := WP.at (cA := cA) (a := b) (by rw [hv]; exact fun h => nomatch h) hL
  rw [enc_obj hv hb1] at hq2
  have hq' := hq
  rw [enc_R ha hk] at hq
  have hAny : va_Any E s H b := va_rAny hZ.1 hP hq2 hc (fun comp c0 f1 f2 => by
    rcases hca with rfl | hca
    · exact vb_asgS comp c0 f1 f2
    · exact vb_asgC (hZ.2.2.2.2.2.2.2.1 _ hca) comp c0 f1 f2)
  exact va_astqM S.1 S.2.1 hZ.1 hP hD hS q0 (k - 100) hq ht hAny hv1 hdg (fun H1 locs1 h1 h2 h3 => kk _ H1 locs1 rfl (WP.upd hL (hT_sR g a _ _) hD hm hq' (enc_sR ha hk) (fun b hb => enc_sR_ne hb) h1 h2) h3)
theorem r_cast {index kb nb N : Nat} {E C : String} {T : u_T} (S : CallFix p m c cc nL s args TBL own) (hZ : Ws D cA sz z mi s) (hG : WP D cA sz g H) (hl : Cond.classLink own index E ∈ TBL) (hv : hT g a = some (kb, nb)) (hb1 : kb < 100) (hc : hp_cl[kb]? = some (C, T, N)) (hca : (C, E) ∈ nCast) (hdg : decode cc pc = .ok (.checkcast index, 3))
    (kk : W p l e R s m args below meth c H locs cells slots Q (F0 m (pc + 3) ls (.ref a :: rest))) : W p l e R s m args below meth c H locs cells slots Q (F0 m pc ls (.ref a :: rest)) :=
  va_castY S.1 S.2.1 S.2.2.2.1 (S.2.2.2.2 _ hl) (hZ.2.2.2.2.2.2.2.1 _ hca) (WP.recv hZ hG hv hb1 hc) hdg kk
theorem r_inst {index kb nb N : Nat} {E C : String} {T : u_T} (S : CallFix p m c cc nL s args TBL own) (hZ : Ws D cA sz z mi s) (hG : WP D cA sz g H) (hl : Cond.classLink own index E ∈ TBL) (hv : hT g a = some (kb, nb)) (hb1 : kb < 100) (hc : hp_cl[kb]? = some (C, T, N)) (hca : (C, E) ∈ nCast) (hdg : decode cc pc = .ok (.instanceof index, 3))
    (kk : W p l e R s m args below meth c H locs cells slots Q (F0 m (pc + 3) ls (.int 1 :: rest))) : W p l e R s m args below meth c H locs cells slots Q (F0 m pc ls (.ref a :: rest)) :=
  va_instY S.1 S.2.1 S.2.2.2.1 (S.2.2.2.2 _ hl) (hZ.2.2.2.2.2.2.2.1 _ hca) (WP.recv hZ hG hv hb1 hc) hdg kk
theorem r_instN {index nb : Nat} (S : CallFix p m c cc nL s args TBL own) (hZ : Ws D cA sz z mi s) (hG : WP D cA sz g H) (hl : Cond.classLink own index "WeaveCore$Node" ∈ TBL) (hv : hT g a = some (2, nb)) (hdg : decode cc pc = .ok (.instanceof index, 3))
    (kk : W p l e R s m args below meth c H locs cells slots Q (F0 m (pc + 3) ls (.int 0 :: rest))) : W p l e R s m args below meth c H locs cells slots Q (F0 m pc ls (.ref a :: rest)) :=
  va_instNo S.1 S.2.1 S.2.2.2.1 (S.2.2.2.2 _ hl) hZ.2.2.2.2.2.2.2.2.1 (WP.recv hZ hG hv (by omega) rfl) hdg kk
end HV
/-! heads -/
section HH
variable {l : Launch} {D : va_G} {cA : Nat → ClassId} {sz z mi : Nat} {g : Sg} {y : MethodName} {cc : ByteArray} {maxL mc ms F Lc : Nat} {ret : Option FieldType} {av : List Value} {lv : List (Nat × Value)} {post : Option Value → Sg → Prop} {px : Nat → Sg → Prop} {hh : List (Nat × Nat × Nat × Nat)}
theorem m_code (hy : plainFor y = true) (hv : (lg_sl av).length ≤ maxL) (hlv : lv_args 0 av = lv)
    (body : ∀ (p : Program) (e : Env) (s : State) (m : MethodId) (below : List Frame) (meth : Method) (c : Code) (ls : Array Slot), CallFix p m c cc maxL s av.toArray TBL y.cls → meth.sig.returnType = ret → meth.locks = false → meth.name = y.name → Ws D cA sz z mi s → WP D cA sz g s.heap → va_S (oA sz) s.heap s.heap [] → lv_has ls maxL lv →
      W p l e { frames := F, cells := mc, slots := ms, locals := Lc } s m av.toArray below meth c s.heap [] 0 0 (MQ below (Qg D cA sz post) av.toArray s mc ms (oA sz)) (F0 m 0 ls [])) :
    Met l y (Cond.code y cc maxL ret :: TBL) { frames := F, cells := mc, slots := ms, locals := Lc } (Pg D cA sz z mi av g) (Qg D cA sz post) mc ms (oA sz) := by
  refine va_MetF (cc := cc) (maxL := maxL) (ret := ret) hy rfl ?_
  intro p e s m args below meth c s₁ B hml hP
  obtain ⟨rfl, hZ, hG⟩ := hP
  have hts := atoms_spec (ws := Cond.code y cc maxL ret :: TBL) B.pre
  rw [lg_entry_eq]
  exact body p e s m below meth c _ ⟨B.exec, B.bytes, hml, findClass_of_methodNamed B.named, fun w hw => hts w (List.mem_cons_of_mem _ hw)⟩ B.returns B.notSynchronized (name_of_methodNamed B.named B.method).1 hZ hG va_S.rf (hlv ▸ lv_entry av hv)
theorem m_codeX (hy : plainName y.cls = true) (hv : (lg_sl av).length ≤ maxL) (hlv : lv_args 0 av = lv)
    (body : ∀ (p : Program) (e : Env) (s : State) (m : MethodId) (below : List Frame) (meth : Method) (c : Code) (ls : Array Slot), (∀ x ∈ c.exceptionTable.toList, False) → CallFix p m c cc maxL s av.toArray TBL y.cls → meth.sig.returnType = ret → meth.locks = false → meth.name = y.name → Ws D cA sz z mi s → WP D cA sz g s.heap → va_S (oA sz) s.heap s.heap [] → lv_has ls maxL lv →
      W p l e { frames := F, cells := mc, slots := ms, locals := Lc } s m av.toArray below meth c s.heap [] 0 0 (vx_MQ below (Qg D cA sz post) (Xg D cA sz px) av.toArray s mc ms (oA sz)) (F0 m 0 ls [])) :
    vx_Met l y (Cond.code y cc maxL ret :: TBL) { frames := F, cells := mc, slots := ms, locals := Lc } (Pg D cA sz z mi av g) (Qg D cA sz post) (Xg D cA sz px) mc ms (oA sz) := by
  refine vx_ofW (cc := cc) (maxL := maxL) (ret := ret) hy rfl ?_
  intro p e s m args below meth c s₁ B hml ht hP
  obtain ⟨rfl, hZ, hG⟩ := hP
  have hts := atoms_spec (ws := Cond.code y cc maxL ret :: TBL) B.pre
  rw [lg_entry_eq]
  exact body p e s m below meth c _ ht ⟨B.exec, B.bytes, hml, findClass_of_methodNamed B.named, fun w hw => hts w (List.mem_cons_of_mem _ hw)⟩ B.returns B.notSynchronized (name_of_methodNamed B.named B.method).1 hZ hG va_S.rf (hlv ▸ lv_entry av hv)
theorem m_codeW (hy : plainName y.cls = true) (hv : (lg_sl av).length ≤ maxL) (hlv : lv_args 0 av = lv)
    (body : ∀ (p : Program) (e : Env) (s : State) (m : MethodId) (below : List Frame) (meth : Method) (c : Code) (ls : Array Slot), c.exceptionTable.toList = tableOf hh → CallFix p m c cc maxL s av.toArray TBL y.cls → meth.sig.returnType = ret → meth.locks = false → meth.name = y.name → Ws D cA sz z mi s → WP D cA sz g s.heap → va_S (oA sz) s.heap s.heap [] → lv_has ls maxL lv →
      W p l e { frames := F, cells := mc, slots := ms, locals := Lc } s m av.toArray below meth c s.heap [] 0 0 (MQ below (Qg D cA sz post) av.toArray s mc ms (oA sz)) (F0 m 0 ls [])) :
    Met l y (Cond.codeWith y cc maxL ret hh :: TBL) { frames := F, cells := mc, slots := ms, locals := Lc } (Pg D cA sz z mi av g) (Qg D cA sz post) mc ms (oA sz) := by
  refine va_MetW (cc := cc) (maxL := maxL) (ret := ret) hy rfl ?_
  intro p e s m args below meth c s₁ B hml hP
  obtain ⟨rfl, hZ, hG⟩ := hP
  have hts := atoms_spec (ws := Cond.codeWith y cc maxL ret hh :: TBL) B.pre
  rw [lg_entry_eq]
  exact body p e s m below meth c _ (vx_table (x := y) B (hts _ List.mem_cons_self)) ⟨B.exec, B.bytes, hml, findClass_of_methodNamed B.named, fun w hw => hts w (List.mem_cons_of_mem _ hw)⟩ B.returns B.notSynchronized (name_of_methodNamed B.named B.method).1 hZ hG va_S.rf (hlv ▸ lv_entry av hv)
end HH
