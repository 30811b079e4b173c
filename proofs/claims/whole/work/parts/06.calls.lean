/-! contracts over the heap as functions -/
section HC
variable {p : Program} {l : Launch} {e : Env} {R : Room} {s : State} {m : MethodId} {args : Array Value} {below : List Frame} {meth : Method} {c : Code} {H : Heap} {locs : List Loc} {cells slots : Nat} {Q : State → Prop}
variable {cc : ByteArray} {nL pc : Nat} {ls : Array Slot} {rest st0 : List Value} {Ts : List Cond} {own : String} {D : va_G} {cA : Nat → ClassId} {sz z mi : Nat} {g : Sg} {a j : Nat} {i : Int32}
theorem good_lays {C : String} {T : u_T} {N : Nat} {w : Cond} (h : w ∈ u_ws C T N) : (w.onTables && w.keeps) = true := by
  obtain ⟨k, -, rfl⟩ := List.mem_map.mp h
  unfold u_lay
  split <;> rfl
/-- what stays, seen from a later state -/
theorem Ws.move {U : State} (h : Ws D cA sz z mi s) (hW : s.WarmedH U.vm) (hs : sz ≤ U.heap.size) (hh : ∀ q, q < sz → U.heap[q]? = s.heap[q]?) : Ws D cA sz z mi U := by
  obtain ⟨h1, h2, h3, h4, h5, h6, h7, h8, h9, h10, h11, h12, h13, h14, h15, h16, h17, h18, h19⟩ := h
  have hq : ∀ a : Nat, a < s.heap.size → ¬ oA sz a → U.heap[a]? = s.heap[a]? := fun a _ h => hh a (Nat.not_le.mp h)
  refine ⟨h1.moved hW.alike, hs, fun k q hk w hw a' => word_at hW (Or.inl (good_lays hw)) (h3 k q hk w hw a'), (h4.kept hq).moved hW.alike, (h5.kept hq).moved hW.alike, (h6.kept hq).moved hW.alike, (h7.kept hq).moved hW.alike,
    fun q hq => (h8 q hq).warmC hW, h9.moved hW.alike, fun i j hi hj hn => (h10 i j hi hj hn).moved hW.alike, fun i hi => (h11 i hi).warmC hW, h12.warmM hW, h13.warmM hW, h14.moved hW.alike, h15.moved hW.alike, h16.moved hW.alike, ?_, h18.moved hW.alike, fun x hx => (h19 x hx).warmD hW⟩
  have h := Cond.arrayOver_setVmC (args := #[]) (s := s) hW.alike (.array .int)
  rw [h17] at h
  exact h
/-- a contract's start -/
def Pg (D : va_G) (cA : Nat → ClassId) (sz z mi : Nat) (av : List Value) (g : Sg) : Array Value → State → Prop := va_Pc av (fun U => Ws D cA sz z mi U ∧ WP D cA sz g U.heap)
/-- its end: an answer, a heap -/
def Qg (D : va_G) (cA : Nat → ClassId) (sz : Nat) (post : Option Value → Sg → Prop) : Array Value → State → Outcome → State → Prop := fun _ st oc t => (∃ (r : Option Value) (g2 : Sg), oc = .returned r ∧ post r g2 ∧ WP D cA sz g2 t.heap) ∧ va_F (oA sz) st t
/-- its end by an exception, the i-th kind -/
def Xg (D : va_G) (cA : Nat → ClassId) (sz : Nat) (px : Nat → Sg → Prop) : String → State → State → Prop := fun E st t => ∃ (i : Nat) (g2 : Sg), i < 5 ∧ E = exN i ∧ px i g2 ∧ WP D cA sz g2 t.heap ∧ va_F (oA sz) st t
abbrev pI (post : Int32 → Sg → Prop) : Option Value → Sg → Prop := fun r g2 => ∃ x : Int32, r = some (.int x) ∧ post x g2
abbrev pL (post : Int64 → Sg → Prop) : Option Value → Sg → Prop := fun r g2 => ∃ x : Int64, r = some (.long x) ∧ post x g2
abbrev pR (post : Option Nat → Sg → Prop) : Option Value → Sg → Prop := fun r g2 => ∃ x : Option Nat, r = some (va_rf x) ∧ post x g2
abbrev pV (post : Sg → Prop) : Option Value → Sg → Prop := fun r g2 => r = none ∧ post g2
theorem blindPg {av : List Value} : FrameBlind (Pg D cA sz z mi av g) := fun a U g0 mk h => by
  obtain ⟨h1, h2, h3⟩ := h
  exact ⟨h1, h2.move (U := U.calling g0 mk a) (State.WarmedH.refl U) h2.2.1 (fun _ _ => rfl), h3⟩
theorem prePg {av : List Value} (hZ : Ws D cA sz z mi s) (hG : WP D cA sz g H) (hS : va_S (oA sz) s.heap H locs) : ∀ U : State, U.heap = H → s.WarmedH U.vm → Pg D cA sz z mi av g av.toArray U := fun U hU hW => by
  refine ⟨rfl, hZ.move hW (by rw [hU]; exact Nat.le_trans hZ.2.1 hS.1) (fun q hq => ?_), by rw [hU]; exact hG⟩
  rw [hU]
  exact hS.2.1 q (Nat.lt_of_lt_of_le hq hZ.2.1) (Nat.not_le.mpr hq)
/-- going on behind a call -/
theorem q_call {post : Option Value → Sg → Prop} {mc ms : Nat} {av : Array Value} (hr : va_Run p l e R s m args below meth c H locs cells slots mc ms (F0 m pc ls st0) rest (Qg D cA sz post av) (oA sz)) (hS : va_S (oA sz) s.heap H locs)
    (kk : ∀ (r : Option Value) (g2 : Sg) (H1 : Heap) (locs1 : List Loc), post r g2 → WP D cA sz g2 H1 → va_S (oA sz) s.heap H1 locs1 → W p l e R s m args below meth c H1 locs1 (cells + mc) (slots + ms) Q (F0 m (pc + 3) ls (r.toList ++ rest))) : W p l e R s m args below meth c H locs cells slots Q (F0 m pc ls st0) := by
  intro T hT X
  obtain ⟨v, st₀, t, T', L, h0, X', hL, e1, e2, ⟨⟨r, g2, hv, hp, hw⟩, hF⟩, st⟩ := hr T hT X
  cases hv
  obtain ⟨k1, k2, k3⟩ := vx_keep h0 e1 hS (fun q _ h => h) (fun q h => h) hL hF
  obtain ⟨t2, a1, b1⟩ := kk v g2 T'.heap (locs ++ L) hp (by rw [e1]; exact hw) k3 T' rfl X'
  exact ⟨t2, st t2 a1, b1⟩
theorem x_call {post : Option Value → Sg → Prop} {px : Nat → Sg → Prop} {mc ms : Nat} {av : Array Value} (hr : vx_Run p l e R s m args below meth c H locs cells slots mc ms (F0 m pc ls st0) rest (Qg D cA sz post av) (Xg D cA sz px) (oA sz)) (hS : va_S (oA sz) s.heap H locs)
    (kx : ∀ (i : Nat) (ce : Cell) (q9 : Addr) (g2 : Sg) (H1 : Heap) (locs1 : List Loc), i < 5 → px i g2 → WP D cA sz g2 H1 → va_S (oA sz) s.heap H1 locs1 → H1[q9]? = some ce → ce.vm = .none → s.vm.findClass (exN i) = some ce.cls → vx_W p l e R s m args below meth c H1 locs1 (cells + mc) (slots + ms) Q (F0 m pc ls rest) q9)
    (kk : ∀ (r : Option Value) (g2 : Sg) (H1 : Heap) (locs1 : List Loc), post r g2 → WP D cA sz g2 H1 → va_S (oA sz) s.heap H1 locs1 → W p l e R s m args below meth c H1 locs1 (cells + mc) (slots + ms) Q (F0 m (pc + 3) ls (r.toList ++ rest))) : W p l e R s m args below meth c H locs cells slots Q (F0 m pc ls st0) := by
  intro T hT X
  rcases hr T hT X with ⟨v, st₀, t, T', L, h0, X', hL, e1, e2, ⟨⟨r, g2, hv, hp, hw⟩, hF⟩, st⟩ | ⟨q, st₀, t, T', L, E, ce, h0, X', hL, e1, e2, ⟨i, g2, hi, rfl, hp, hw, hF⟩, hce, hcv, hcl, st⟩
  · cases hv
    obtain ⟨k1, k2, k3⟩ := vx_keep h0 e1 hS (fun q _ h => h) (fun q h => h) hL hF
    obtain ⟨t2, a1, b1⟩ := kk v g2 T'.heap (locs ++ L) hp (by rw [e1]; exact hw) k3 T' rfl X'
    exact ⟨t2, st t2 a1, b1⟩
  · obtain ⟨k1, k2, k3⟩ := vx_keep h0 e1 hS (fun q _ h => h) (fun q h => h) hL hF
    obtain ⟨t2, a1, b1⟩ := kx i ce q g2 T'.heap (locs ++ L) hi hp (by rw [e1]; exact hw) k3 (by rw [e1]; exact hce) hcv hcl T' rfl X'
    exact ⟨t2, st.trans a1, b1⟩
end HC
/-! calls, by their kinds -/
section HR
variable {p : Program} {l : Launch} {e : Env} {R : Room} {s : State} {m : MethodId} {args : Array Value} {below : List Frame} {meth : Method} {c : Code} {H : Heap} {locs : List Loc} {cells slots : Nat} {Q : State → Prop}
variable {cc bytes : ByteArray} {nL pc maxL mc ms n index F Lc k0 n0 N b : Nat} {ls : Array Slot} {rest st0 As : List Value} {own C : String} {T : u_T} {D : va_G} {cA : Nat → ClassId} {sz z mi : Nat} {g : Sg} {x y : MethodName} {ret : Option FieldType} {post : Option Value → Sg → Prop} {px : Nat → Sg → Prop} {hh : List (Nat × Nat × Nat × Nat)}
/-- what a call asks of names -/
def nmOk (y : MethodName) (n : Nat) : Prop := y.cls ≠ "java/lang/invoke/MethodHandle" ∧ y.cls ≠ "java/lang/invoke/VarHandle" ∧ (parseMethodDescriptor y.desc).map (fun d => d.parameters.length) = some n
theorem WP.recv (hZ : Ws D cA sz z mi s) (hG : WP D cA sz g H) (hk : hT g b = some (k0, n0)) (hl : k0 < 100) (hc : hp_cl[k0]? = some (C, T, N)) : ∃ cell : Cell, H[b]? = some cell ∧ cell.vm.isStatics = false ∧ s.vm.findClass C = some cell.cls := by
  obtain ⟨L, hL, hP, hD⟩ := hG
  obtain ⟨hm, q0, hq⟩ := WP.at (cA := cA) (by rw [hk]; exact fun h => nomatch h) hL
  rw [enc_obj hk hl] at hq
  exact va_recv hZ.1 hP hc hq
theorem run_V (S : CallFix p m c cc nL s args TBL own) (hZ : Ws D cA sz z mi s) (hG : WP D cA sz g H) (hS : va_S (oA sz) s.heap H locs)
    (hM : Met l y (Cond.code y bytes maxL ret :: TBL) { frames := F, cells := mc, slots := ms, locals := Lc } (Pg D cA sz z mi (.ref b :: As) g) (Qg D cA sz post) mc ms (oA sz))
    (hc : Cond.code y bytes maxL ret ∈ TBL) (hl : Cond.methodLink own index y ∈ TBL) (hi : Cond.instanceMethod y ∈ TBL) (hse : Cond.selects y.cls y y ∈ TBL) (hn : Cond.initialized y.cls ∈ TBL) (hd : nmOk y n)
    (hk : hT g b = some (k0, n0)) (hk1 : k0 < 100) (hkc : hp_cl[k0]? = some (y.cls, T, N)) (hR : F + 1 ≤ R.frames ∧ 8 + (maxL + 11) + Lc ≤ R.locals) (hA : As.length = n) (hz : ls.size = nL) (hst : st0 = As.reverse ++ .ref b :: rest) (hr : (rest.map fun v => v.category).sum ≤ 8) (hdg : decode cc pc = .ok (.invokevirtual index, 3)) (hf : cells + mc ≤ R.cells ∧ slots + ms ≤ R.slots) :
    va_Run p l e R s m args below meth c H locs cells slots mc ms (F0 m pc ls st0) rest (Qg D cA sz post (Value.ref b :: As).toArray) (oA sz) :=
  va_runV (As := As) (rest := rest) S hM ⟨callB_of n S.2.2.2.2 (tb_gi hc) rfl rfl rfl (S.2.2.2.2 _ hn) (S.2.2.2.2 _ hl) hd hR, S.2.2.2.2 _ hi, S.2.2.2.2 _ hse⟩ ⟨blindPg, WP.recv hZ hG hk hk1 hkc, prePg hZ hG hS⟩ rfl hA hz hst (lv_room hr) hdg hf
theorem xrun_V (S : CallFix p m c cc nL s args TBL own) (hZ : Ws D cA sz z mi s) (hG : WP D cA sz g H) (hS : va_S (oA sz) s.heap H locs)
    (hM : vx_Met l y (Cond.code y bytes maxL ret :: TBL) { frames := F, cells := mc, slots := ms, locals := Lc } (Pg D cA sz z mi (.ref b :: As) g) (Qg D cA sz post) (Xg D cA sz px) mc ms (oA sz))
    (hc : Cond.code y bytes maxL ret ∈ TBL) (hl : Cond.methodLink own index y ∈ TBL) (hi : Cond.instanceMethod y ∈ TBL) (hse : Cond.selects y.cls y y ∈ TBL) (hn : Cond.initialized y.cls ∈ TBL) (hd : nmOk y n)
    (hk : hT g b = some (k0, n0)) (hk1 : k0 < 100) (hkc : hp_cl[k0]? = some (y.cls, T, N)) (hR : F + 1 ≤ R.frames ∧ 8 + (maxL + 11) + Lc ≤ R.locals) (hA : As.length = n) (hz : ls.size = nL) (hst : st0 = As.reverse ++ .ref b :: rest) (hr : (rest.map fun v => v.category).sum ≤ 8) (hdg : decode cc pc = .ok (.invokevirtual index, 3)) (hf : cells + mc ≤ R.cells ∧ slots + ms ≤ R.slots) :
    vx_Run p l e R s m args below meth c H locs cells slots mc ms (F0 m pc ls st0) rest (Qg D cA sz post (Value.ref b :: As).toArray) (Xg D cA sz px) (oA sz) :=
  vx_runV (As := As) (rest := rest) S hM ⟨callB_of n S.2.2.2.2 (tb_gi hc) rfl rfl rfl (S.2.2.2.2 _ hn) (S.2.2.2.2 _ hl) hd hR, S.2.2.2.2 _ hi, S.2.2.2.2 _ hse⟩ ⟨blindPg, WP.recv hZ hG hk hk1 hkc, prePg hZ hG hS⟩ rfl hA hz hst (lv_room hr) hdg hf
theorem run_S (S : CallFix p m c cc nL s args TBL own) (hZ : Ws D cA sz z mi s) (hG : WP D cA sz g H) (hS : va_S (oA sz) s.heap H locs)
    (hM : Met l y (Cond.code y bytes maxL ret :: TBL) { frames := F, cells := mc, slots := ms, locals := Lc } (Pg D cA sz z mi As g) (Qg D cA sz post) mc ms (oA sz))
    (hc : Cond.code y bytes maxL ret ∈ TBL) (hl : Cond.methodLink own index y ∈ TBL) (hi : Cond.static y ∈ TBL) (hn : Cond.initialized y.cls ∈ TBL) (hd : nmOk y n)
    (hR : F + 1 ≤ R.frames ∧ 8 + (maxL + 11) + Lc ≤ R.locals) (hA : As.length = n) (hz : ls.size = nL) (hst : st0 = As.reverse ++ rest) (hr : (rest.map fun v => v.category).sum ≤ 8) (hdg : decode cc pc = .ok (.invokestatic index, 3)) (hf : cells + mc ≤ R.cells ∧ slots + ms ≤ R.slots) :
    va_Run p l e R s m args below meth c H locs cells slots mc ms (F0 m pc ls st0) rest (Qg D cA sz post As.toArray) (oA sz) :=
  va_runS (As := As) (rest := rest) S hM ⟨callB_of n S.2.2.2.2 (tb_gi hc) rfl rfl rfl (S.2.2.2.2 _ hn) (S.2.2.2.2 _ hl) hd hR, S.2.2.2.2 _ hi⟩ ⟨blindPg, prePg hZ hG hS⟩ rfl hA hz hst (lv_room hr) hdg hf
theorem xrun_S (S : CallFix p m c cc nL s args TBL own) (hZ : Ws D cA sz z mi s) (hG : WP D cA sz g H) (hS : va_S (oA sz) s.heap H locs)
    (hM : vx_Met l y (Cond.code y bytes maxL ret :: TBL) { frames := F, cells := mc, slots := ms, locals := Lc } (Pg D cA sz z mi As g) (Qg D cA sz post) (Xg D cA sz px) mc ms (oA sz))
    (hc : Cond.code y bytes maxL ret ∈ TBL) (hl : Cond.methodLink own index y ∈ TBL) (hi : Cond.static y ∈ TBL) (hn : Cond.initialized y.cls ∈ TBL) (hd : nmOk y n)
    (hR : F + 1 ≤ R.frames ∧ 8 + (maxL + 11) + Lc ≤ R.locals) (hA : As.length = n) (hz : ls.size = nL) (hst : st0 = As.reverse ++ rest) (hr : (rest.map fun v => v.category).sum ≤ 8) (hdg : decode cc pc = .ok (.invokestatic index, 3)) (hf : cells + mc ≤ R.cells ∧ slots + ms ≤ R.slots) :
    vx_Run p l e R s m args below meth c H locs cells slots mc ms (F0 m pc ls st0) rest (Qg D cA sz post As.toArray) (Xg D cA sz px) (oA sz) :=
  vx_runS (As := As) (rest := rest) S hM ⟨callB_of n S.2.2.2.2 (tb_gi hc) rfl rfl rfl (S.2.2.2.2 _ hn) (S.2.2.2.2 _ hl) hd hR, S.2.2.2.2 _ hi⟩ ⟨blindPg, prePg hZ hG hS⟩ rfl hA hz hst (lv_room hr) hdg hf
theorem run_I (S : CallFix p m c cc nL s args TBL own) (hZ : Ws D cA sz z mi s) (hG : WP D cA sz g H) (hS : va_S (oA sz) s.heap H locs)
    (hM : Met l y (Cond.code y bytes maxL none :: TBL) { frames := F, cells := mc, slots := ms, locals := Lc } (Pg D cA sz z mi (.ref b :: As) g) (Qg D cA sz post) mc ms (oA sz))
    (hc : Cond.code y bytes maxL none ∈ TBL) (hl : Cond.methodLink own index y ∈ TBL) (hi : Cond.instanceMethod y ∈ TBL) (hn : Cond.initialized y.cls ∈ TBL) (hy : y.name = "<init>") (hd : nmOk y n)
    (hR : F + 1 ≤ R.frames ∧ 8 + (maxL + 11) + Lc ≤ R.locals) (hA : As.length = n) (hz : ls.size = nL) (hst : st0 = As.reverse ++ .ref b :: rest) (hr : (rest.map fun v => v.category).sum ≤ 8) (hdg : decode cc pc = .ok (.invokespecial index, 3)) (hf : cells + mc ≤ R.cells ∧ slots + ms ≤ R.slots) :
    va_Run p l e R s m args below meth c H locs cells slots mc ms (F0 m pc ls st0) rest (Qg D cA sz post (Value.ref b :: As).toArray) (oA sz) :=
  va_runI (As := As) (rest := rest) S hM ⟨callB_of n S.2.2.2.2 (tb_gi hc) rfl rfl rfl (S.2.2.2.2 _ hn) (S.2.2.2.2 _ hl) hd hR, hy, S.2.2.2.2 _ hi⟩ ⟨blindPg, prePg hZ hG hS⟩ rfl hA hz hst (lv_room hr) hdg hf
theorem run_IN {host : String} (S : CallFix p m c cc nL s args TBL own) (hZ : Ws D cA sz z mi s) (hG : WP D cA sz g H) (hS : va_S (oA sz) s.heap H locs)
    (hM : Met l y (Cond.code y bytes maxL none :: TBL) { frames := F, cells := mc, slots := ms, locals := Lc } (Pg D cA sz z mi (.ref b :: As) g) (Qg D cA sz post) mc ms (oA sz))
    (hc : Cond.code y bytes maxL none ∈ TBL) (hl : va_Nw (.methodLinkNest own index y host) s) (hi : Cond.instanceMethod y ∈ TBL) (hn : Cond.initialized y.cls ∈ TBL) (hy : y.name = "<init>") (hd : nmOk y n)
    (hR : F + 1 ≤ R.frames ∧ 8 + (maxL + 11) + Lc ≤ R.locals) (hA : As.length = n) (hz : ls.size = nL) (hst : st0 = As.reverse ++ .ref b :: rest) (hr : (rest.map fun v => v.category).sum ≤ 8) (hdg : decode cc pc = .ok (.invokespecial index, 3)) (hf : cells + mc ≤ R.cells ∧ slots + ms ≤ R.slots) :
    va_Run p l e R s m args below meth c H locs cells slots mc ms (F0 m pc ls st0) rest (Qg D cA sz post (Value.ref b :: As).toArray) (oA sz) :=
  va_runIN (As := As) (rest := rest) S hM ⟨va_cnB n S.2.2.2.2 (tb_gi hc) rfl rfl rfl hl (S.2.2.2.2 _ hn) hd hR, hy, S.2.2.2.2 _ hi⟩ ⟨blindPg, prePg hZ hG hS⟩ rfl hA hz hst (lv_room hr) hdg hf
theorem run_VN {host : String} (S : CallFix p m c cc nL s args TBL own) (hZ : Ws D cA sz z mi s) (hG : WP D cA sz g H) (hS : va_S (oA sz) s.heap H locs)
    (hM : Met l y (Cond.code y bytes maxL ret :: TBL) { frames := F, cells := mc, slots := ms, locals := Lc } (Pg D cA sz z mi (.ref b :: As) g) (Qg D cA sz post) mc ms (oA sz))
    (hc : Cond.code y bytes maxL ret ∈ TBL) (hl : va_Nw (.methodLinkNest own index y host) s) (hi : Cond.instanceMethod y ∈ TBL) (hse : Cond.selects y.cls y y ∈ TBL) (hn : Cond.initialized y.cls ∈ TBL) (hd : nmOk y n)
    (hk : hT g b = some (k0, n0)) (hk1 : k0 < 100) (hkc : hp_cl[k0]? = some (y.cls, T, N)) (hR : F + 1 ≤ R.frames ∧ 8 + (maxL + 11) + Lc ≤ R.locals) (hA : As.length = n) (hz : ls.size = nL) (hst : st0 = As.reverse ++ .ref b :: rest) (hr : (rest.map fun v => v.category).sum ≤ 8) (hdg : decode cc pc = .ok (.invokevirtual index, 3)) (hf : cells + mc ≤ R.cells ∧ slots + ms ≤ R.slots) :
    va_Run p l e R s m args below meth c H locs cells slots mc ms (F0 m pc ls st0) rest (Qg D cA sz post (Value.ref b :: As).toArray) (oA sz) :=
  va_runVN (As := As) (rest := rest) S hM ⟨va_cnB n S.2.2.2.2 (tb_gi hc) rfl rfl rfl hl (S.2.2.2.2 _ hn) hd hR, S.2.2.2.2 _ hi, S.2.2.2.2 _ hse⟩ ⟨blindPg, WP.recv hZ hG hk hk1 hkc, prePg hZ hG hS⟩ rfl hA hz hst (lv_room hr) hdg hf
theorem run_U {owner : String} (S : CallFix p m c cc nL s args TBL own) (hZ : Ws D cA sz z mi s) (hG : WP D cA sz g H) (hS : va_S (oA sz) s.heap H locs)
    (hM : Met l y (Cond.code y bytes maxL ret :: TBL) { frames := F, cells := mc, slots := ms, locals := Lc } (Pg D cA sz z mi (.ref b :: As) g) (Qg D cA sz post) mc ms (oA sz))
    (hc : Cond.code y bytes maxL ret ∈ TBL) (hl : Cond.methodLink own index x ∈ TBL) (hsm : Cond.sameMethod x.cls owner x.name x.desc ∈ TBL) (hse : Cond.selects C x y ∈ TBL) (hi : Cond.instanceMethod y ∈ TBL) (hn : Cond.initialized y.cls ∈ TBL) (hyx : y = ⟨owner, x.name, x.desc⟩) (hd : nmOk y n)
    (hk : hT g b = some (k0, n0)) (hk1 : k0 < 100) (hkc : hp_cl[k0]? = some (C, T, N)) (hR : F + 1 ≤ R.frames ∧ 8 + (maxL + 11) + Lc ≤ R.locals) (hA : As.length = n) (hz : ls.size = nL) (hst : st0 = As.reverse ++ .ref b :: rest) (hr : (rest.map fun v => v.category).sum ≤ 8) (hdg : decode cc pc = .ok (.invokevirtual index, 3)) (hf : cells + mc ≤ R.cells ∧ slots + ms ≤ R.slots) :
    va_Run p l e R s m args below meth c H locs cells slots mc ms (F0 m pc ls st0) rest (Qg D cA sz post (Value.ref b :: As).toArray) (oA sz) := by
  have hg : ∀ w ∈ va_wsU own index C owner x y (Cond.code y bytes maxL ret :: TBL), w ∈ TBL := fun w hw => by
    unfold va_wsU at hw
    simp only [List.cons_append, List.nil_append, List.mem_cons] at hw
    rcases hw with rfl | rfl | rfl | rfl | rfl | rfl | hw
    · exact hl
    · exact hsm
    · exact hse
    · exact hi
    · exact hn
    · exact hc
    · exact hw
  have hd' : owner ≠ "java/lang/invoke/MethodHandle" ∧ owner ≠ "java/lang/invoke/VarHandle" ∧ (parseMethodDescriptor x.desc).map (fun d => d.parameters.length) = some n := by
    subst hyx; exact hd
  exact va_runU (As := As) (rest := rest) (x := x) (owner := owner) (C := C) S hM (va_cwU n S.2.2.2.2 (fun w hw => ⟨hg w hw, good_of_word (tb_good (hg w hw))⟩) rfl rfl rfl hyx hd' hR) ⟨blindPg, WP.recv hZ hG hk hk1 hkc, prePg hZ hG hS⟩ rfl hA hz hst (lv_room hr) hdg hf
theorem run_SW (S : CallFix p m c cc nL s args TBL own) (hZ : Ws D cA sz z mi s) (hG : WP D cA sz g H) (hS : va_S (oA sz) s.heap H locs)
    (hM : Met l y (Cond.codeWith y bytes maxL ret hh :: TBL) { frames := F, cells := mc, slots := ms, locals := Lc } (Pg D cA sz z mi As g) (Qg D cA sz post) mc ms (oA sz))
    (hc : Cond.codeWith y bytes maxL ret hh ∈ TBL) (hl : Cond.methodLink own index y ∈ TBL) (hi : Cond.static y ∈ TBL) (hn : Cond.initialized y.cls ∈ TBL) (hd : nmOk y n)
    (hR : F + 1 ≤ R.frames ∧ 8 + (maxL + 11) + Lc ≤ R.locals) (hA : As.length = n) (hz : ls.size = nL) (hst : st0 = As.reverse ++ rest) (hr : (rest.map fun v => v.category).sum ≤ 8) (hdg : decode cc pc = .ok (.invokestatic index, 3)) (hf : cells + mc ≤ R.cells ∧ slots + ms ≤ R.slots) :
    va_Run p l e R s m args below meth c H locs cells slots mc ms (F0 m pc ls st0) rest (Qg D cA sz post As.toArray) (oA sz) :=
  vx_runSW (As := As) (rest := rest) S hM ⟨⟨rfl, rfl, hR.1, hR.2, pay_in S.2.2.2.2 (tb_gi hc), List.mem_cons_self⟩, S.2.2.2.2 _ hc, S.2.2.2.2 _ hn, ⟨hd.1, hd.2.1⟩, fun sig h => (Option.some.inj (by have h2 := hd.2.2; rw [h] at h2; exact h2)).symm, S.2.2.2.2 _ hl, S.2.2.2.2 _ hi⟩ ⟨blindPg, prePg hZ hG hS⟩ rfl hA hz hst (lv_room hr) hdg hf
theorem run_VW (S : CallFix p m c cc nL s args TBL own) (hZ : Ws D cA sz z mi s) (hG : WP D cA sz g H) (hS : va_S (oA sz) s.heap H locs)
    (hM : Met l y (Cond.codeWith y bytes maxL ret hh :: TBL) { frames := F, cells := mc, slots := ms, locals := Lc } (Pg D cA sz z mi (.ref b :: As) g) (Qg D cA sz post) mc ms (oA sz))
    (hc : Cond.codeWith y bytes maxL ret hh ∈ TBL) (hl : Cond.methodLink own index y ∈ TBL) (hi : Cond.instanceMethod y ∈ TBL) (hse : Cond.selects y.cls y y ∈ TBL) (hn : Cond.initialized y.cls ∈ TBL) (hd : nmOk y n)
    (hk : hT g b = some (k0, n0)) (hk1 : k0 < 100) (hkc : hp_cl[k0]? = some (y.cls, T, N)) (hR : F + 1 ≤ R.frames ∧ 8 + (maxL + 11) + Lc ≤ R.locals) (hA : As.length = n) (hz : ls.size = nL) (hst : st0 = As.reverse ++ .ref b :: rest) (hr : (rest.map fun v => v.category).sum ≤ 8) (hdg : decode cc pc = .ok (.invokevirtual index, 3)) (hf : cells + mc ≤ R.cells ∧ slots + ms ≤ R.slots) :
    va_Run p l e R s m args below meth c H locs cells slots mc ms (F0 m pc ls st0) rest (Qg D cA sz post (Value.ref b :: As).toArray) (oA sz) :=
  vx_runVW (As := As) (rest := rest) (C := y.cls) S hM ⟨⟨rfl, rfl, hR.1, hR.2, pay_in S.2.2.2.2 (tb_gi hc), List.mem_cons_self⟩, S.2.2.2.2 _ hc, S.2.2.2.2 _ hn, ⟨hd.1, hd.2.1⟩, fun sig h => (Option.some.inj (by have h2 := hd.2.2; rw [h] at h2; exact h2)).symm, S.2.2.2.2 _ hl, S.2.2.2.2 _ hi, S.2.2.2.2 _ hse⟩ ⟨blindPg, WP.recv hZ hG hk hk1 hkc, prePg hZ hG hS⟩ rfl hA hz hst (lv_room hr) hdg hf
end HR
