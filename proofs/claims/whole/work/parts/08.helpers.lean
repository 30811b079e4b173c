/-! helpers of the walks -/
def isK (g : Sg) (a : Nat) (ks : List Nat) : Prop := ∃ k n : Nat, hT g a = some (k, n) ∧ k ∈ ks
theorem isK1 {g : Sg} {a k : Nat} (h : isK g a [k]) : ∃ n, hT g a = some (k, n) := by
  obtain ⟨k', n, h1, h2⟩ := h
  rw [List.mem_singleton.mp h2] at h1
  exact ⟨n, h1⟩
theorem isK2 {g : Sg} {a : Nat} (h : isK g a [2, 3]) : (∃ n, hT g a = some (2, n)) ∨ (∃ n, hT g a = some (3, n)) := by
  obtain ⟨k', n, h1, h2⟩ := h
  simp only [List.mem_cons, List.not_mem_nil, or_false] at h2
  rcases h2 with rfl | rfl
  · exact Or.inl ⟨n, h1⟩
  · exact Or.inr ⟨n, h1⟩
theorem de_100 (g : Sg) (a n : Nat) (c0 : ClassId) : vp_cell c0 (n, eA 100 (nO g a 100 n) a) = arrV c0 n (fun _ => defaultValue .int) := by simp [eA, nO, aI, vp_cell, defaultValue]
theorem de_101 (g : Sg) (a n : Nat) (c0 : ClassId) : vp_cell c0 (n, eA 101 (nO g a 101 n) a) = arrV c0 n (fun _ => defaultValue .short) := by simp [eA, nO, aI, vp_cell, defaultValue]
theorem de_102 (g : Sg) (a n : Nat) (c0 : ClassId) : vp_cell c0 (n, eA 102 (nO g a 102 n) a) = arrV c0 n (fun _ => defaultValue .boolean) := by simp [eA, nO, aI, vp_cell, defaultValue]
theorem de_103 (g : Sg) (a n : Nat) (c0 : ClassId) : vp_cell c0 (n, eA 103 (nO g a 103 n) a) = arrV c0 n (fun _ => defaultValue .long) := by simp [eA, nO, aL, vp_cell, defaultValue]
section HQ
variable {p : Program} {l : Launch} {e : Env} {R : Room} {s : State} {m : MethodId} {args : Array Value} {below : List Frame} {meth : Method} {c : Code} {H : Heap} {locs : List Loc} {cells slots : Nat} {Q : State → Prop}
variable {cc bytes : ByteArray} {nL pc mc ms maxL n index F Lc b : Nat} {ls : Array Slot} {rest st0 As : List Value} {own : String} {D : va_G} {cA : Nat → ClassId} {sz z mi : Nat} {g : Sg} {a j : Nat} {i : Int32} {av : Array Value} {px : Nat → Sg → Prop} {x y : MethodName} {ret : Option FieldType} {post9 : Option Value → Sg → Prop}
theorem q_callI {post : Int32 → Sg → Prop} (hr : va_Run p l e R s m args below meth c H locs cells slots mc ms (F0 m pc ls st0) rest (Qg D cA sz (pI post) av) (oA sz)) (hS : va_S (oA sz) s.heap H locs)
    (kk : ∀ (x : Int32) (g2 : Sg) (H1 : Heap) (locs1 : List Loc), post x g2 → WP D cA sz g2 H1 → va_S (oA sz) s.heap H1 locs1 → W p l e R s m args below meth c H1 locs1 (cells + mc) (slots + ms) Q (F0 m (pc + 3) ls (.int x :: rest))) : W p l e R s m args below meth c H locs cells slots Q (F0 m pc ls st0) :=
  q_call hr hS (fun r g2 H1 locs1 hp hG hS => by obtain ⟨x, rfl, hp⟩ := hp; exact kk x g2 H1 locs1 hp hG hS)
theorem q_callL {post : Int64 → Sg → Prop} (hr : va_Run p l e R s m args below meth c H locs cells slots mc ms (F0 m pc ls st0) rest (Qg D cA sz (pL post) av) (oA sz)) (hS : va_S (oA sz) s.heap H locs)
    (kk : ∀ (x : Int64) (g2 : Sg) (H1 : Heap) (locs1 : List Loc), post x g2 → WP D cA sz g2 H1 → va_S (oA sz) s.heap H1 locs1 → W p l e R s m args below meth c H1 locs1 (cells + mc) (slots + ms) Q (F0 m (pc + 3) ls (.long x :: rest))) : W p l e R s m args below meth c H locs cells slots Q (F0 m pc ls st0) :=
  q_call hr hS (fun r g2 H1 locs1 hp hG hS => by obtain ⟨x, rfl, hp⟩ := hp; exact kk x g2 H1 locs1 hp hG hS)
theorem q_callR {post : Option Nat → Sg → Prop} (hr : va_Run p l e R s m args below meth c H locs cells slots mc ms (F0 m pc ls st0) rest (Qg D cA sz (pR post) av) (oA sz)) (hS : va_S (oA sz) s.heap H locs)
    (kk : ∀ (x : Option Nat) (g2 : Sg) (H1 : Heap) (locs1 : List Loc), post x g2 → WP D cA sz g2 H1 → va_S (oA sz) s.heap H1 locs1 → W p l e R s m args below meth c H1 locs1 (cells + mc) (slots + ms) Q (F0 m (pc + 3) ls (va_rf x :: rest))) : W p l e R s m args below meth c H locs cells slots Q (F0 m pc ls st0) :=
  q_call hr hS (fun r g2 H1 locs1 hp hG hS => by obtain ⟨x, rfl, hp⟩ := hp; exact kk x g2 H1 locs1 hp hG hS)
theorem q_callV {post : Sg → Prop} (hr : va_Run p l e R s m args below meth c H locs cells slots mc ms (F0 m pc ls st0) rest (Qg D cA sz (pV post) av) (oA sz)) (hS : va_S (oA sz) s.heap H locs)
    (kk : ∀ (g2 : Sg) (H1 : Heap) (locs1 : List Loc), post g2 → WP D cA sz g2 H1 → va_S (oA sz) s.heap H1 locs1 → W p l e R s m args below meth c H1 locs1 (cells + mc) (slots + ms) Q (F0 m (pc + 3) ls rest)) : W p l e R s m args below meth c H locs cells slots Q (F0 m pc ls st0) :=
  q_call hr hS (fun r g2 H1 locs1 hp hG hS => by obtain ⟨rfl, hp⟩ := hp; exact kk g2 H1 locs1 hp hG hS)
abbrev kX (p : Program) (l : Launch) (e : Env) (R : Room) (s : State) (m : MethodId) (args : Array Value) (below : List Frame) (meth : Method) (c : Code) (Q : State → Prop) (D : va_G) (cA : Nat → ClassId) (sz : Nat) (px : Nat → Sg → Prop) (cells slots pc : Nat) (ls : Array Slot) (rest : List Value) : Prop :=
  ∀ (i : Nat) (ce : Cell) (q9 : Addr) (g2 : Sg) (H1 : Heap) (locs1 : List Loc), i < 5 → px i g2 → WP D cA sz g2 H1 → va_S (oA sz) s.heap H1 locs1 → H1[q9]? = some ce → ce.vm = .none → s.vm.findClass (exN i) = some ce.cls → vx_W p l e R s m args below meth c H1 locs1 cells slots Q (F0 m pc ls rest) q9
theorem x_callI {post : Int32 → Sg → Prop} (hr : vx_Run p l e R s m args below meth c H locs cells slots mc ms (F0 m pc ls st0) rest (Qg D cA sz (pI post) av) (Xg D cA sz px) (oA sz)) (hS : va_S (oA sz) s.heap H locs) (kx : kX p l e R s m args below meth c Q D cA sz px (cells + mc) (slots + ms) pc ls rest)
    (kk : ∀ (x : Int32) (g2 : Sg) (H1 : Heap) (locs1 : List Loc), post x g2 → WP D cA sz g2 H1 → va_S (oA sz) s.heap H1 locs1 → W p l e R s m args below meth c H1 locs1 (cells + mc) (slots + ms) Q (F0 m (pc + 3) ls (.int x :: rest))) : W p l e R s m args below meth c H locs cells slots Q (F0 m pc ls st0) :=
  x_call hr hS kx (fun r g2 H1 locs1 hp hG hS => by obtain ⟨x, rfl, hp⟩ := hp; exact kk x g2 H1 locs1 hp hG hS)
theorem x_callL {post : Int64 → Sg → Prop} (hr : vx_Run p l e R s m args below meth c H locs cells slots mc ms (F0 m pc ls st0) rest (Qg D cA sz (pL post) av) (Xg D cA sz px) (oA sz)) (hS : va_S (oA sz) s.heap H locs) (kx : kX p l e R s m args below meth c Q D cA sz px (cells + mc) (slots + ms) pc ls rest)
    (kk : ∀ (x : Int64) (g2 : Sg) (H1 : Heap) (locs1 : List Loc), post x g2 → WP D cA sz g2 H1 → va_S (oA sz) s.heap H1 locs1 → W p l e R s m args below meth c H1 locs1 (cells + mc) (slots + ms) Q (F0 m (pc + 3) ls (.long x :: rest))) : W p l e R s m args below meth c H locs cells slots Q (F0 m pc ls st0) :=
  x_call hr hS kx (fun r g2 H1 locs1 hp hG hS => by obtain ⟨x, rfl, hp⟩ := hp; exact kk x g2 H1 locs1 hp hG hS)
theorem x_callV {post : Sg → Prop} (hr : vx_Run p l e R s m args below meth c H locs cells slots mc ms (F0 m pc ls st0) rest (Qg D cA sz (pV post) av) (Xg D cA sz px) (oA sz)) (hS : va_S (oA sz) s.heap H locs) (kx : kX p l e R s m args below meth c Q D cA sz px (cells + mc) (slots + ms) pc ls rest)
    (kk : ∀ (g2 : Sg) (H1 : Heap) (locs1 : List Loc), post g2 → WP D cA sz g2 H1 → va_S (oA sz) s.heap H1 locs1 → W p l e R s m args below meth c H1 locs1 (cells + mc) (slots + ms) Q (F0 m (pc + 3) ls rest)) : W p l e R s m args below meth c H locs cells slots Q (F0 m pc ls st0) :=
  x_call hr hS kx (fun r g2 H1 locs1 hp hG hS => by obtain ⟨rfl, hp⟩ := hp; exact kk g2 H1 locs1 hp hG hS)
/-- a call on an event: a Cut or a Node -/
theorem run_E {owner : String} (S : CallFix p m c cc nL s args TBL own) (hZ : Ws D cA sz z mi s) (hG : WP D cA sz g H) (hS : va_S (oA sz) s.heap H locs)
    (hM : Met l y (Cond.code y bytes maxL ret :: TBL) { frames := F, cells := mc, slots := ms, locals := Lc } (Pg D cA sz z mi (.ref b :: As) g) (Qg D cA sz post9) mc ms (oA sz))
    (hc : Cond.code y bytes maxL ret ∈ TBL) (hl : Cond.methodLink own index x ∈ TBL) (hsm : Cond.sameMethod x.cls owner x.name x.desc ∈ TBL) (hse2 : Cond.selects "WeaveCore$Cut" x y ∈ TBL) (hse3 : Cond.selects "WeaveCore$Node" x y ∈ TBL) (hi : Cond.instanceMethod y ∈ TBL) (hn : Cond.initialized y.cls ∈ TBL) (hyx : y = ⟨owner, x.name, x.desc⟩) (hd : nmOk y n)
    (hk : isK g b [2, 3]) (hR : F + 1 ≤ R.frames ∧ 8 + (maxL + 11) + Lc ≤ R.locals) (hA : As.length = n) (hz : ls.size = nL) (hst : st0 = As.reverse ++ .ref b :: rest) (hr : (rest.map fun v => v.category).sum ≤ 8) (hdg : decode cc pc = .ok (.invokevirtual index, 3)) (hf : cells + mc ≤ R.cells ∧ slots + ms ≤ R.slots) :
    va_Run p l e R s m args below meth c H locs cells slots mc ms (F0 m pc ls st0) rest (Qg D cA sz post9 (Value.ref b :: As).toArray) (oA sz) := by
  rcases isK2 hk with ⟨n0, hk⟩ | ⟨n0, hk⟩
  · exact run_U S hZ hG hS hM hc hl hsm hse2 hi hn hyx hd hk (by decide) rfl hR hA hz hst hr hdg hf
  · exact run_U S hZ hG hS hM hc hl hsm hse3 hi hn hyx hd hk (by decide) rfl hR hA hz hst hr hdg hf
theorem r_castE {index : Nat} (S : CallFix p m c cc nL s args TBL own) (hZ : Ws D cA sz z mi s) (hG : WP D cA sz g H) (hl : Cond.classLink own index "WeaveCore$Event" ∈ TBL) (hk : isK g a [2, 3]) (hdg : decode cc pc = .ok (.checkcast index, 3))
    (kk : W p l e R s m args below meth c H locs cells slots Q (F0 m (pc + 3) ls (.ref a :: rest))) : W p l e R s m args below meth c H locs cells slots Q (F0 m pc ls (.ref a :: rest)) := by
  rcases isK2 hk with ⟨n0, hk⟩ | ⟨n0, hk⟩
  · exact r_cast S hZ hG hl hk (by decide) rfl (by decide) hdg kk
  · exact r_cast S hZ hG hl hk (by decide) rfl (by decide) hdg kk
theorem r_castN {index : Nat} (S : CallFix p m c cc nL s args TBL own) (hZ : Ws D cA sz z mi s) (hG : WP D cA sz g H) (hl : Cond.classLink own index "WeaveCore$Node" ∈ TBL) (hk : isK g a [3]) (hdg : decode cc pc = .ok (.checkcast index, 3))
    (kk : W p l e R s m args below meth c H locs cells slots Q (F0 m (pc + 3) ls (.ref a :: rest))) : W p l e R s m args below meth c H locs cells slots Q (F0 m pc ls (.ref a :: rest)) := by
  obtain ⟨n0, hk⟩ := isK1 hk
  exact r_cast S hZ hG hl hk (by decide) rfl (by decide) hdg kk
theorem r_aast104 (S : CallFix p m c cc nL s args TBL own) (hZ : Ws D cA sz z mi s) (hG : WP D cA sz g H) (hS : va_S (oA sz) s.heap H locs) (hi : inA g a 104 i j) (hk : isK g b [1]) (hdg : decode cc pc = .ok (.aastore, 1))
    (kk : ∀ (g2 : Sg) (H1 : Heap) (locs1 : List Loc), g2 = sR g a j (some b) → WP D cA sz g2 H1 → va_S (oA sz) s.heap H1 locs1 → W p l e R s m args below meth c H1 locs1 cells slots Q (F0 m (pc + 1) ls rest)) : W p l e R s m args below meth c H locs cells slots Q (F0 m pc ls (.ref b :: .int i :: .ref a :: rest)) := by
  obtain ⟨n0, hk⟩ := isK1 hk
  exact r_aast S hZ hG hS hi (by decide) rfl hk (by decide) rfl (Or.inl rfl) hdg kk
theorem r_aast105 (S : CallFix p m c cc nL s args TBL own) (hZ : Ws D cA sz z mi s) (hG : WP D cA sz g H) (hS : va_S (oA sz) s.heap H locs) (hi : inA g a 105 i j) (hk : isK g b [2, 3]) (hdg : decode cc pc = .ok (.aastore, 1))
    (kk : ∀ (g2 : Sg) (H1 : Heap) (locs1 : List Loc), g2 = sR g a j (some b) → WP D cA sz g2 H1 → va_S (oA sz) s.heap H1 locs1 → W p l e R s m args below meth c H1 locs1 cells slots Q (F0 m (pc + 1) ls rest)) : W p l e R s m args below meth c H locs cells slots Q (F0 m pc ls (.ref b :: .int i :: .ref a :: rest)) := by
  rcases isK2 hk with ⟨n0, hk⟩ | ⟨n0, hk⟩
  · exact r_aast S hZ hG hS hi (by decide) rfl hk (by decide) rfl (Or.inr (by decide)) hdg kk
  · exact r_aast S hZ hG hS hi (by decide) rfl hk (by decide) rfl (Or.inr (by decide)) hdg kk
theorem r_aast106 (S : CallFix p m c cc nL s args TBL own) (hZ : Ws D cA sz z mi s) (hG : WP D cA sz g H) (hS : va_S (oA sz) s.heap H locs) (hi : inA g a 106 i j) (hk : isK g b [2, 3]) (hdg : decode cc pc = .ok (.aastore, 1))
    (kk : ∀ (g2 : Sg) (H1 : Heap) (locs1 : List Loc), g2 = sR g a j (some b) → WP D cA sz g2 H1 → va_S (oA sz) s.heap H1 locs1 → W p l e R s m args below meth c H1 locs1 cells slots Q (F0 m (pc + 1) ls rest)) : W p l e R s m args below meth c H locs cells slots Q (F0 m pc ls (.ref b :: .int i :: .ref a :: rest)) := by
  rcases isK2 hk with ⟨n0, hk⟩ | ⟨n0, hk⟩
  · exact r_aast S hZ hG hS hi (by decide) rfl hk (by decide) rfl (Or.inr (by decide)) hdg kk
  · exact r_aast S hZ hG hS hi (by decide) rfl hk (by decide) rfl (Or.inr (by decide)) hdg kk
end HQ
theorem nk_C_init : nmOk y_C_init 0 := ⟨by decide +kernel, by decide +kernel, by decide +kernel⟩
theorem nk_AL_init : nmOk y_AL_init 0 := ⟨by decide +kernel, by decide +kernel, by decide +kernel⟩
theorem nk_AB_init : nmOk y_AB_init 0 := ⟨by decide +kernel, by decide +kernel, by decide +kernel⟩
theorem nk_AC_init : nmOk y_AC_init 0 := ⟨by decide +kernel, by decide +kernel, by decide +kernel⟩
theorem nk_A_init : nmOk y_A_init 2 := ⟨by decide +kernel, by decide +kernel, by decide +kernel⟩
theorem nk_N_init : nmOk y_N_init 3 := ⟨by decide +kernel, by decide +kernel, by decide +kernel⟩
theorem nk_E_init : nmOk y_E_init 2 := ⟨by decide +kernel, by decide +kernel, by decide +kernel⟩
theorem nk_AL_size : nmOk y_AL_size 0 := ⟨by decide +kernel, by decide +kernel, by decide +kernel⟩
theorem nk_C_heads : nmOk y_C_heads 0 := ⟨by decide +kernel, by decide +kernel, by decide +kernel⟩
theorem nk_A_latest : nmOk y_A_latest 0 := ⟨by decide +kernel, by decide +kernel, by decide +kernel⟩
theorem nk_AL_isEmpty : nmOk y_AL_isEmpty 0 := ⟨by decide +kernel, by decide +kernel, by decide +kernel⟩
theorem nk_AL_get : nmOk y_AL_get 1 := ⟨by decide +kernel, by decide +kernel, by decide +kernel⟩
theorem nk_OB_checkIndex : nmOk y_OB_checkIndex 2 := ⟨by decide +kernel, by decide +kernel, by decide +kernel⟩
theorem nk_PC_checkIndex : nmOk y_PC_checkIndex 3 := ⟨by decide +kernel, by decide +kernel, by decide +kernel⟩
theorem nk_AL_elementData : nmOk y_AL_elementData 1 := ⟨by decide +kernel, by decide +kernel, by decide +kernel⟩
theorem nk_C_hasFollower : nmOk y_C_hasFollower 1 := ⟨by decide +kernel, by decide +kernel, by decide +kernel⟩
theorem nk_E_isAfter : nmOk y_E_isAfter 1 := ⟨by decide +kernel, by decide +kernel, by decide +kernel⟩
theorem nk_E_isIn : nmOk y_E_isIn 1 := ⟨by decide +kernel, by decide +kernel, by decide +kernel⟩
theorem nk_C_enlist : nmOk y_C_enlist 1 := ⟨by decide +kernel, by decide +kernel, by decide +kernel⟩
theorem nk_C_length : nmOk y_C_length 0 := ⟨by decide +kernel, by decide +kernel, by decide +kernel⟩
theorem nk_L_parent : nmOk y_L_parent 4 := ⟨by decide +kernel, by decide +kernel, by decide +kernel⟩
theorem nk_C_parent : nmOk y_C_parent 2 := ⟨by decide +kernel, by decide +kernel, by decide +kernel⟩
theorem nk_C_findEvent : nmOk y_C_findEvent 2 := ⟨by decide +kernel, by decide +kernel, by decide +kernel⟩
theorem nk_C_findAgent : nmOk y_C_findAgent 1 := ⟨by decide +kernel, by decide +kernel, by decide +kernel⟩
theorem nk_C_isListed : nmOk y_C_isListed 1 := ⟨by decide +kernel, by decide +kernel, by decide +kernel⟩
theorem nk_L_seen : nmOk y_L_seen 2 := ⟨by decide +kernel, by decide +kernel, by decide +kernel⟩
theorem nk_C_seen : nmOk y_C_seen 0 := ⟨by decide +kernel, by decide +kernel, by decide +kernel⟩
theorem nk_C_isListTangled : nmOk y_C_isListTangled 0 := ⟨by decide +kernel, by decide +kernel, by decide +kernel⟩
theorem nk_C_lookFromList : nmOk y_C_lookFromList 0 := ⟨by decide +kernel, by decide +kernel, by decide +kernel⟩
theorem nk_AR_fillI : nmOk y_AR_fillI 2 := ⟨by decide +kernel, by decide +kernel, by decide +kernel⟩
theorem nk_E_joinTo : nmOk y_E_joinTo 1 := ⟨by decide +kernel, by decide +kernel, by decide +kernel⟩
theorem nk_MA_max : nmOk y_MA_max 2 := ⟨by decide +kernel, by decide +kernel, by decide +kernel⟩
theorem nk_C_countSeen : nmOk y_C_countSeen 0 := ⟨by decide +kernel, by decide +kernel, by decide +kernel⟩
theorem nk_C_nextSeen : nmOk y_C_nextSeen 1 := ⟨by decide +kernel, by decide +kernel, by decide +kernel⟩
theorem nk_N_isSeenIn : nmOk y_N_isSeenIn 1 := ⟨by decide +kernel, by decide +kernel, by decide +kernel⟩
theorem nk_L_insert : nmOk y_L_insert 6 := ⟨by decide +kernel, by decide +kernel, by decide +kernel⟩
theorem nk_C_insert : nmOk y_C_insert 4 := ⟨by decide +kernel, by decide +kernel, by decide +kernel⟩
theorem nk_C_canBeEdit : nmOk y_C_canBeEdit 3 := ⟨by decide +kernel, by decide +kernel, by decide +kernel⟩
theorem nk_C_isName : nmOk y_C_isName 1 := ⟨by decide +kernel, by decide +kernel, by decide +kernel⟩
theorem nk_C_areCodes : nmOk y_C_areCodes 2 := ⟨by decide +kernel, by decide +kernel, by decide +kernel⟩
theorem nk_C_takeList : nmOk y_C_takeList 1 := ⟨by decide +kernel, by decide +kernel, by decide +kernel⟩
theorem nk_C_hasRoom : nmOk y_C_hasRoom 2 := ⟨by decide +kernel, by decide +kernel, by decide +kernel⟩
theorem nk_C_authorNamed : nmOk y_C_authorNamed 1 := ⟨by decide +kernel, by decide +kernel, by decide +kernel⟩
theorem nk_C_weaveIn : nmOk y_C_weaveIn 4 := ⟨by decide +kernel, by decide +kernel, by decide +kernel⟩
theorem nk_C_seenNode : nmOk y_C_seenNode 1 := ⟨by decide +kernel, by decide +kernel, by decide +kernel⟩
theorem nk_C_hang : nmOk y_C_hang 2 := ⟨by decide +kernel, by decide +kernel, by decide +kernel⟩
theorem nk_N_hasRightIn : nmOk y_N_hasRightIn 1 := ⟨by decide +kernel, by decide +kernel, by decide +kernel⟩
theorem nk_C_nextKnown : nmOk y_C_nextKnown 1 := ⟨by decide +kernel, by decide +kernel, by decide +kernel⟩
theorem nk_N_hangRight : nmOk y_N_hangRight 1 := ⟨by decide +kernel, by decide +kernel, by decide +kernel⟩
theorem nk_N_lastSmaller : nmOk y_N_lastSmaller 1 := ⟨by decide +kernel, by decide +kernel, by decide +kernel⟩
theorem nk_E_hasSmallerIdThan : nmOk y_E_hasSmallerIdThan 1 := ⟨by decide +kernel, by decide +kernel, by decide +kernel⟩
theorem nk_N_putBehind : nmOk y_N_putBehind 1 := ⟨by decide +kernel, by decide +kernel, by decide +kernel⟩
theorem nk_N_takeNextSibling : nmOk y_N_takeNextSibling 1 := ⟨by decide +kernel, by decide +kernel, by decide +kernel⟩
theorem nk_N_lastBelow : nmOk y_N_lastBelow 0 := ⟨by decide +kernel, by decide +kernel, by decide +kernel⟩
theorem nk_N_lastSibling : nmOk y_N_lastSibling 0 := ⟨by decide +kernel, by decide +kernel, by decide +kernel⟩
theorem nk_N_hangLeft : nmOk y_N_hangLeft 1 := ⟨by decide +kernel, by decide +kernel, by decide +kernel⟩
theorem nk_N_firstBelow : nmOk y_N_firstBelow 0 := ⟨by decide +kernel, by decide +kernel, by decide +kernel⟩
theorem nk_N_putBefore : nmOk y_N_putBefore 1 := ⟨by decide +kernel, by decide +kernel, by decide +kernel⟩
theorem nk_C_keep : nmOk y_C_keep 1 := ⟨by decide +kernel, by decide +kernel, by decide +kernel⟩
theorem nk_AL_add1 : nmOk y_AL_add1 1 := ⟨by decide +kernel, by decide +kernel, by decide +kernel⟩
theorem nk_AL_add3 : nmOk y_AL_add3 3 := ⟨by decide +kernel, by decide +kernel, by decide +kernel⟩
theorem nk_AL_grow0 : nmOk y_AL_grow0 0 := ⟨by decide +kernel, by decide +kernel, by decide +kernel⟩
theorem nk_AL_grow1 : nmOk y_AL_grow1 1 := ⟨by decide +kernel, by decide +kernel, by decide +kernel⟩
theorem nk_AS_newLength : nmOk y_AS_newLength 3 := ⟨by decide +kernel, by decide +kernel, by decide +kernel⟩
theorem nk_AS_hugeLength : nmOk y_AS_hugeLength 2 := ⟨by decide +kernel, by decide +kernel, by decide +kernel⟩
theorem nk_AR_copyO2 : nmOk y_AR_copyO2 2 := ⟨by decide +kernel, by decide +kernel, by decide +kernel⟩
theorem nk_AR_copyO3 : nmOk y_AR_copyO3 3 := ⟨by decide +kernel, by decide +kernel, by decide +kernel⟩
theorem nk_MA_min : nmOk y_MA_min 2 := ⟨by decide +kernel, by decide +kernel, by decide +kernel⟩
theorem nk_L_delete : nmOk y_L_delete 5 := ⟨by decide +kernel, by decide +kernel, by decide +kernel⟩
theorem nk_C_delete : nmOk y_C_delete 3 := ⟨by decide +kernel, by decide +kernel, by decide +kernel⟩
theorem nk_C_cutOut : nmOk y_C_cutOut 3 := ⟨by decide +kernel, by decide +kernel, by decide +kernel⟩
theorem nk_K_init : nmOk y_K_init 2 := ⟨by decide +kernel, by decide +kernel, by decide +kernel⟩
theorem nk_L_at : nmOk y_L_at 3 := ⟨by decide +kernel, by decide +kernel, by decide +kernel⟩
theorem nk_C_at : nmOk y_C_at 1 := ⟨by decide +kernel, by decide +kernel, by decide +kernel⟩
theorem nk_C_textNode : nmOk y_C_textNode 2 := ⟨by decide +kernel, by decide +kernel, by decide +kernel⟩
theorem nk_C_lengthAfter : nmOk y_C_lengthAfter 1 := ⟨by decide +kernel, by decide +kernel, by decide +kernel⟩
theorem nk_N_isInTextOf : nmOk y_N_isInTextOf 1 := ⟨by decide +kernel, by decide +kernel, by decide +kernel⟩
theorem nk_L_who : nmOk y_L_who 3 := ⟨by decide +kernel, by decide +kernel, by decide +kernel⟩
theorem nk_C_who : nmOk y_C_who 1 := ⟨by decide +kernel, by decide +kernel, by decide +kernel⟩
theorem nk_L_spot : nmOk y_L_spot 4 := ⟨by decide +kernel, by decide +kernel, by decide +kernel⟩
theorem nk_C_spot : nmOk y_C_spot 2 := ⟨by decide +kernel, by decide +kernel, by decide +kernel⟩
theorem nk_C_countBefore : nmOk y_C_countBefore 1 := ⟨by decide +kernel, by decide +kernel, by decide +kernel⟩
theorem nk_L_was : nmOk y_L_was 3 := ⟨by decide +kernel, by decide +kernel, by decide +kernel⟩
theorem nk_C_was : nmOk y_C_was 1 := ⟨by decide +kernel, by decide +kernel, by decide +kernel⟩
theorem nk_C_haveCome : nmOk y_C_haveCome 1 := ⟨by decide +kernel, by decide +kernel, by decide +kernel⟩
theorem nk_L_wasAt : nmOk y_L_wasAt 4 := ⟨by decide +kernel, by decide +kernel, by decide +kernel⟩
theorem nk_C_wasAt : nmOk y_C_wasAt 2 := ⟨by decide +kernel, by decide +kernel, by decide +kernel⟩
theorem nk_L_line : nmOk y_L_line 3 := ⟨by decide +kernel, by decide +kernel, by decide +kernel⟩
theorem nk_C_line : nmOk y_C_line 1 := ⟨by decide +kernel, by decide +kernel, by decide +kernel⟩
theorem nk_L_events : nmOk y_L_events 3 := ⟨by decide +kernel, by decide +kernel, by decide +kernel⟩
theorem nk_C_events : nmOk y_C_events 1 := ⟨by decide +kernel, by decide +kernel, by decide +kernel⟩
theorem nk_M_init : nmOk y_M_init 0 := ⟨by decide +kernel, by decide +kernel, by decide +kernel⟩
theorem nk_G_init : nmOk y_G_init 0 := ⟨by decide +kernel, by decide +kernel, by decide +kernel⟩
theorem nk_M_thrown : nmOk y_M_thrown 0 := ⟨by decide +kernel, by decide +kernel, by decide +kernel⟩
theorem nk_M_parent : nmOk y_M_parent 2 := ⟨by decide +kernel, by decide +kernel, by decide +kernel⟩
theorem nk_M_parent0 : nmOk y_M_parent0 2 := ⟨by decide +kernel, by decide +kernel, by decide +kernel⟩
theorem nk_G_find : nmOk y_G_find 2 := ⟨by decide +kernel, by decide +kernel, by decide +kernel⟩
theorem nk_G_slotOf : nmOk y_G_slotOf 1 := ⟨by decide +kernel, by decide +kernel, by decide +kernel⟩
theorem nk_M_heads : nmOk y_M_heads 0 := ⟨by decide +kernel, by decide +kernel, by decide +kernel⟩
theorem nk_M_heads0 : nmOk y_M_heads0 0 := ⟨by decide +kernel, by decide +kernel, by decide +kernel⟩
theorem nk_G_all : nmOk y_G_all 1 := ⟨by decide +kernel, by decide +kernel, by decide +kernel⟩
theorem nk_G_tops : nmOk y_G_tops 3 := ⟨by decide +kernel, by decide +kernel, by decide +kernel⟩
theorem nk_G_lastIn : nmOk y_G_lastIn 3 := ⟨by decide +kernel, by decide +kernel, by decide +kernel⟩
theorem nk_G_isBefore : nmOk y_G_isBefore 2 := ⟨by decide +kernel, by decide +kernel, by decide +kernel⟩
theorem nk_G_isLess : nmOk y_G_isLess 2 := ⟨by decide +kernel, by decide +kernel, by decide +kernel⟩
theorem nk_M_seen : nmOk y_M_seen 0 := ⟨by decide +kernel, by decide +kernel, by decide +kernel⟩
theorem nk_M_seen0 : nmOk y_M_seen0 0 := ⟨by decide +kernel, by decide +kernel, by decide +kernel⟩
theorem nk_M_gather : nmOk y_M_gather 1 := ⟨by decide +kernel, by decide +kernel, by decide +kernel⟩
theorem nk_AR_fillS : nmOk y_AR_fillS 2 := ⟨by decide +kernel, by decide +kernel, by decide +kernel⟩
theorem nk_G_seenMany : nmOk y_G_seenMany 2 := ⟨by decide +kernel, by decide +kernel, by decide +kernel⟩
theorem nk_G_isSeen : nmOk y_G_isSeen 3 := ⟨by decide +kernel, by decide +kernel, by decide +kernel⟩
theorem nk_G_has : nmOk y_G_has 3 := ⟨by decide +kernel, by decide +kernel, by decide +kernel⟩
theorem nk_M_insert : nmOk y_M_insert 4 := ⟨by decide +kernel, by decide +kernel, by decide +kernel⟩
theorem nk_M_insert0 : nmOk y_M_insert0 4 := ⟨by decide +kernel, by decide +kernel, by decide +kernel⟩
theorem nk_M_in : nmOk y_M_in 3 := ⟨by decide +kernel, by decide +kernel, by decide +kernel⟩
theorem nk_M_check : nmOk y_M_check 1 := ⟨by decide +kernel, by decide +kernel, by decide +kernel⟩
theorem nk_M_open : nmOk y_M_open 1 := ⟨by decide +kernel, by decide +kernel, by decide +kernel⟩
theorem nk_M_room : nmOk y_M_room 2 := ⟨by decide +kernel, by decide +kernel, by decide +kernel⟩
theorem nk_M_come : nmOk y_M_come 1 := ⟨by decide +kernel, by decide +kernel, by decide +kernel⟩
theorem nk_G_add : nmOk y_G_add 3 := ⟨by decide +kernel, by decide +kernel, by decide +kernel⟩
theorem nk_AR_copyI : nmOk y_AR_copyI 2 := ⟨by decide +kernel, by decide +kernel, by decide +kernel⟩
theorem nk_G_insert : nmOk y_G_insert 3 := ⟨by decide +kernel, by decide +kernel, by decide +kernel⟩
theorem nk_G_seenAt : nmOk y_G_seenAt 3 := ⟨by decide +kernel, by decide +kernel, by decide +kernel⟩
theorem nk_G_hang : nmOk y_G_hang 1 := ⟨by decide +kernel, by decide +kernel, by decide +kernel⟩
theorem nk_G_childrenOf : nmOk y_G_childrenOf 2 := ⟨by decide +kernel, by decide +kernel, by decide +kernel⟩
theorem nk_G_placeOf : nmOk y_G_placeOf 1 := ⟨by decide +kernel, by decide +kernel, by decide +kernel⟩
theorem nk_G_firstOf : nmOk y_G_firstOf 1 := ⟨by decide +kernel, by decide +kernel, by decide +kernel⟩
theorem nk_G_inRow : nmOk y_G_inRow 1 := ⟨by decide +kernel, by decide +kernel, by decide +kernel⟩
theorem nk_G_lastOf : nmOk y_G_lastOf 1 := ⟨by decide +kernel, by decide +kernel, by decide +kernel⟩
theorem nk_G_length : nmOk y_G_length 0 := ⟨by decide +kernel, by decide +kernel, by decide +kernel⟩
theorem nk_G_isShown : nmOk y_G_isShown 1 := ⟨by decide +kernel, by decide +kernel, by decide +kernel⟩
theorem nk_M_delete : nmOk y_M_delete 3 := ⟨by decide +kernel, by decide +kernel, by decide +kernel⟩
theorem nk_M_delete0 : nmOk y_M_delete0 3 := ⟨by decide +kernel, by decide +kernel, by decide +kernel⟩
theorem nk_G_erase : nmOk y_G_erase 2 := ⟨by decide +kernel, by decide +kernel, by decide +kernel⟩
theorem nk_M_length : nmOk y_M_length 0 := ⟨by decide +kernel, by decide +kernel, by decide +kernel⟩
theorem nk_M_length0 : nmOk y_M_length0 0 := ⟨by decide +kernel, by decide +kernel, by decide +kernel⟩
theorem nk_M_at : nmOk y_M_at 1 := ⟨by decide +kernel, by decide +kernel, by decide +kernel⟩
theorem nk_M_at0 : nmOk y_M_at0 1 := ⟨by decide +kernel, by decide +kernel, by decide +kernel⟩
theorem nk_M_shown : nmOk y_M_shown 1 := ⟨by decide +kernel, by decide +kernel, by decide +kernel⟩
theorem nk_G_shownAt : nmOk y_G_shownAt 1 := ⟨by decide +kernel, by decide +kernel, by decide +kernel⟩
theorem nk_M_who : nmOk y_M_who 1 := ⟨by decide +kernel, by decide +kernel, by decide +kernel⟩
theorem nk_M_who0 : nmOk y_M_who0 1 := ⟨by decide +kernel, by decide +kernel, by decide +kernel⟩
theorem nk_M_spot : nmOk y_M_spot 2 := ⟨by decide +kernel, by decide +kernel, by decide +kernel⟩
theorem nk_M_spot0 : nmOk y_M_spot0 2 := ⟨by decide +kernel, by decide +kernel, by decide +kernel⟩
theorem nk_M_was : nmOk y_M_was 1 := ⟨by decide +kernel, by decide +kernel, by decide +kernel⟩
theorem nk_M_was0 : nmOk y_M_was0 1 := ⟨by decide +kernel, by decide +kernel, by decide +kernel⟩
theorem nk_M_stood : nmOk y_M_stood 2 := ⟨by decide +kernel, by decide +kernel, by decide +kernel⟩
theorem nk_M_wasAt : nmOk y_M_wasAt 2 := ⟨by decide +kernel, by decide +kernel, by decide +kernel⟩
theorem nk_M_wasAt0 : nmOk y_M_wasAt0 2 := ⟨by decide +kernel, by decide +kernel, by decide +kernel⟩
theorem nk_M_line : nmOk y_M_line 1 := ⟨by decide +kernel, by decide +kernel, by decide +kernel⟩
theorem nk_M_line0 : nmOk y_M_line0 1 := ⟨by decide +kernel, by decide +kernel, by decide +kernel⟩
theorem nk_M_events : nmOk y_M_events 1 := ⟨by decide +kernel, by decide +kernel, by decide +kernel⟩
theorem nk_M_events0 : nmOk y_M_events0 1 := ⟨by decide +kernel, by decide +kernel, by decide +kernel⟩
theorem nk_G_countOf : nmOk y_G_countOf 1 := ⟨by decide +kernel, by decide +kernel, by decide +kernel⟩
