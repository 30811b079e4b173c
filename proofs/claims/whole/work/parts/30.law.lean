def R_law : String := "WeaveCoreLaw"
def lw_P (b : Addr) (xs : List Int32) (args : Array Value) (s : State) : Prop := args = #[.ref b] ∧ s.IntsAt b xs ∧ xs.length ≤ 2560 ∧ (Jvm.Cond.and given_1 narrow_1).before args s = true
def lw_Q (_ : Array Value) (s : State) (o : Outcome) (t : State) : Prop := o = .returned (some (.int 1)) ∧ Framed s o t [] 601024 7293034
def lw_Z (below : List Frame) (a : Array Value) (s : State) : State → Prop := fun t => ∃ o, t.status = .running ∧ Ended t below o ∧ lw_Q a s o t
/-- the law's own end, with 1 on the stack, nothing written that was there before, its room as the claim has it -/
theorem lw_ret {p : Program} {l : Launch} {e : Env} {s : State} {m : MethodId} {below : List Frame} {meth : Method} {c : Code} {b : Nat} (hx : p.tables.exec = Jvm.exec) (hb : c.code = code) (hr : meth.sig.returnType = ret) (hlocks : meth.locks = false) {pc : Nat} {H : Heap} {ls : Array Slot} (hdg : decode code pc = .ok (.ireturn, 1)) : W p l e room_1 s m #[Value.ref b] below meth c H [] 601024 7293034 (lw_Z below #[Value.ref b] s) (F0 m pc ls [.int 1]) := by
  intro T hT X
  obtain ⟨fs, hret, hrun, hended, hW, hframe⟩ := X.leave (v := some (.int 1)) (hlocks := hlocks) (fun h => by rw [hr] at h; cases h)
  have hmeth' : T.vm.method? m = some meth := X.method'
  refine ⟨T.setFrames fs, ?_, .returned (some (.int 1)), hrun, hended, rfl, ⟨_, rfl⟩, hW, hframe⟩
  jvm_step X.here [X.here.top, hx, hb, hdg, hmeth', hr, ret, narrow_b1]
  (try refine ⟨rfl, ?_⟩); (try refine ⟨rfl, ?_⟩)
  first | (intro acts; rw [hret _ acts rfl rfl rfl]) | rw [hret _ _ rfl rfl rfl]
  exact Steps.refl _
/-- what holds at the law's entry: the machine, the code, the tables' words (any of lw_tbl by 'hts w (by decide +kernel)'), the script of L ints xs at the cell b, what the Statement gives of the start (any of its parts by flat_of_before) -/
def lw_At (p : Program) (s : State) (m : MethodId) (meth : Method) (c : Code) (b L : Nat) (xs : Nat → Int32) : Prop :=
  p.tables.exec = Jvm.exec ∧ c.code = code ∧ meth.sig.returnType = ret ∧ c.maxLocals = 8 ∧ s.vm.findClass R_law = some m.cls ∧ (∀ w ∈ lw_tbl, w.before #[Value.ref b] s = true) ∧ va_X b L xs s s.heap ∧ b < s.heap.size ∧ meth.locks = false ∧ (Jvm.Cond.and given_1 narrow_1).before #[Value.ref b] s = true
theorem sw13 (x : Int32) : x = 0 ∨ x = 1 ∨ x = 2 ∨ x = 3 ∨ x = 4 ∨ x = 5 ∨ x = 6 ∨ x = 7 ∨ x = 8 ∨ x = 9 ∨ x = 10 ∨ x = 11 ∨ x = 12 ∨ (x.toInt < 0 ∨ 12 < x.toInt) := by
  have key : ∀ k : Int32, x.toInt = k.toInt → x = k := fun k h => Int32.toInt_inj.mp h
  rcases (show x.toInt = 0 ∨ x.toInt = 1 ∨ x.toInt = 2 ∨ x.toInt = 3 ∨ x.toInt = 4 ∨ x.toInt = 5 ∨ x.toInt = 6 ∨ x.toInt = 7 ∨ x.toInt = 8 ∨ x.toInt = 9 ∨ x.toInt = 10 ∨ x.toInt = 11 ∨ x.toInt = 12 ∨ (x.toInt < 0 ∨ 12 < x.toInt) by omega) with h | h | h | h | h | h | h | h | h | h | h | h | h | h
  · exact Or.inl (key 0 h)
  · exact Or.inr (Or.inl (key 1 h))
  · exact Or.inr (Or.inr (Or.inl (key 2 h)))
  · exact Or.inr (Or.inr (Or.inr (Or.inl (key 3 h))))
  · exact Or.inr (Or.inr (Or.inr (Or.inr (Or.inl (key 4 h)))))
  · exact Or.inr (Or.inr (Or.inr (Or.inr (Or.inr (Or.inl (key 5 h))))))
  · exact Or.inr (Or.inr (Or.inr (Or.inr (Or.inr (Or.inr (Or.inl (key 6 h)))))))
  · exact Or.inr (Or.inr (Or.inr (Or.inr (Or.inr (Or.inr (Or.inr (Or.inl (key 7 h))))))))
  · exact Or.inr (Or.inr (Or.inr (Or.inr (Or.inr (Or.inr (Or.inr (Or.inr (Or.inl (key 8 h)))))))))
  · exact Or.inr (Or.inr (Or.inr (Or.inr (Or.inr (Or.inr (Or.inr (Or.inr (Or.inr (Or.inl (key 9 h))))))))))
  · exact Or.inr (Or.inr (Or.inr (Or.inr (Or.inr (Or.inr (Or.inr (Or.inr (Or.inr (Or.inr (Or.inl (key 10 h)))))))))))
  · exact Or.inr (Or.inr (Or.inr (Or.inr (Or.inr (Or.inr (Or.inr (Or.inr (Or.inr (Or.inr (Or.inr (Or.inl (key 11 h))))))))))))
  · exact Or.inr (Or.inr (Or.inr (Or.inr (Or.inr (Or.inr (Or.inr (Or.inr (Or.inr (Or.inr (Or.inr (Or.inr (Or.inl (key 12 h)))))))))))))
  · exact Or.inr (Or.inr (Or.inr (Or.inr (Or.inr (Or.inr (Or.inr (Or.inr (Or.inr (Or.inr (Or.inr (Or.inr (Or.inr h))))))))))))
section LX
variable {p : Program} {l : Launch} {e : Env} {R : Room} {s : State} {m : MethodId} {args : Array Value} {below : List Frame} {meth : Method} {c : Code} {H : Heap} {locs : List Loc} {cells slots : Nat} {Q : State → Prop}
variable {cc : ByteArray} {nL pc b L j : Nat} {xs : Nat → Int32} {ls : Array Slot} {rest : List Value} {own : String} {i : Int32}
theorem r_slen (S : CallFix p m c cc nL s args TBL own) (hX : va_X b L xs s s.heap) (hbl : b < s.heap.size) (hS : va_S (oA s.heap.size) s.heap H locs) (hdg : decode cc pc = .ok (.arraylength, 1))
    (kk : ∀ x : Int32, x = nI L → W p l e R s m args below meth c H locs cells slots Q (F0 m (pc + 1) ls (.int x :: rest))) : W p l e R s m args below meth c H locs cells slots Q (F0 m pc ls (.ref b :: rest)) :=
  va_slen S.1 S.2.1 hX hbl (Nat.not_le.mpr hbl) hS hdg (kk _ rfl)
theorem r_sld (S : CallFix p m c cc nL s args TBL own) (hX : va_X b L xs s s.heap) (hbl : b < s.heap.size) (hL : L ≤ 2560) (hS : va_S (oA s.heap.size) s.heap H locs) (hi : i = nI j) (hj : j < L) (hdg : decode cc pc = .ok (.iaload, 1))
    (kk : ∀ x : Int32, x = xs j → W p l e R s m args below meth c H locs cells slots Q (F0 m (pc + 1) ls (.int x :: rest))) : W p l e R s m args below meth c H locs cells slots Q (F0 m pc ls (.int i :: .ref b :: rest)) := by
  subst hi
  refine va_sld S.1 S.2.1 hX hbl (Nat.not_le.mpr hbl) hS (vp_in_nI hj (by omega)) hdg ?_
  rw [nI_clamp (by omega)]
  exact kk _ rfl
end LX
def w_L_law_104 (z mi mc ms L : Nat) (xs : Nat → Int32) (k_23 : Nat → Nat → Sg → Option Nat → Option Nat → Option Nat → Int32 → Prop) : Nat → Nat → Sg → Option Nat → Option Nat → Option Nat → Int32 → Prop := fun kc ks g v1 v2 v3 v4 => (∃ j32 : Nat, (v4 + (1 : Int32)) = nI j32 ∧ j32 < L ∧ ∀ x31 : Int32, x31 = xs j32 → (∃ j34 : Nat, (v4 + (2 : Int32)) = nI j34 ∧ j34 < L ∧ ∀ x33 : Int32, x33 = xs j34 → (∃ c35 c36 : Nat, kc + c35 ≤ mc ∧ ks + c36 ≤ ms ∧ w_L_parent z mi c35 c36 (fun (x38 : Int32) (g37 : Sg) => (∃ j41 : Nat, (v4 + (1 : Int32)) = nI j41 ∧ j41 < L ∧ ∀ x40 : Int32, x40 = xs j41 → (∃ j43 : Nat, (v4 + (2 : Int32)) = nI j43 ∧ j43 < L ∧ ∀ x42 : Int32, x42 = xs j43 → ∃ a44, v2 = some a44 ∧ (isK g37 a44 [6] ∧ ∃ c46 c47 : Nat, (kc + c35) + c46 ≤ mc ∧ (ks + c36) + c47 ≤ ms ∧ w_M_parent z mi c46 c47 (fun (x49 : Int32) (g48 : Sg) => (isK g48 a44 [6] ∧ ∃ c51 c52 : Nat, ((kc + c35) + c46) + c51 ≤ mc ∧ ((ks + c36) + c47) + c52 ≤ ms ∧ w_M_thrown z mi c51 c52 (fun (x54 : Int32) (g53 : Sg) => (x54 = x38 → (¬ x38 = 0 → k_23 (((kc + c35) + c46) + c51) (((ks + c36) + c47) + c52) g53 v1 (some a44) v3 (v4 + (5 : Int32))) ∧ (x38 = 0 → ∃ a56, v3 = some a56 ∧ (∃ j58 : Nat, inA g53 a56 103 (0 : Int32) j58 ∧ ∀ x59 : Int64, x59 = aL g53 a56 j58 → ((lg_cmp x59 (x49.toInt64)) = 0 → k_23 (((kc + c35) + c46) + c51) (((ks + c36) + c47) + c52) g53 v1 (some a44) (some a56) (v4 + (5 : Int32))) ∧ (¬ (lg_cmp x59 (x49.toInt64)) = 0 → False)))) ∧ (¬ x54 = x38 → False)) g48 a44)) g37 a44 x40 x42)))) g v1 x31 x33 v3)))
set_option maxHeartbeats 4000000 in
set_option maxRecDepth 100000 in
theorem s_L_law_104 {p : Program} {l : Launch} {e : Env} {s : State} {m : MethodId} {below : List Frame} {meth : Method} {c : Code} {D : va_G} {cA : Nat → ClassId} {z mi b L : Nat} {xs : Nat → Int32}  {k_23 : Nat → Nat → Sg → Option Nat → Option Nat → Option Nat → Int32 → Prop} (S : CallFix p m c code 8 s #[Value.ref b] TBL "WeaveCoreLaw") (hst : l.stackTraces = false) (hZ : Ws D cA s.heap.size z mi s) (hr : meth.sig.returnType = ret) (hlk : meth.locks = false) (hX : va_X b L xs s s.heap) (hbl : b < s.heap.size) (hL : L ≤ 2560) (hk_23 : ∀ (kc ks : Nat) (g : Sg) (v1 : Option Nat) (v2 : Option Nat) (v3 : Option Nat) (v4 : Int32) (H : Heap) (locs : List Loc) (ls : Array Slot), kc ≤ 601024 ∧ ks ≤ 7293034 → k_23 kc ks g v1 v2 v3 v4 → WP D cA s.heap.size g H → va_S (oA s.heap.size) s.heap H locs → lv_has ls 8 [(0, .ref b), (1, va_rf v1), (2, va_rf v2), (3, va_rf v3), (4, .int v4)] → W p l e room_1 s m #[Value.ref b] below meth c H locs kc ks (lw_Z below #[Value.ref b] s) (F0 m 23 ls [])) :
    ∀ (kc ks : Nat) (g : Sg) (v1 : Option Nat) (v2 : Option Nat) (v3 : Option Nat) (v4 : Int32) (H : Heap) (locs : List Loc) (ls : Array Slot), kc ≤ 601024 ∧ ks ≤ 7293034 → w_L_law_104 z mi 601024 7293034 L xs k_23 kc ks g v1 v2 v3 v4 → WP D cA s.heap.size g H → va_S (oA s.heap.size) s.heap H locs → lv_has ls 8 [(0, .ref b), (1, va_rf v1), (2, va_rf v2), (3, va_rf v3), (4, .int v4)] → W p l e room_1 s m #[Value.ref b] below meth c H locs kc ks (lw_Z below #[Value.ref b] s) (F0 m 104 ls []) := by
  obtain ⟨hx, hb, hml, hown, hts⟩ := id S
  intro kc ks g v1 v2 v3 v4 H locs ls hk h hG hS hl
  refine q_aload_n hx hb d_L_law_104 rfl (lv_at hl 1 rfl) ?_
  refine lv_aload_n hx hb d_L_law_105 rfl (lv_at hl 0 rfl) ?_
  refine lv_iload hx hb d_L_law_106 (lv_at hl 4 rfl) ?_
  refine lv_iconst (v := (1 : Int32)) hx hb d_L_law_108 (by decide) ?_
  refine lv_iadd hx hb d_L_law_109 ?_
  obtain ⟨j32, h9, h8, h⟩ := h
  refine r_sld S hX hbl hL hS h9 h8 d_L_law_110 (fun x31 e9 => ?_)
  replace h := h x31 e9
  refine lv_aload_n hx hb d_L_law_111 rfl (lv_at hl 0 rfl) ?_
  refine lv_iload hx hb d_L_law_112 (lv_at hl 4 rfl) ?_
  refine lv_iconst (v := (2 : Int32)) hx hb d_L_law_114 (by decide) ?_
  refine lv_iadd hx hb d_L_law_115 ?_
  obtain ⟨j34, h9, h8, h⟩ := h
  refine r_sld S hX hbl hL hS h9 h8 d_L_law_116 (fun x33 e9 => ?_)
  replace h := h x33 e9
  refine q_aload_n hx hb d_L_law_117 rfl (lv_at hl 3 rfl) ?_
  obtain ⟨c35, c36, k1, k2, h⟩ := h
  refine q_callI (run_SW (As := [va_rf v1, .int x31, .int x33, va_rf v3]) (rest := []) S hZ hG hS (s_L_parent hst h) tw_231 tw_229 tw_230 tw_0 nk_L_parent ⟨Nat.le_of_ble_eq_true rfl, Nat.le_of_ble_eq_true rfl⟩ rfl hl.1 rfl (by decide) d_L_law_118 ⟨k1, k2⟩) hS (fun x38 g37 H locs h63 hG hS => ?_)
  have hk := And.intro k1 k2
  replace h := h63
  refine q_istore (lv' := [(5, .int x38), (0, .ref b), (1, va_rf v1), (2, va_rf v2), (3, va_rf v3), (4, .int v4)]) hx hb d_L_law_121 hl (by decide) (.n (.k 0 rfl (by decide) (by decide) (.k 1 rfl (by decide) (by decide) (.k 2 rfl (by decide) (by decide) (.k 3 rfl (by decide) (by decide) (.c 4 rfl (by decide) rfl .e)))))) (fun ls39 hl39 => ?_)
  refine q_aload_n hx hb d_L_law_123 rfl (lv_at hl39 3 rfl) ?_
  refine lv_aload_n hx hb d_L_law_124 rfl (lv_at hl39 1 rfl) ?_
  refine lv_iload hx hb d_L_law_125 (lv_at hl39 5 rfl) ?_
  refine lv_iconst (v := (1 : Int32)) hx hb d_L_law_127 (by decide) ?_
  refine lv_iadd hx hb d_L_law_128 ?_
  obtain ⟨j41, h9, h8, h⟩ := h
  refine r_sld S hX hbl hL hS h9 h8 d_L_law_129 (fun x40 e9 => ?_)
  replace h := h x40 e9
  refine lv_aload_n hx hb d_L_law_130 rfl (lv_at hl39 1 rfl) ?_
  refine lv_iload hx hb d_L_law_131 (lv_at hl39 5 rfl) ?_
  refine lv_iconst (v := (2 : Int32)) hx hb d_L_law_133 (by decide) ?_
  refine lv_iadd hx hb d_L_law_134 ?_
  obtain ⟨j43, h9, h8, h⟩ := h
  refine r_sld S hX hbl hL hS h9 h8 d_L_law_135 (fun x42 e9 => ?_)
  replace h := h x42 e9
  obtain ⟨a44, e9, h⟩ := h
  subst e9
  have hl45 : lv_has ls39 8 [(5, .int x38), (0, .ref b), (1, va_rf v1), (2, .ref a44), (3, va_rf v3), (4, .int v4)] := hl39
  obtain ⟨h9, h⟩ := h
  obtain ⟨c46, c47, k1, k2, h⟩ := h
  obtain ⟨n9, h9⟩ := isK1 h9
  refine q_callI (run_VW (As := [.int x40, .int x42]) (rest := []) S hZ hG hS (s_M_parent hst h) tw_806 tw_803 tw_804 tw_805 tw_8 nk_M_parent h9 (by decide) rfl ⟨Nat.le_of_ble_eq_true rfl, Nat.le_of_ble_eq_true rfl⟩ rfl hl39.1 rfl (by decide) d_L_law_136 ⟨k1, k2⟩) hS (fun x49 g48 H locs h62 hG hS => ?_)
  have hk := And.intro k1 k2
  replace h := h62
  refine q_istore (lv' := [(6, .int x49), (5, .int x38), (0, .ref b), (1, va_rf v1), (2, .ref a44), (3, va_rf v3), (4, .int v4)]) hx hb d_L_law_139 hl45 (by decide) (.n (.c 0 rfl (by decide) rfl (.k 1 rfl (by decide) (by decide) (.k 2 rfl (by decide) (by decide) (.k 3 rfl (by decide) (by decide) (.k 4 rfl (by decide) (by decide) (.k 5 rfl (by decide) (by decide) .e))))))) (fun ls50 hl50 => ?_)
  refine lv_aload_n hx hb d_L_law_141 rfl (lv_at hl50 4 rfl) ?_
  obtain ⟨h9, h⟩ := h
  obtain ⟨c51, c52, k1, k2, h⟩ := h
  obtain ⟨n9, h9⟩ := isK1 h9
  refine q_callI (run_V (As := []) (rest := []) S hZ hG hS (s_M_thrown h) tw_802 tw_799 tw_800 tw_801 tw_8 nk_M_thrown h9 (by decide) rfl ⟨Nat.le_of_ble_eq_true rfl, Nat.le_of_ble_eq_true rfl⟩ rfl hl50.1 rfl (by decide) d_L_law_142 ⟨k1, k2⟩) hS (fun x54 g53 H locs h61 hG hS => ?_)
  have hk := And.intro k1 k2
  replace h := h61
  refine lv_iload hx hb d_L_law_145 (lv_at hl50 1 rfl) ?_
  refine lv_icmp_eq (tgt := 152) hx hb d_L_law_147 (by decide) (fun c9 => ?_) (fun c9 => ?_)
  · replace h := h.1 c9
    refine lv_iload hx hb d_L_law_152 (lv_at hl50 1 rfl) ?_
    refine lv_if_ne (tgt := 169) hx hb d_L_law_154 (by decide) (fun c9 => ?_) (fun c9 => ?_)
    · replace h := h.1 c9
      refine lv_goto (tgt := 829) hx hb d_L_law_169 (by decide) ?_
      refine q_iinc (k := 6) (v := v4 + (5 : Int32)) (lv' := [(4, .int (v4 + (5 : Int32))), (6, .int x49), (5, .int x38), (0, .ref b), (1, va_rf v1), (2, .ref a44), (3, va_rf v3)]) hx hb d_L_law_829 hl50 rfl rfl (by decide) (.n (.k 0 rfl (by decide) (by decide) (.k 1 rfl (by decide) (by decide) (.k 2 rfl (by decide) (by decide) (.k 3 rfl (by decide) (by decide) (.k 4 rfl (by decide) (by decide) (.c 5 rfl (by decide) (rf_cat _) .e))))))) (fun ls55 hl55 => ?_)
      refine lv_goto (tgt := 23) hx hb d_L_law_832 (by decide) ?_
      exact hk_23 _ _ _ _ _ _ _ _ _ _ hk h hG hS (lv_sub hl55 [3, 4, 5, 6, 0] rfl)
    · replace h := h.2 c9
      refine q_aload_n hx hb d_L_law_157 rfl (lv_at hl50 5 rfl) ?_
      refine lv_iconst (v := (0 : Int32)) hx hb d_L_law_158 (by decide) ?_
      obtain ⟨a56, e9, h⟩ := h
      subst e9
      have hl57 : lv_has ls50 8 [(6, .int x49), (5, .int x38), (0, .ref b), (1, va_rf v1), (2, .ref a44), (3, .ref a56), (4, .int v4)] := hl50
      obtain ⟨j58, h9, h⟩ := h
      refine r_lald S hZ hG h9 d_L_law_159 (fun x59 e9 => ?_)
      replace h := h x59 e9
      refine lv_iload hx hb d_L_law_160 (lv_at hl57 0 rfl) ?_
      refine lv_i2l hx hb d_L_law_162 rfl ?_
      refine W.lcmp hx hb d_L_law_163 ?_
      refine lv_if_eq (tgt := 169) hx hb d_L_law_164 (by decide) (fun c9 => ?_) (fun c9 => ?_)
      · replace h := h.1 c9
        refine lv_goto (tgt := 829) hx hb d_L_law_169 (by decide) ?_
        refine q_iinc (k := 6) (v := v4 + (5 : Int32)) (lv' := [(4, .int (v4 + (5 : Int32))), (6, .int x49), (5, .int x38), (0, .ref b), (1, va_rf v1), (2, .ref a44), (3, .ref a56)]) hx hb d_L_law_829 hl57 rfl rfl (by decide) (.n (.k 0 rfl (by decide) (by decide) (.k 1 rfl (by decide) (by decide) (.k 2 rfl (by decide) (by decide) (.k 3 rfl (by decide) (by decide) (.k 4 rfl (by decide) (by decide) (.c 5 rfl (by decide) rfl .e))))))) (fun ls60 hl60 => ?_)
        refine lv_goto (tgt := 23) hx hb d_L_law_832 (by decide) ?_
        exact hk_23 _ _ _ _ _ _ _ _ _ _ hk h hG hS (lv_sub hl60 [3, 4, 5, 6, 0] rfl)
      · replace h := h.2 c9
        refine lv_iconst (v := (0 : Int32)) hx hb d_L_law_167 (by decide) ?_
        exact h.elim
  · replace h := h.2 c9
    refine lv_iconst (v := (0 : Int32)) hx hb d_L_law_150 (by decide) ?_
    exact h.elim
def w_L_law_172 (z mi mc ms L : Nat) (xs : Nat → Int32) (k_23 : Nat → Nat → Sg → Option Nat → Option Nat → Option Nat → Int32 → Prop) : Nat → Nat → Sg → Option Nat → Option Nat → Option Nat → Int32 → Prop := fun kc ks g v1 v2 v3 v4 => ∃ a64, v1 = some a64 ∧ (isK g a64 [4] ∧ ∃ c66 c67 : Nat, kc + c66 ≤ mc ∧ ks + c67 ≤ ms ∧ w_C_heads z mi c66 c67 (fun (x69 : Int32) (g68 : Sg) => ∃ a70, v2 = some a70 ∧ (isK g68 a70 [6] ∧ ∃ c72 c73 : Nat, (kc + c66) + c72 ≤ mc ∧ (ks + c67) + c73 ≤ ms ∧ w_M_heads z mi c72 c73 (fun (x75 : Int32) (g74 : Sg) => (x69 = x75 → k_23 ((kc + c66) + c72) ((ks + c67) + c73) g74 (some a64) (some a70) v3 (v4 + (5 : Int32))) ∧ (¬ x69 = x75 → False)) g68 a70)) g a64)
set_option maxHeartbeats 4000000 in
set_option maxRecDepth 100000 in
theorem s_L_law_172 {p : Program} {l : Launch} {e : Env} {s : State} {m : MethodId} {below : List Frame} {meth : Method} {c : Code} {D : va_G} {cA : Nat → ClassId} {z mi b L : Nat} {xs : Nat → Int32}  {k_23 : Nat → Nat → Sg → Option Nat → Option Nat → Option Nat → Int32 → Prop} (S : CallFix p m c code 8 s #[Value.ref b] TBL "WeaveCoreLaw") (hst : l.stackTraces = false) (hZ : Ws D cA s.heap.size z mi s) (hr : meth.sig.returnType = ret) (hlk : meth.locks = false) (hX : va_X b L xs s s.heap) (hbl : b < s.heap.size) (hL : L ≤ 2560) (hk_23 : ∀ (kc ks : Nat) (g : Sg) (v1 : Option Nat) (v2 : Option Nat) (v3 : Option Nat) (v4 : Int32) (H : Heap) (locs : List Loc) (ls : Array Slot), kc ≤ 601024 ∧ ks ≤ 7293034 → k_23 kc ks g v1 v2 v3 v4 → WP D cA s.heap.size g H → va_S (oA s.heap.size) s.heap H locs → lv_has ls 8 [(0, .ref b), (1, va_rf v1), (2, va_rf v2), (3, va_rf v3), (4, .int v4)] → W p l e room_1 s m #[Value.ref b] below meth c H locs kc ks (lw_Z below #[Value.ref b] s) (F0 m 23 ls [])) :
    ∀ (kc ks : Nat) (g : Sg) (v1 : Option Nat) (v2 : Option Nat) (v3 : Option Nat) (v4 : Int32) (H : Heap) (locs : List Loc) (ls : Array Slot), kc ≤ 601024 ∧ ks ≤ 7293034 → w_L_law_172 z mi 601024 7293034 L xs k_23 kc ks g v1 v2 v3 v4 → WP D cA s.heap.size g H → va_S (oA s.heap.size) s.heap H locs → lv_has ls 8 [(0, .ref b), (1, va_rf v1), (2, va_rf v2), (3, va_rf v3), (4, .int v4)] → W p l e room_1 s m #[Value.ref b] below meth c H locs kc ks (lw_Z below #[Value.ref b] s) (F0 m 172 ls []) := by
  obtain ⟨hx, hb, hml, hown, hts⟩ := id S
  intro kc ks g v1 v2 v3 v4 H locs ls hk h hG hS hl
  refine q_aload_n hx hb d_L_law_172 rfl (lv_at hl 1 rfl) ?_
  obtain ⟨a64, e9, h⟩ := h
  subst e9
  have hl65 : lv_has ls 8 [(0, .ref b), (1, .ref a64), (2, va_rf v2), (3, va_rf v3), (4, .int v4)] := hl
  obtain ⟨h9, h⟩ := h
  obtain ⟨c66, c67, k1, k2, h⟩ := h
  obtain ⟨n9, h9⟩ := isK1 h9
  refine q_callI (run_V (As := []) (rest := []) S hZ hG hS (s_C_heads h) tw_180 tw_177 tw_178 tw_179 tw_1 nk_C_heads h9 (by decide) rfl ⟨Nat.le_of_ble_eq_true rfl, Nat.le_of_ble_eq_true rfl⟩ rfl hl.1 rfl (by decide) d_L_law_173 ⟨k1, k2⟩) hS (fun x69 g68 H locs h78 hG hS => ?_)
  have hk := And.intro k1 k2
  replace h := h78
  refine q_aload_n hx hb d_L_law_176 rfl (lv_at hl65 2 rfl) ?_
  obtain ⟨a70, e9, h⟩ := h
  subst e9
  have hl71 : lv_has ls 8 [(0, .ref b), (1, .ref a64), (2, .ref a70), (3, va_rf v3), (4, .int v4)] := hl65
  obtain ⟨h9, h⟩ := h
  obtain ⟨c72, c73, k1, k2, h⟩ := h
  obtain ⟨n9, h9⟩ := isK1 h9
  refine q_callI (run_V (As := []) (rest := [.int x69]) S hZ hG hS (s_M_heads h) tw_828 tw_825 tw_826 tw_827 tw_8 nk_M_heads h9 (by decide) rfl ⟨Nat.le_of_ble_eq_true rfl, Nat.le_of_ble_eq_true rfl⟩ rfl hl65.1 rfl (Nat.le_of_ble_eq_true rfl) d_L_law_177 ⟨k1, k2⟩) hS (fun x75 g74 H locs h77 hG hS => ?_)
  have hk := And.intro k1 k2
  replace h := h77
  refine lv_icmp_eq (tgt := 829) hx hb d_L_law_180 (by decide) (fun c9 => ?_) (fun c9 => ?_)
  · replace h := h.1 c9
    refine q_iinc (k := 4) (v := v4 + (5 : Int32)) (lv' := [(4, .int (v4 + (5 : Int32))), (0, .ref b), (1, .ref a64), (2, .ref a70), (3, va_rf v3)]) hx hb d_L_law_829 hl71 rfl rfl (by decide) (.n (.k 0 rfl (by decide) (by decide) (.k 1 rfl (by decide) (by decide) (.k 2 rfl (by decide) (by decide) (.c 3 rfl (by decide) (rf_cat _) .e))))) (fun ls76 hl76 => ?_)
    refine lv_goto (tgt := 23) hx hb d_L_law_832 (by decide) ?_
    exact hk_23 _ _ _ _ _ _ _ _ _ _ hk h hG hS (lv_sub hl76 [1, 2, 3, 4, 0] rfl)
  · replace h := h.2 c9
    refine lv_iconst (v := (0 : Int32)) hx hb d_L_law_183 (by decide) ?_
    exact h.elim
def w_L_law_185 (z mi mc ms L : Nat) (xs : Nat → Int32) (k_23 : Nat → Nat → Sg → Option Nat → Option Nat → Option Nat → Int32 → Prop) : Nat → Nat → Sg → Option Nat → Option Nat → Option Nat → Int32 → Prop := fun kc ks g v1 v2 v3 v4 => (∃ c79 c80 : Nat, kc + c79 ≤ mc ∧ ks + c80 ≤ ms ∧ w_L_seen z mi c79 c80 (fun (x82 : Int32) (g81 : Sg) => ∃ a84, v2 = some a84 ∧ (isK g81 a84 [6] ∧ ∃ c86 c87 : Nat, (kc + c79) + c86 ≤ mc ∧ (ks + c80) + c87 ≤ ms ∧ w_M_seen z mi c86 c87 (fun (x89 : Int32) (g88 : Sg) => (isK g88 a84 [6] ∧ ∃ c91 c92 : Nat, ((kc + c79) + c86) + c91 ≤ mc ∧ ((ks + c80) + c87) + c92 ≤ ms ∧ w_M_thrown z mi c91 c92 (fun (x94 : Int32) (g93 : Sg) => (x94 = x82 → (¬ x82 = 0 → k_23 (((kc + c79) + c86) + c91) (((ks + c80) + c87) + c92) g93 v1 (some a84) v3 (v4 + (5 : Int32))) ∧ (x82 = 0 → ∃ a96, v3 = some a96 ∧ (∃ j98 : Nat, inA g93 a96 103 (0 : Int32) j98 ∧ ∀ x99 : Int64, x99 = aL g93 a96 j98 → ((lg_cmp x99 (x89.toInt64)) = 0 → k_23 (((kc + c79) + c86) + c91) (((ks + c80) + c87) + c92) g93 v1 (some a84) (some a96) (v4 + (5 : Int32))) ∧ (¬ (lg_cmp x99 (x89.toInt64)) = 0 → False)))) ∧ (¬ x94 = x82 → False)) g88 a84)) g81 a84)) g v1 v3)
set_option maxHeartbeats 4000000 in
set_option maxRecDepth 100000 in
theorem s_L_law_185 {p : Program} {l : Launch} {e : Env} {s : State} {m : MethodId} {below : List Frame} {meth : Method} {c : Code} {D : va_G} {cA : Nat → ClassId} {z mi b L : Nat} {xs : Nat → Int32}  {k_23 : Nat → Nat → Sg → Option Nat → Option Nat → Option Nat → Int32 → Prop} (S : CallFix p m c code 8 s #[Value.ref b] TBL "WeaveCoreLaw") (hst : l.stackTraces = false) (hZ : Ws D cA s.heap.size z mi s) (hr : meth.sig.returnType = ret) (hlk : meth.locks = false) (hX : va_X b L xs s s.heap) (hbl : b < s.heap.size) (hL : L ≤ 2560) (hk_23 : ∀ (kc ks : Nat) (g : Sg) (v1 : Option Nat) (v2 : Option Nat) (v3 : Option Nat) (v4 : Int32) (H : Heap) (locs : List Loc) (ls : Array Slot), kc ≤ 601024 ∧ ks ≤ 7293034 → k_23 kc ks g v1 v2 v3 v4 → WP D cA s.heap.size g H → va_S (oA s.heap.size) s.heap H locs → lv_has ls 8 [(0, .ref b), (1, va_rf v1), (2, va_rf v2), (3, va_rf v3), (4, .int v4)] → W p l e room_1 s m #[Value.ref b] below meth c H locs kc ks (lw_Z below #[Value.ref b] s) (F0 m 23 ls [])) :
    ∀ (kc ks : Nat) (g : Sg) (v1 : Option Nat) (v2 : Option Nat) (v3 : Option Nat) (v4 : Int32) (H : Heap) (locs : List Loc) (ls : Array Slot), kc ≤ 601024 ∧ ks ≤ 7293034 → w_L_law_185 z mi 601024 7293034 L xs k_23 kc ks g v1 v2 v3 v4 → WP D cA s.heap.size g H → va_S (oA s.heap.size) s.heap H locs → lv_has ls 8 [(0, .ref b), (1, va_rf v1), (2, va_rf v2), (3, va_rf v3), (4, .int v4)] → W p l e room_1 s m #[Value.ref b] below meth c H locs kc ks (lw_Z below #[Value.ref b] s) (F0 m 185 ls []) := by
  obtain ⟨hx, hb, hml, hown, hts⟩ := id S
  intro kc ks g v1 v2 v3 v4 H locs ls hk h hG hS hl
  refine q_aload_n hx hb d_L_law_185 rfl (lv_at hl 1 rfl) ?_
  refine q_aload_n hx hb d_L_law_186 rfl (lv_at hl 3 rfl) ?_
  obtain ⟨c79, c80, k1, k2, h⟩ := h
  refine q_callI (run_SW (As := [va_rf v1, va_rf v3]) (rest := []) S hZ hG hS (s_L_seen hst h) tw_350 tw_348 tw_349 tw_0 nk_L_seen ⟨Nat.le_of_ble_eq_true rfl, Nat.le_of_ble_eq_true rfl⟩ rfl hl.1 rfl (by decide) d_L_law_187 ⟨k1, k2⟩) hS (fun x82 g81 H locs h103 hG hS => ?_)
  have hk := And.intro k1 k2
  replace h := h103
  refine q_istore (lv' := [(5, .int x82), (0, .ref b), (1, va_rf v1), (2, va_rf v2), (3, va_rf v3), (4, .int v4)]) hx hb d_L_law_190 hl (by decide) (.n (.k 0 rfl (by decide) (by decide) (.k 1 rfl (by decide) (by decide) (.k 2 rfl (by decide) (by decide) (.k 3 rfl (by decide) (by decide) (.c 4 rfl (by decide) rfl .e)))))) (fun ls83 hl83 => ?_)
  refine q_aload_n hx hb d_L_law_192 rfl (lv_at hl83 3 rfl) ?_
  obtain ⟨a84, e9, h⟩ := h
  subst e9
  have hl85 : lv_has ls83 8 [(5, .int x82), (0, .ref b), (1, va_rf v1), (2, .ref a84), (3, va_rf v3), (4, .int v4)] := hl83
  obtain ⟨h9, h⟩ := h
  obtain ⟨c86, c87, k1, k2, h⟩ := h
  obtain ⟨n9, h9⟩ := isK1 h9
  refine q_callI (run_VW (As := []) (rest := []) S hZ hG hS (s_M_seen hst h) tw_856 tw_853 tw_854 tw_855 tw_8 nk_M_seen h9 (by decide) rfl ⟨Nat.le_of_ble_eq_true rfl, Nat.le_of_ble_eq_true rfl⟩ rfl hl83.1 rfl (by decide) d_L_law_193 ⟨k1, k2⟩) hS (fun x89 g88 H locs h102 hG hS => ?_)
  have hk := And.intro k1 k2
  replace h := h102
  refine q_istore (lv' := [(6, .int x89), (5, .int x82), (0, .ref b), (1, va_rf v1), (2, .ref a84), (3, va_rf v3), (4, .int v4)]) hx hb d_L_law_196 hl85 (by decide) (.n (.c 0 rfl (by decide) rfl (.k 1 rfl (by decide) (by decide) (.k 2 rfl (by decide) (by decide) (.k 3 rfl (by decide) (by decide) (.k 4 rfl (by decide) (by decide) (.k 5 rfl (by decide) (by decide) .e))))))) (fun ls90 hl90 => ?_)
  refine lv_aload_n hx hb d_L_law_198 rfl (lv_at hl90 4 rfl) ?_
  obtain ⟨h9, h⟩ := h
  obtain ⟨c91, c92, k1, k2, h⟩ := h
  obtain ⟨n9, h9⟩ := isK1 h9
  refine q_callI (run_V (As := []) (rest := []) S hZ hG hS (s_M_thrown h) tw_802 tw_799 tw_800 tw_801 tw_8 nk_M_thrown h9 (by decide) rfl ⟨Nat.le_of_ble_eq_true rfl, Nat.le_of_ble_eq_true rfl⟩ rfl hl90.1 rfl (by decide) d_L_law_199 ⟨k1, k2⟩) hS (fun x94 g93 H locs h101 hG hS => ?_)
  have hk := And.intro k1 k2
  replace h := h101
  refine lv_iload hx hb d_L_law_202 (lv_at hl90 1 rfl) ?_
  refine lv_icmp_eq (tgt := 209) hx hb d_L_law_204 (by decide) (fun c9 => ?_) (fun c9 => ?_)
  · replace h := h.1 c9
    refine lv_iload hx hb d_L_law_209 (lv_at hl90 1 rfl) ?_
    refine lv_if_ne (tgt := 226) hx hb d_L_law_211 (by decide) (fun c9 => ?_) (fun c9 => ?_)
    · replace h := h.1 c9
      refine lv_goto (tgt := 829) hx hb d_L_law_226 (by decide) ?_
      refine q_iinc (k := 6) (v := v4 + (5 : Int32)) (lv' := [(4, .int (v4 + (5 : Int32))), (6, .int x89), (5, .int x82), (0, .ref b), (1, va_rf v1), (2, .ref a84), (3, va_rf v3)]) hx hb d_L_law_829 hl90 rfl rfl (by decide) (.n (.k 0 rfl (by decide) (by decide) (.k 1 rfl (by decide) (by decide) (.k 2 rfl (by decide) (by decide) (.k 3 rfl (by decide) (by decide) (.k 4 rfl (by decide) (by decide) (.c 5 rfl (by decide) (rf_cat _) .e))))))) (fun ls95 hl95 => ?_)
      refine lv_goto (tgt := 23) hx hb d_L_law_832 (by decide) ?_
      exact hk_23 _ _ _ _ _ _ _ _ _ _ hk h hG hS (lv_sub hl95 [3, 4, 5, 6, 0] rfl)
    · replace h := h.2 c9
      refine q_aload_n hx hb d_L_law_214 rfl (lv_at hl90 5 rfl) ?_
      refine lv_iconst (v := (0 : Int32)) hx hb d_L_law_215 (by decide) ?_
      obtain ⟨a96, e9, h⟩ := h
      subst e9
      have hl97 : lv_has ls90 8 [(6, .int x89), (5, .int x82), (0, .ref b), (1, va_rf v1), (2, .ref a84), (3, .ref a96), (4, .int v4)] := hl90
      obtain ⟨j98, h9, h⟩ := h
      refine r_lald S hZ hG h9 d_L_law_216 (fun x99 e9 => ?_)
      replace h := h x99 e9
      refine lv_iload hx hb d_L_law_217 (lv_at hl97 0 rfl) ?_
      refine lv_i2l hx hb d_L_law_219 rfl ?_
      refine W.lcmp hx hb d_L_law_220 ?_
      refine lv_if_eq (tgt := 226) hx hb d_L_law_221 (by decide) (fun c9 => ?_) (fun c9 => ?_)
      · replace h := h.1 c9
        refine lv_goto (tgt := 829) hx hb d_L_law_226 (by decide) ?_
        refine q_iinc (k := 6) (v := v4 + (5 : Int32)) (lv' := [(4, .int (v4 + (5 : Int32))), (6, .int x89), (5, .int x82), (0, .ref b), (1, va_rf v1), (2, .ref a84), (3, .ref a96)]) hx hb d_L_law_829 hl97 rfl rfl (by decide) (.n (.k 0 rfl (by decide) (by decide) (.k 1 rfl (by decide) (by decide) (.k 2 rfl (by decide) (by decide) (.k 3 rfl (by decide) (by decide) (.k 4 rfl (by decide) (by decide) (.c 5 rfl (by decide) rfl .e))))))) (fun ls100 hl100 => ?_)
        refine lv_goto (tgt := 23) hx hb d_L_law_832 (by decide) ?_
        exact hk_23 _ _ _ _ _ _ _ _ _ _ hk h hG hS (lv_sub hl100 [3, 4, 5, 6, 0] rfl)
      · replace h := h.2 c9
        refine lv_iconst (v := (0 : Int32)) hx hb d_L_law_224 (by decide) ?_
        exact h.elim
  · replace h := h.2 c9
    refine lv_iconst (v := (0 : Int32)) hx hb d_L_law_207 (by decide) ?_
    exact h.elim
def w_L_law_229 (z mi mc ms L : Nat) (xs : Nat → Int32) (k_23 : Nat → Nat → Sg → Option Nat → Option Nat → Option Nat → Int32 → Prop) : Nat → Nat → Sg → Option Nat → Option Nat → Option Nat → Int32 → Prop := fun kc ks g v1 v2 v3 v4 => (∃ j105 : Nat, (v4 + (1 : Int32)) = nI j105 ∧ j105 < L ∧ ∀ x104 : Int32, x104 = xs j105 → (∃ j107 : Nat, (v4 + (2 : Int32)) = nI j107 ∧ j107 < L ∧ ∀ x106 : Int32, x106 = xs j107 → (∃ j109 : Nat, (v4 + (3 : Int32)) = nI j109 ∧ j109 < L ∧ ∀ x108 : Int32, x108 = xs j109 → (∃ j111 : Nat, (v4 + (4 : Int32)) = nI j111 ∧ j111 < L ∧ ∀ x110 : Int32, x110 = xs j111 → (∃ c112 c113 : Nat, kc + c112 ≤ mc ∧ ks + c113 ≤ ms ∧ w_L_insert z mi c112 c113 (fun (x115 : Int32) (g114 : Sg) => (∃ j118 : Nat, (v4 + (1 : Int32)) = nI j118 ∧ j118 < L ∧ ∀ x117 : Int32, x117 = xs j118 → (∃ j120 : Nat, (v4 + (2 : Int32)) = nI j120 ∧ j120 < L ∧ ∀ x119 : Int32, x119 = xs j120 → (∃ j122 : Nat, (v4 + (3 : Int32)) = nI j122 ∧ j122 < L ∧ ∀ x121 : Int32, x121 = xs j122 → (∃ j124 : Nat, (v4 + (4 : Int32)) = nI j124 ∧ j124 < L ∧ ∀ x123 : Int32, x123 = xs j124 → ∃ a125, v2 = some a125 ∧ (isK g114 a125 [6] ∧ ∃ c127 c128 : Nat, (kc + c112) + c127 ≤ mc ∧ (ks + c113) + c128 ≤ ms ∧ w_M_insert z mi c127 c128 (fun (x130 : Int32) (g129 : Sg) => (isK g129 a125 [6] ∧ ∃ c132 c133 : Nat, ((kc + c112) + c127) + c132 ≤ mc ∧ ((ks + c113) + c128) + c133 ≤ ms ∧ w_M_thrown z mi c132 c133 (fun (x135 : Int32) (g134 : Sg) => (x135 = x115 → (¬ x115 = 0 → k_23 (((kc + c112) + c127) + c132) (((ks + c113) + c128) + c133) g134 v1 (some a125) v3 (v4 + (5 : Int32))) ∧ (x115 = 0 → ∃ a137, v3 = some a137 ∧ (∃ j139 : Nat, inA g134 a137 103 (0 : Int32) j139 ∧ ∀ x140 : Int64, x140 = aL g134 a137 j139 → ((lg_cmp x140 (x130.toInt64)) = 0 → k_23 (((kc + c112) + c127) + c132) (((ks + c113) + c128) + c133) g134 v1 (some a125) (some a137) (v4 + (5 : Int32))) ∧ (¬ (lg_cmp x140 (x130.toInt64)) = 0 → False)))) ∧ (¬ x135 = x115 → False)) g129 a125)) g114 a125 x117 x119 x121 x123)))))) g v1 x104 x106 x108 x110 v3)))))
set_option maxHeartbeats 4000000 in
set_option maxRecDepth 100000 in
theorem s_L_law_229 {p : Program} {l : Launch} {e : Env} {s : State} {m : MethodId} {below : List Frame} {meth : Method} {c : Code} {D : va_G} {cA : Nat → ClassId} {z mi b L : Nat} {xs : Nat → Int32}  {k_23 : Nat → Nat → Sg → Option Nat → Option Nat → Option Nat → Int32 → Prop} (S : CallFix p m c code 8 s #[Value.ref b] TBL "WeaveCoreLaw") (hst : l.stackTraces = false) (hZ : Ws D cA s.heap.size z mi s) (hr : meth.sig.returnType = ret) (hlk : meth.locks = false) (hX : va_X b L xs s s.heap) (hbl : b < s.heap.size) (hL : L ≤ 2560) (hk_23 : ∀ (kc ks : Nat) (g : Sg) (v1 : Option Nat) (v2 : Option Nat) (v3 : Option Nat) (v4 : Int32) (H : Heap) (locs : List Loc) (ls : Array Slot), kc ≤ 601024 ∧ ks ≤ 7293034 → k_23 kc ks g v1 v2 v3 v4 → WP D cA s.heap.size g H → va_S (oA s.heap.size) s.heap H locs → lv_has ls 8 [(0, .ref b), (1, va_rf v1), (2, va_rf v2), (3, va_rf v3), (4, .int v4)] → W p l e room_1 s m #[Value.ref b] below meth c H locs kc ks (lw_Z below #[Value.ref b] s) (F0 m 23 ls [])) :
    ∀ (kc ks : Nat) (g : Sg) (v1 : Option Nat) (v2 : Option Nat) (v3 : Option Nat) (v4 : Int32) (H : Heap) (locs : List Loc) (ls : Array Slot), kc ≤ 601024 ∧ ks ≤ 7293034 → w_L_law_229 z mi 601024 7293034 L xs k_23 kc ks g v1 v2 v3 v4 → WP D cA s.heap.size g H → va_S (oA s.heap.size) s.heap H locs → lv_has ls 8 [(0, .ref b), (1, va_rf v1), (2, va_rf v2), (3, va_rf v3), (4, .int v4)] → W p l e room_1 s m #[Value.ref b] below meth c H locs kc ks (lw_Z below #[Value.ref b] s) (F0 m 229 ls []) := by
  obtain ⟨hx, hb, hml, hown, hts⟩ := id S
  intro kc ks g v1 v2 v3 v4 H locs ls hk h hG hS hl
  refine q_aload_n hx hb d_L_law_229 rfl (lv_at hl 1 rfl) ?_
  refine lv_aload_n hx hb d_L_law_230 rfl (lv_at hl 0 rfl) ?_
  refine lv_iload hx hb d_L_law_231 (lv_at hl 4 rfl) ?_
  refine lv_iconst (v := (1 : Int32)) hx hb d_L_law_233 (by decide) ?_
  refine lv_iadd hx hb d_L_law_234 ?_
  obtain ⟨j105, h9, h8, h⟩ := h
  refine r_sld S hX hbl hL hS h9 h8 d_L_law_235 (fun x104 e9 => ?_)
  replace h := h x104 e9
  refine lv_aload_n hx hb d_L_law_236 rfl (lv_at hl 0 rfl) ?_
  refine lv_iload hx hb d_L_law_237 (lv_at hl 4 rfl) ?_
  refine lv_iconst (v := (2 : Int32)) hx hb d_L_law_239 (by decide) ?_
  refine lv_iadd hx hb d_L_law_240 ?_
  obtain ⟨j107, h9, h8, h⟩ := h
  refine r_sld S hX hbl hL hS h9 h8 d_L_law_241 (fun x106 e9 => ?_)
  replace h := h x106 e9
  refine lv_aload_n hx hb d_L_law_242 rfl (lv_at hl 0 rfl) ?_
  refine lv_iload hx hb d_L_law_243 (lv_at hl 4 rfl) ?_
  refine lv_iconst (v := (3 : Int32)) hx hb d_L_law_245 (by decide) ?_
  refine lv_iadd hx hb d_L_law_246 ?_
  obtain ⟨j109, h9, h8, h⟩ := h
  refine r_sld S hX hbl hL hS h9 h8 d_L_law_247 (fun x108 e9 => ?_)
  replace h := h x108 e9
  refine lv_aload_n hx hb d_L_law_248 rfl (lv_at hl 0 rfl) ?_
  refine lv_iload hx hb d_L_law_249 (lv_at hl 4 rfl) ?_
  refine lv_iconst (v := (4 : Int32)) hx hb d_L_law_251 (by decide) ?_
  refine lv_iadd hx hb d_L_law_252 ?_
  obtain ⟨j111, h9, h8, h⟩ := h
  refine r_sld S hX hbl hL hS h9 h8 d_L_law_253 (fun x110 e9 => ?_)
  replace h := h x110 e9
  refine q_aload_n hx hb d_L_law_254 rfl (lv_at hl 3 rfl) ?_
  obtain ⟨c112, c113, k1, k2, h⟩ := h
  refine q_callI (run_SW (As := [va_rf v1, .int x104, .int x106, .int x108, .int x110, va_rf v3]) (rest := []) S hZ hG hS (s_L_insert hst h) tw_396 tw_394 tw_395 tw_0 nk_L_insert ⟨Nat.le_of_ble_eq_true rfl, Nat.le_of_ble_eq_true rfl⟩ rfl hl.1 rfl (by decide) d_L_law_255 ⟨k1, k2⟩) hS (fun x115 g114 H locs h144 hG hS => ?_)
  have hk := And.intro k1 k2
  replace h := h144
  refine q_istore (lv' := [(5, .int x115), (0, .ref b), (1, va_rf v1), (2, va_rf v2), (3, va_rf v3), (4, .int v4)]) hx hb d_L_law_258 hl (by decide) (.n (.k 0 rfl (by decide) (by decide) (.k 1 rfl (by decide) (by decide) (.k 2 rfl (by decide) (by decide) (.k 3 rfl (by decide) (by decide) (.c 4 rfl (by decide) rfl .e)))))) (fun ls116 hl116 => ?_)
  refine q_aload_n hx hb d_L_law_260 rfl (lv_at hl116 3 rfl) ?_
  refine lv_aload_n hx hb d_L_law_261 rfl (lv_at hl116 1 rfl) ?_
  refine lv_iload hx hb d_L_law_262 (lv_at hl116 5 rfl) ?_
  refine lv_iconst (v := (1 : Int32)) hx hb d_L_law_264 (by decide) ?_
  refine lv_iadd hx hb d_L_law_265 ?_
  obtain ⟨j118, h9, h8, h⟩ := h
  refine r_sld S hX hbl hL hS h9 h8 d_L_law_266 (fun x117 e9 => ?_)
  replace h := h x117 e9
  refine lv_aload_n hx hb d_L_law_267 rfl (lv_at hl116 1 rfl) ?_
  refine lv_iload hx hb d_L_law_268 (lv_at hl116 5 rfl) ?_
  refine lv_iconst (v := (2 : Int32)) hx hb d_L_law_270 (by decide) ?_
  refine lv_iadd hx hb d_L_law_271 ?_
  obtain ⟨j120, h9, h8, h⟩ := h
  refine r_sld S hX hbl hL hS h9 h8 d_L_law_272 (fun x119 e9 => ?_)
  replace h := h x119 e9
  refine lv_aload_n hx hb d_L_law_273 rfl (lv_at hl116 1 rfl) ?_
  refine lv_iload hx hb d_L_law_274 (lv_at hl116 5 rfl) ?_
  refine lv_iconst (v := (3 : Int32)) hx hb d_L_law_276 (by decide) ?_
  refine lv_iadd hx hb d_L_law_277 ?_
  obtain ⟨j122, h9, h8, h⟩ := h
  refine r_sld S hX hbl hL hS h9 h8 d_L_law_278 (fun x121 e9 => ?_)
  replace h := h x121 e9
  refine lv_aload_n hx hb d_L_law_279 rfl (lv_at hl116 1 rfl) ?_
  refine lv_iload hx hb d_L_law_280 (lv_at hl116 5 rfl) ?_
  refine lv_iconst (v := (4 : Int32)) hx hb d_L_law_282 (by decide) ?_
  refine lv_iadd hx hb d_L_law_283 ?_
  obtain ⟨j124, h9, h8, h⟩ := h
  refine r_sld S hX hbl hL hS h9 h8 d_L_law_284 (fun x123 e9 => ?_)
  replace h := h x123 e9
  obtain ⟨a125, e9, h⟩ := h
  subst e9
  have hl126 : lv_has ls116 8 [(5, .int x115), (0, .ref b), (1, va_rf v1), (2, .ref a125), (3, va_rf v3), (4, .int v4)] := hl116
  obtain ⟨h9, h⟩ := h
  obtain ⟨c127, c128, k1, k2, h⟩ := h
  obtain ⟨n9, h9⟩ := isK1 h9
  refine q_callI (run_VW (As := [.int x117, .int x119, .int x121, .int x123]) (rest := []) S hZ hG hS (s_M_insert hst h) tw_884 tw_881 tw_882 tw_883 tw_8 nk_M_insert h9 (by decide) rfl ⟨Nat.le_of_ble_eq_true rfl, Nat.le_of_ble_eq_true rfl⟩ rfl hl116.1 rfl (by decide) d_L_law_285 ⟨k1, k2⟩) hS (fun x130 g129 H locs h143 hG hS => ?_)
  have hk := And.intro k1 k2
  replace h := h143
  refine q_istore (lv' := [(6, .int x130), (5, .int x115), (0, .ref b), (1, va_rf v1), (2, .ref a125), (3, va_rf v3), (4, .int v4)]) hx hb d_L_law_288 hl126 (by decide) (.n (.c 0 rfl (by decide) rfl (.k 1 rfl (by decide) (by decide) (.k 2 rfl (by decide) (by decide) (.k 3 rfl (by decide) (by decide) (.k 4 rfl (by decide) (by decide) (.k 5 rfl (by decide) (by decide) .e))))))) (fun ls131 hl131 => ?_)
  refine lv_aload_n hx hb d_L_law_290 rfl (lv_at hl131 4 rfl) ?_
  obtain ⟨h9, h⟩ := h
  obtain ⟨c132, c133, k1, k2, h⟩ := h
  obtain ⟨n9, h9⟩ := isK1 h9
  refine q_callI (run_V (As := []) (rest := []) S hZ hG hS (s_M_thrown h) tw_802 tw_799 tw_800 tw_801 tw_8 nk_M_thrown h9 (by decide) rfl ⟨Nat.le_of_ble_eq_true rfl, Nat.le_of_ble_eq_true rfl⟩ rfl hl131.1 rfl (by decide) d_L_law_291 ⟨k1, k2⟩) hS (fun x135 g134 H locs h142 hG hS => ?_)
  have hk := And.intro k1 k2
  replace h := h142
  refine lv_iload hx hb d_L_law_294 (lv_at hl131 1 rfl) ?_
  refine lv_icmp_eq (tgt := 301) hx hb d_L_law_296 (by decide) (fun c9 => ?_) (fun c9 => ?_)
  · replace h := h.1 c9
    refine lv_iload hx hb d_L_law_301 (lv_at hl131 1 rfl) ?_
    refine lv_if_ne (tgt := 318) hx hb d_L_law_303 (by decide) (fun c9 => ?_) (fun c9 => ?_)
    · replace h := h.1 c9
      refine lv_goto (tgt := 829) hx hb d_L_law_318 (by decide) ?_
      refine q_iinc (k := 6) (v := v4 + (5 : Int32)) (lv' := [(4, .int (v4 + (5 : Int32))), (6, .int x130), (5, .int x115), (0, .ref b), (1, va_rf v1), (2, .ref a125), (3, va_rf v3)]) hx hb d_L_law_829 hl131 rfl rfl (by decide) (.n (.k 0 rfl (by decide) (by decide) (.k 1 rfl (by decide) (by decide) (.k 2 rfl (by decide) (by decide) (.k 3 rfl (by decide) (by decide) (.k 4 rfl (by decide) (by decide) (.c 5 rfl (by decide) (rf_cat _) .e))))))) (fun ls136 hl136 => ?_)
      refine lv_goto (tgt := 23) hx hb d_L_law_832 (by decide) ?_
      exact hk_23 _ _ _ _ _ _ _ _ _ _ hk h hG hS (lv_sub hl136 [3, 4, 5, 6, 0] rfl)
    · replace h := h.2 c9
      refine q_aload_n hx hb d_L_law_306 rfl (lv_at hl131 5 rfl) ?_
      refine lv_iconst (v := (0 : Int32)) hx hb d_L_law_307 (by decide) ?_
      obtain ⟨a137, e9, h⟩ := h
      subst e9
      have hl138 : lv_has ls131 8 [(6, .int x130), (5, .int x115), (0, .ref b), (1, va_rf v1), (2, .ref a125), (3, .ref a137), (4, .int v4)] := hl131
      obtain ⟨j139, h9, h⟩ := h
      refine r_lald S hZ hG h9 d_L_law_308 (fun x140 e9 => ?_)
      replace h := h x140 e9
      refine lv_iload hx hb d_L_law_309 (lv_at hl138 0 rfl) ?_
      refine lv_i2l hx hb d_L_law_311 rfl ?_
      refine W.lcmp hx hb d_L_law_312 ?_
      refine lv_if_eq (tgt := 318) hx hb d_L_law_313 (by decide) (fun c9 => ?_) (fun c9 => ?_)
      · replace h := h.1 c9
        refine lv_goto (tgt := 829) hx hb d_L_law_318 (by decide) ?_
        refine q_iinc (k := 6) (v := v4 + (5 : Int32)) (lv' := [(4, .int (v4 + (5 : Int32))), (6, .int x130), (5, .int x115), (0, .ref b), (1, va_rf v1), (2, .ref a125), (3, .ref a137)]) hx hb d_L_law_829 hl138 rfl rfl (by decide) (.n (.k 0 rfl (by decide) (by decide) (.k 1 rfl (by decide) (by decide) (.k 2 rfl (by decide) (by decide) (.k 3 rfl (by decide) (by decide) (.k 4 rfl (by decide) (by decide) (.c 5 rfl (by decide) rfl .e))))))) (fun ls141 hl141 => ?_)
        refine lv_goto (tgt := 23) hx hb d_L_law_832 (by decide) ?_
        exact hk_23 _ _ _ _ _ _ _ _ _ _ hk h hG hS (lv_sub hl141 [3, 4, 5, 6, 0] rfl)
      · replace h := h.2 c9
        refine lv_iconst (v := (0 : Int32)) hx hb d_L_law_316 (by decide) ?_
        exact h.elim
  · replace h := h.2 c9
    refine lv_iconst (v := (0 : Int32)) hx hb d_L_law_299 (by decide) ?_
    exact h.elim
def w_L_law_321 (z mi mc ms L : Nat) (xs : Nat → Int32) (k_23 : Nat → Nat → Sg → Option Nat → Option Nat → Option Nat → Int32 → Prop) : Nat → Nat → Sg → Option Nat → Option Nat → Option Nat → Int32 → Prop := fun kc ks g v1 v2 v3 v4 => (∃ j146 : Nat, (v4 + (1 : Int32)) = nI j146 ∧ j146 < L ∧ ∀ x145 : Int32, x145 = xs j146 → (∃ j148 : Nat, (v4 + (2 : Int32)) = nI j148 ∧ j148 < L ∧ ∀ x147 : Int32, x147 = xs j148 → (∃ j150 : Nat, (v4 + (3 : Int32)) = nI j150 ∧ j150 < L ∧ ∀ x149 : Int32, x149 = xs j150 → (∃ c151 c152 : Nat, kc + c151 ≤ mc ∧ ks + c152 ≤ ms ∧ w_L_delete z mi c151 c152 (fun (x154 : Int32) (g153 : Sg) => (∃ j157 : Nat, (v4 + (1 : Int32)) = nI j157 ∧ j157 < L ∧ ∀ x156 : Int32, x156 = xs j157 → (∃ j159 : Nat, (v4 + (2 : Int32)) = nI j159 ∧ j159 < L ∧ ∀ x158 : Int32, x158 = xs j159 → (∃ j161 : Nat, (v4 + (3 : Int32)) = nI j161 ∧ j161 < L ∧ ∀ x160 : Int32, x160 = xs j161 → ∃ a162, v2 = some a162 ∧ (isK g153 a162 [6] ∧ ∃ c164 c165 : Nat, (kc + c151) + c164 ≤ mc ∧ (ks + c152) + c165 ≤ ms ∧ w_M_delete z mi c164 c165 (fun (x167 : Int32) (g166 : Sg) => (isK g166 a162 [6] ∧ ∃ c169 c170 : Nat, ((kc + c151) + c164) + c169 ≤ mc ∧ ((ks + c152) + c165) + c170 ≤ ms ∧ w_M_thrown z mi c169 c170 (fun (x172 : Int32) (g171 : Sg) => (x172 = x154 → (¬ x154 = 0 → k_23 (((kc + c151) + c164) + c169) (((ks + c152) + c165) + c170) g171 v1 (some a162) v3 (v4 + (5 : Int32))) ∧ (x154 = 0 → ∃ a174, v3 = some a174 ∧ (∃ j176 : Nat, inA g171 a174 103 (0 : Int32) j176 ∧ ∀ x177 : Int64, x177 = aL g171 a174 j176 → ((lg_cmp x177 (x167.toInt64)) = 0 → k_23 (((kc + c151) + c164) + c169) (((ks + c152) + c165) + c170) g171 v1 (some a162) (some a174) (v4 + (5 : Int32))) ∧ (¬ (lg_cmp x177 (x167.toInt64)) = 0 → False)))) ∧ (¬ x172 = x154 → False)) g166 a162)) g153 a162 x156 x158 x160))))) g v1 x145 x147 x149 v3))))
set_option maxHeartbeats 4000000 in
set_option maxRecDepth 100000 in
theorem s_L_law_321 {p : Program} {l : Launch} {e : Env} {s : State} {m : MethodId} {below : List Frame} {meth : Method} {c : Code} {D : va_G} {cA : Nat → ClassId} {z mi b L : Nat} {xs : Nat → Int32}  {k_23 : Nat → Nat → Sg → Option Nat → Option Nat → Option Nat → Int32 → Prop} (S : CallFix p m c code 8 s #[Value.ref b] TBL "WeaveCoreLaw") (hst : l.stackTraces = false) (hZ : Ws D cA s.heap.size z mi s) (hr : meth.sig.returnType = ret) (hlk : meth.locks = false) (hX : va_X b L xs s s.heap) (hbl : b < s.heap.size) (hL : L ≤ 2560) (hk_23 : ∀ (kc ks : Nat) (g : Sg) (v1 : Option Nat) (v2 : Option Nat) (v3 : Option Nat) (v4 : Int32) (H : Heap) (locs : List Loc) (ls : Array Slot), kc ≤ 601024 ∧ ks ≤ 7293034 → k_23 kc ks g v1 v2 v3 v4 → WP D cA s.heap.size g H → va_S (oA s.heap.size) s.heap H locs → lv_has ls 8 [(0, .ref b), (1, va_rf v1), (2, va_rf v2), (3, va_rf v3), (4, .int v4)] → W p l e room_1 s m #[Value.ref b] below meth c H locs kc ks (lw_Z below #[Value.ref b] s) (F0 m 23 ls [])) :
    ∀ (kc ks : Nat) (g : Sg) (v1 : Option Nat) (v2 : Option Nat) (v3 : Option Nat) (v4 : Int32) (H : Heap) (locs : List Loc) (ls : Array Slot), kc ≤ 601024 ∧ ks ≤ 7293034 → w_L_law_321 z mi 601024 7293034 L xs k_23 kc ks g v1 v2 v3 v4 → WP D cA s.heap.size g H → va_S (oA s.heap.size) s.heap H locs → lv_has ls 8 [(0, .ref b), (1, va_rf v1), (2, va_rf v2), (3, va_rf v3), (4, .int v4)] → W p l e room_1 s m #[Value.ref b] below meth c H locs kc ks (lw_Z below #[Value.ref b] s) (F0 m 321 ls []) := by
  obtain ⟨hx, hb, hml, hown, hts⟩ := id S
  intro kc ks g v1 v2 v3 v4 H locs ls hk h hG hS hl
  refine q_aload_n hx hb d_L_law_321 rfl (lv_at hl 1 rfl) ?_
  refine lv_aload_n hx hb d_L_law_322 rfl (lv_at hl 0 rfl) ?_
  refine lv_iload hx hb d_L_law_323 (lv_at hl 4 rfl) ?_
  refine lv_iconst (v := (1 : Int32)) hx hb d_L_law_325 (by decide) ?_
  refine lv_iadd hx hb d_L_law_326 ?_
  obtain ⟨j146, h9, h8, h⟩ := h
  refine r_sld S hX hbl hL hS h9 h8 d_L_law_327 (fun x145 e9 => ?_)
  replace h := h x145 e9
  refine lv_aload_n hx hb d_L_law_328 rfl (lv_at hl 0 rfl) ?_
  refine lv_iload hx hb d_L_law_329 (lv_at hl 4 rfl) ?_
  refine lv_iconst (v := (2 : Int32)) hx hb d_L_law_331 (by decide) ?_
  refine lv_iadd hx hb d_L_law_332 ?_
  obtain ⟨j148, h9, h8, h⟩ := h
  refine r_sld S hX hbl hL hS h9 h8 d_L_law_333 (fun x147 e9 => ?_)
  replace h := h x147 e9
  refine lv_aload_n hx hb d_L_law_334 rfl (lv_at hl 0 rfl) ?_
  refine lv_iload hx hb d_L_law_335 (lv_at hl 4 rfl) ?_
  refine lv_iconst (v := (3 : Int32)) hx hb d_L_law_337 (by decide) ?_
  refine lv_iadd hx hb d_L_law_338 ?_
  obtain ⟨j150, h9, h8, h⟩ := h
  refine r_sld S hX hbl hL hS h9 h8 d_L_law_339 (fun x149 e9 => ?_)
  replace h := h x149 e9
  refine q_aload_n hx hb d_L_law_340 rfl (lv_at hl 3 rfl) ?_
  obtain ⟨c151, c152, k1, k2, h⟩ := h
  refine q_callI (run_SW (As := [va_rf v1, .int x145, .int x147, .int x149, va_rf v3]) (rest := []) S hZ hG hS (s_L_delete hst h) tw_588 tw_586 tw_587 tw_0 nk_L_delete ⟨Nat.le_of_ble_eq_true rfl, Nat.le_of_ble_eq_true rfl⟩ rfl hl.1 rfl (by decide) d_L_law_341 ⟨k1, k2⟩) hS (fun x154 g153 H locs h181 hG hS => ?_)
  have hk := And.intro k1 k2
  replace h := h181
  refine q_istore (lv' := [(5, .int x154), (0, .ref b), (1, va_rf v1), (2, va_rf v2), (3, va_rf v3), (4, .int v4)]) hx hb d_L_law_344 hl (by decide) (.n (.k 0 rfl (by decide) (by decide) (.k 1 rfl (by decide) (by decide) (.k 2 rfl (by decide) (by decide) (.k 3 rfl (by decide) (by decide) (.c 4 rfl (by decide) rfl .e)))))) (fun ls155 hl155 => ?_)
  refine q_aload_n hx hb d_L_law_346 rfl (lv_at hl155 3 rfl) ?_
  refine lv_aload_n hx hb d_L_law_347 rfl (lv_at hl155 1 rfl) ?_
  refine lv_iload hx hb d_L_law_348 (lv_at hl155 5 rfl) ?_
  refine lv_iconst (v := (1 : Int32)) hx hb d_L_law_350 (by decide) ?_
  refine lv_iadd hx hb d_L_law_351 ?_
  obtain ⟨j157, h9, h8, h⟩ := h
  refine r_sld S hX hbl hL hS h9 h8 d_L_law_352 (fun x156 e9 => ?_)
  replace h := h x156 e9
  refine lv_aload_n hx hb d_L_law_353 rfl (lv_at hl155 1 rfl) ?_
  refine lv_iload hx hb d_L_law_354 (lv_at hl155 5 rfl) ?_
  refine lv_iconst (v := (2 : Int32)) hx hb d_L_law_356 (by decide) ?_
  refine lv_iadd hx hb d_L_law_357 ?_
  obtain ⟨j159, h9, h8, h⟩ := h
  refine r_sld S hX hbl hL hS h9 h8 d_L_law_358 (fun x158 e9 => ?_)
  replace h := h x158 e9
  refine lv_aload_n hx hb d_L_law_359 rfl (lv_at hl155 1 rfl) ?_
  refine lv_iload hx hb d_L_law_360 (lv_at hl155 5 rfl) ?_
  refine lv_iconst (v := (3 : Int32)) hx hb d_L_law_362 (by decide) ?_
  refine lv_iadd hx hb d_L_law_363 ?_
  obtain ⟨j161, h9, h8, h⟩ := h
  refine r_sld S hX hbl hL hS h9 h8 d_L_law_364 (fun x160 e9 => ?_)
  replace h := h x160 e9
  obtain ⟨a162, e9, h⟩ := h
  subst e9
  have hl163 : lv_has ls155 8 [(5, .int x154), (0, .ref b), (1, va_rf v1), (2, .ref a162), (3, va_rf v3), (4, .int v4)] := hl155
  obtain ⟨h9, h⟩ := h
  obtain ⟨c164, c165, k1, k2, h⟩ := h
  obtain ⟨n9, h9⟩ := isK1 h9
  refine q_callI (run_VW (As := [.int x156, .int x158, .int x160]) (rest := []) S hZ hG hS (s_M_delete hst h) tw_965 tw_962 tw_963 tw_964 tw_8 nk_M_delete h9 (by decide) rfl ⟨Nat.le_of_ble_eq_true rfl, Nat.le_of_ble_eq_true rfl⟩ rfl hl155.1 rfl (by decide) d_L_law_365 ⟨k1, k2⟩) hS (fun x167 g166 H locs h180 hG hS => ?_)
  have hk := And.intro k1 k2
  replace h := h180
  refine q_istore (lv' := [(6, .int x167), (5, .int x154), (0, .ref b), (1, va_rf v1), (2, .ref a162), (3, va_rf v3), (4, .int v4)]) hx hb d_L_law_368 hl163 (by decide) (.n (.c 0 rfl (by decide) rfl (.k 1 rfl (by decide) (by decide) (.k 2 rfl (by decide) (by decide) (.k 3 rfl (by decide) (by decide) (.k 4 rfl (by decide) (by decide) (.k 5 rfl (by decide) (by decide) .e))))))) (fun ls168 hl168 => ?_)
  refine lv_aload_n hx hb d_L_law_370 rfl (lv_at hl168 4 rfl) ?_
  obtain ⟨h9, h⟩ := h
  obtain ⟨c169, c170, k1, k2, h⟩ := h
  obtain ⟨n9, h9⟩ := isK1 h9
  refine q_callI (run_V (As := []) (rest := []) S hZ hG hS (s_M_thrown h) tw_802 tw_799 tw_800 tw_801 tw_8 nk_M_thrown h9 (by decide) rfl ⟨Nat.le_of_ble_eq_true rfl, Nat.le_of_ble_eq_true rfl⟩ rfl hl168.1 rfl (by decide) d_L_law_371 ⟨k1, k2⟩) hS (fun x172 g171 H locs h179 hG hS => ?_)
  have hk := And.intro k1 k2
  replace h := h179
  refine lv_iload hx hb d_L_law_374 (lv_at hl168 1 rfl) ?_
  refine lv_icmp_eq (tgt := 381) hx hb d_L_law_376 (by decide) (fun c9 => ?_) (fun c9 => ?_)
  · replace h := h.1 c9
    refine lv_iload hx hb d_L_law_381 (lv_at hl168 1 rfl) ?_
    refine lv_if_ne (tgt := 398) hx hb d_L_law_383 (by decide) (fun c9 => ?_) (fun c9 => ?_)
    · replace h := h.1 c9
      refine lv_goto (tgt := 829) hx hb d_L_law_398 (by decide) ?_
      refine q_iinc (k := 6) (v := v4 + (5 : Int32)) (lv' := [(4, .int (v4 + (5 : Int32))), (6, .int x167), (5, .int x154), (0, .ref b), (1, va_rf v1), (2, .ref a162), (3, va_rf v3)]) hx hb d_L_law_829 hl168 rfl rfl (by decide) (.n (.k 0 rfl (by decide) (by decide) (.k 1 rfl (by decide) (by decide) (.k 2 rfl (by decide) (by decide) (.k 3 rfl (by decide) (by decide) (.k 4 rfl (by decide) (by decide) (.c 5 rfl (by decide) (rf_cat _) .e))))))) (fun ls173 hl173 => ?_)
      refine lv_goto (tgt := 23) hx hb d_L_law_832 (by decide) ?_
      exact hk_23 _ _ _ _ _ _ _ _ _ _ hk h hG hS (lv_sub hl173 [3, 4, 5, 6, 0] rfl)
    · replace h := h.2 c9
      refine q_aload_n hx hb d_L_law_386 rfl (lv_at hl168 5 rfl) ?_
      refine lv_iconst (v := (0 : Int32)) hx hb d_L_law_387 (by decide) ?_
      obtain ⟨a174, e9, h⟩ := h
      subst e9
      have hl175 : lv_has ls168 8 [(6, .int x167), (5, .int x154), (0, .ref b), (1, va_rf v1), (2, .ref a162), (3, .ref a174), (4, .int v4)] := hl168
      obtain ⟨j176, h9, h⟩ := h
      refine r_lald S hZ hG h9 d_L_law_388 (fun x177 e9 => ?_)
      replace h := h x177 e9
      refine lv_iload hx hb d_L_law_389 (lv_at hl175 0 rfl) ?_
      refine lv_i2l hx hb d_L_law_391 rfl ?_
      refine W.lcmp hx hb d_L_law_392 ?_
      refine lv_if_eq (tgt := 398) hx hb d_L_law_393 (by decide) (fun c9 => ?_) (fun c9 => ?_)
      · replace h := h.1 c9
        refine lv_goto (tgt := 829) hx hb d_L_law_398 (by decide) ?_
        refine q_iinc (k := 6) (v := v4 + (5 : Int32)) (lv' := [(4, .int (v4 + (5 : Int32))), (6, .int x167), (5, .int x154), (0, .ref b), (1, va_rf v1), (2, .ref a162), (3, .ref a174)]) hx hb d_L_law_829 hl175 rfl rfl (by decide) (.n (.k 0 rfl (by decide) (by decide) (.k 1 rfl (by decide) (by decide) (.k 2 rfl (by decide) (by decide) (.k 3 rfl (by decide) (by decide) (.k 4 rfl (by decide) (by decide) (.c 5 rfl (by decide) rfl .e))))))) (fun ls178 hl178 => ?_)
        refine lv_goto (tgt := 23) hx hb d_L_law_832 (by decide) ?_
        exact hk_23 _ _ _ _ _ _ _ _ _ _ hk h hG hS (lv_sub hl178 [3, 4, 5, 6, 0] rfl)
      · replace h := h.2 c9
        refine lv_iconst (v := (0 : Int32)) hx hb d_L_law_396 (by decide) ?_
        exact h.elim
  · replace h := h.2 c9
    refine lv_iconst (v := (0 : Int32)) hx hb d_L_law_379 (by decide) ?_
    exact h.elim
def w_L_law_401 (z mi mc ms L : Nat) (xs : Nat → Int32) (k_23 : Nat → Nat → Sg → Option Nat → Option Nat → Option Nat → Int32 → Prop) : Nat → Nat → Sg → Option Nat → Option Nat → Option Nat → Int32 → Prop := fun kc ks g v1 v2 v3 v4 => ∃ a182, v1 = some a182 ∧ (isK g a182 [4] ∧ ∃ c184 c185 : Nat, kc + c184 ≤ mc ∧ ks + c185 ≤ ms ∧ w_C_length z mi c184 c185 (fun (x187 : Int32) (g186 : Sg) => ∃ a188, v2 = some a188 ∧ (isK g186 a188 [6] ∧ ∃ c190 c191 : Nat, (kc + c184) + c190 ≤ mc ∧ (ks + c185) + c191 ≤ ms ∧ w_M_length z mi c190 c191 (fun (x193 : Int32) (g192 : Sg) => (x187 = x193 → k_23 ((kc + c184) + c190) ((ks + c185) + c191) g192 (some a182) (some a188) v3 (v4 + (5 : Int32))) ∧ (¬ x187 = x193 → False)) g186 a188)) g a182)
set_option maxHeartbeats 4000000 in
set_option maxRecDepth 100000 in
theorem s_L_law_401 {p : Program} {l : Launch} {e : Env} {s : State} {m : MethodId} {below : List Frame} {meth : Method} {c : Code} {D : va_G} {cA : Nat → ClassId} {z mi b L : Nat} {xs : Nat → Int32}  {k_23 : Nat → Nat → Sg → Option Nat → Option Nat → Option Nat → Int32 → Prop} (S : CallFix p m c code 8 s #[Value.ref b] TBL "WeaveCoreLaw") (hst : l.stackTraces = false) (hZ : Ws D cA s.heap.size z mi s) (hr : meth.sig.returnType = ret) (hlk : meth.locks = false) (hX : va_X b L xs s s.heap) (hbl : b < s.heap.size) (hL : L ≤ 2560) (hk_23 : ∀ (kc ks : Nat) (g : Sg) (v1 : Option Nat) (v2 : Option Nat) (v3 : Option Nat) (v4 : Int32) (H : Heap) (locs : List Loc) (ls : Array Slot), kc ≤ 601024 ∧ ks ≤ 7293034 → k_23 kc ks g v1 v2 v3 v4 → WP D cA s.heap.size g H → va_S (oA s.heap.size) s.heap H locs → lv_has ls 8 [(0, .ref b), (1, va_rf v1), (2, va_rf v2), (3, va_rf v3), (4, .int v4)] → W p l e room_1 s m #[Value.ref b] below meth c H locs kc ks (lw_Z below #[Value.ref b] s) (F0 m 23 ls [])) :
    ∀ (kc ks : Nat) (g : Sg) (v1 : Option Nat) (v2 : Option Nat) (v3 : Option Nat) (v4 : Int32) (H : Heap) (locs : List Loc) (ls : Array Slot), kc ≤ 601024 ∧ ks ≤ 7293034 → w_L_law_401 z mi 601024 7293034 L xs k_23 kc ks g v1 v2 v3 v4 → WP D cA s.heap.size g H → va_S (oA s.heap.size) s.heap H locs → lv_has ls 8 [(0, .ref b), (1, va_rf v1), (2, va_rf v2), (3, va_rf v3), (4, .int v4)] → W p l e room_1 s m #[Value.ref b] below meth c H locs kc ks (lw_Z below #[Value.ref b] s) (F0 m 401 ls []) := by
  obtain ⟨hx, hb, hml, hown, hts⟩ := id S
  intro kc ks g v1 v2 v3 v4 H locs ls hk h hG hS hl
  refine q_aload_n hx hb d_L_law_401 rfl (lv_at hl 1 rfl) ?_
  obtain ⟨a182, e9, h⟩ := h
  subst e9
  have hl183 : lv_has ls 8 [(0, .ref b), (1, .ref a182), (2, va_rf v2), (3, va_rf v3), (4, .int v4)] := hl
  obtain ⟨h9, h⟩ := h
  obtain ⟨c184, c185, k1, k2, h⟩ := h
  obtain ⟨n9, h9⟩ := isK1 h9
  refine q_callI (run_V (As := []) (rest := []) S hZ hG hS (s_C_length h) tw_228 tw_225 tw_226 tw_227 tw_1 nk_C_length h9 (by decide) rfl ⟨Nat.le_of_ble_eq_true rfl, Nat.le_of_ble_eq_true rfl⟩ rfl hl.1 rfl (by decide) d_L_law_402 ⟨k1, k2⟩) hS (fun x187 g186 H locs h196 hG hS => ?_)
  have hk := And.intro k1 k2
  replace h := h196
  refine q_aload_n hx hb d_L_law_405 rfl (lv_at hl183 2 rfl) ?_
  obtain ⟨a188, e9, h⟩ := h
  subst e9
  have hl189 : lv_has ls 8 [(0, .ref b), (1, .ref a182), (2, .ref a188), (3, va_rf v3), (4, .int v4)] := hl183
  obtain ⟨h9, h⟩ := h
  obtain ⟨c190, c191, k1, k2, h⟩ := h
  obtain ⟨n9, h9⟩ := isK1 h9
  refine q_callI (run_V (As := []) (rest := [.int x187]) S hZ hG hS (s_M_length h) tw_977 tw_974 tw_975 tw_976 tw_8 nk_M_length h9 (by decide) rfl ⟨Nat.le_of_ble_eq_true rfl, Nat.le_of_ble_eq_true rfl⟩ rfl hl183.1 rfl (Nat.le_of_ble_eq_true rfl) d_L_law_406 ⟨k1, k2⟩) hS (fun x193 g192 H locs h195 hG hS => ?_)
  have hk := And.intro k1 k2
  replace h := h195
  refine lv_icmp_eq (tgt := 829) hx hb d_L_law_409 (by decide) (fun c9 => ?_) (fun c9 => ?_)
  · replace h := h.1 c9
    refine q_iinc (k := 4) (v := v4 + (5 : Int32)) (lv' := [(4, .int (v4 + (5 : Int32))), (0, .ref b), (1, .ref a182), (2, .ref a188), (3, va_rf v3)]) hx hb d_L_law_829 hl189 rfl rfl (by decide) (.n (.k 0 rfl (by decide) (by decide) (.k 1 rfl (by decide) (by decide) (.k 2 rfl (by decide) (by decide) (.c 3 rfl (by decide) (rf_cat _) .e))))) (fun ls194 hl194 => ?_)
    refine lv_goto (tgt := 23) hx hb d_L_law_832 (by decide) ?_
    exact hk_23 _ _ _ _ _ _ _ _ _ _ hk h hG hS (lv_sub hl194 [1, 2, 3, 4, 0] rfl)
  · replace h := h.2 c9
    refine lv_iconst (v := (0 : Int32)) hx hb d_L_law_412 (by decide) ?_
    exact h.elim
def w_L_law_414 (z mi mc ms L : Nat) (xs : Nat → Int32) (k_23 : Nat → Nat → Sg → Option Nat → Option Nat → Option Nat → Int32 → Prop) : Nat → Nat → Sg → Option Nat → Option Nat → Option Nat → Int32 → Prop := fun kc ks g v1 v2 v3 v4 => (∃ j198 : Nat, (v4 + (1 : Int32)) = nI j198 ∧ j198 < L ∧ ∀ x197 : Int32, x197 = xs j198 → (∃ c199 c200 : Nat, kc + c199 ≤ mc ∧ ks + c200 ≤ ms ∧ w_L_at z mi c199 c200 (fun (x202 : Int32) (g201 : Sg) => (∃ j205 : Nat, (v4 + (1 : Int32)) = nI j205 ∧ j205 < L ∧ ∀ x204 : Int32, x204 = xs j205 → ∃ a206, v2 = some a206 ∧ (isK g201 a206 [6] ∧ ∃ c208 c209 : Nat, (kc + c199) + c208 ≤ mc ∧ (ks + c200) + c209 ≤ ms ∧ w_M_at z mi c208 c209 (fun (x211 : Int32) (g210 : Sg) => (isK g210 a206 [6] ∧ ∃ c213 c214 : Nat, ((kc + c199) + c208) + c213 ≤ mc ∧ ((ks + c200) + c209) + c214 ≤ ms ∧ w_M_thrown z mi c213 c214 (fun (x216 : Int32) (g215 : Sg) => (x216 = x202 → (¬ x202 = 0 → k_23 (((kc + c199) + c208) + c213) (((ks + c200) + c209) + c214) g215 v1 (some a206) v3 (v4 + (5 : Int32))) ∧ (x202 = 0 → ∃ a218, v3 = some a218 ∧ (∃ j220 : Nat, inA g215 a218 103 (0 : Int32) j220 ∧ ∀ x221 : Int64, x221 = aL g215 a218 j220 → ((lg_cmp x221 (x211.toInt64)) = 0 → k_23 (((kc + c199) + c208) + c213) (((ks + c200) + c209) + c214) g215 v1 (some a206) (some a218) (v4 + (5 : Int32))) ∧ (¬ (lg_cmp x221 (x211.toInt64)) = 0 → False)))) ∧ (¬ x216 = x202 → False)) g210 a206)) g201 a206 x204))) g v1 x197 v3))
set_option maxHeartbeats 4000000 in
set_option maxRecDepth 100000 in
theorem s_L_law_414 {p : Program} {l : Launch} {e : Env} {s : State} {m : MethodId} {below : List Frame} {meth : Method} {c : Code} {D : va_G} {cA : Nat → ClassId} {z mi b L : Nat} {xs : Nat → Int32}  {k_23 : Nat → Nat → Sg → Option Nat → Option Nat → Option Nat → Int32 → Prop} (S : CallFix p m c code 8 s #[Value.ref b] TBL "WeaveCoreLaw") (hst : l.stackTraces = false) (hZ : Ws D cA s.heap.size z mi s) (hr : meth.sig.returnType = ret) (hlk : meth.locks = false) (hX : va_X b L xs s s.heap) (hbl : b < s.heap.size) (hL : L ≤ 2560) (hk_23 : ∀ (kc ks : Nat) (g : Sg) (v1 : Option Nat) (v2 : Option Nat) (v3 : Option Nat) (v4 : Int32) (H : Heap) (locs : List Loc) (ls : Array Slot), kc ≤ 601024 ∧ ks ≤ 7293034 → k_23 kc ks g v1 v2 v3 v4 → WP D cA s.heap.size g H → va_S (oA s.heap.size) s.heap H locs → lv_has ls 8 [(0, .ref b), (1, va_rf v1), (2, va_rf v2), (3, va_rf v3), (4, .int v4)] → W p l e room_1 s m #[Value.ref b] below meth c H locs kc ks (lw_Z below #[Value.ref b] s) (F0 m 23 ls [])) :
    ∀ (kc ks : Nat) (g : Sg) (v1 : Option Nat) (v2 : Option Nat) (v3 : Option Nat) (v4 : Int32) (H : Heap) (locs : List Loc) (ls : Array Slot), kc ≤ 601024 ∧ ks ≤ 7293034 → w_L_law_414 z mi 601024 7293034 L xs k_23 kc ks g v1 v2 v3 v4 → WP D cA s.heap.size g H → va_S (oA s.heap.size) s.heap H locs → lv_has ls 8 [(0, .ref b), (1, va_rf v1), (2, va_rf v2), (3, va_rf v3), (4, .int v4)] → W p l e room_1 s m #[Value.ref b] below meth c H locs kc ks (lw_Z below #[Value.ref b] s) (F0 m 414 ls []) := by
  obtain ⟨hx, hb, hml, hown, hts⟩ := id S
  intro kc ks g v1 v2 v3 v4 H locs ls hk h hG hS hl
  refine q_aload_n hx hb d_L_law_414 rfl (lv_at hl 1 rfl) ?_
  refine lv_aload_n hx hb d_L_law_415 rfl (lv_at hl 0 rfl) ?_
  refine lv_iload hx hb d_L_law_416 (lv_at hl 4 rfl) ?_
  refine lv_iconst (v := (1 : Int32)) hx hb d_L_law_418 (by decide) ?_
  refine lv_iadd hx hb d_L_law_419 ?_
  obtain ⟨j198, h9, h8, h⟩ := h
  refine r_sld S hX hbl hL hS h9 h8 d_L_law_420 (fun x197 e9 => ?_)
  replace h := h x197 e9
  refine q_aload_n hx hb d_L_law_421 rfl (lv_at hl 3 rfl) ?_
  obtain ⟨c199, c200, k1, k2, h⟩ := h
  refine q_callI (run_SW (As := [va_rf v1, .int x197, va_rf v3]) (rest := []) S hZ hG hS (s_L_at hst h) tw_615 tw_613 tw_614 tw_0 nk_L_at ⟨Nat.le_of_ble_eq_true rfl, Nat.le_of_ble_eq_true rfl⟩ rfl hl.1 rfl (by decide) d_L_law_422 ⟨k1, k2⟩) hS (fun x202 g201 H locs h225 hG hS => ?_)
  have hk := And.intro k1 k2
  replace h := h225
  refine q_istore (lv' := [(5, .int x202), (0, .ref b), (1, va_rf v1), (2, va_rf v2), (3, va_rf v3), (4, .int v4)]) hx hb d_L_law_425 hl (by decide) (.n (.k 0 rfl (by decide) (by decide) (.k 1 rfl (by decide) (by decide) (.k 2 rfl (by decide) (by decide) (.k 3 rfl (by decide) (by decide) (.c 4 rfl (by decide) rfl .e)))))) (fun ls203 hl203 => ?_)
  refine q_aload_n hx hb d_L_law_427 rfl (lv_at hl203 3 rfl) ?_
  refine lv_aload_n hx hb d_L_law_428 rfl (lv_at hl203 1 rfl) ?_
  refine lv_iload hx hb d_L_law_429 (lv_at hl203 5 rfl) ?_
  refine lv_iconst (v := (1 : Int32)) hx hb d_L_law_431 (by decide) ?_
  refine lv_iadd hx hb d_L_law_432 ?_
  obtain ⟨j205, h9, h8, h⟩ := h
  refine r_sld S hX hbl hL hS h9 h8 d_L_law_433 (fun x204 e9 => ?_)
  replace h := h x204 e9
  obtain ⟨a206, e9, h⟩ := h
  subst e9
  have hl207 : lv_has ls203 8 [(5, .int x202), (0, .ref b), (1, va_rf v1), (2, .ref a206), (3, va_rf v3), (4, .int v4)] := hl203
  obtain ⟨h9, h⟩ := h
  obtain ⟨c208, c209, k1, k2, h⟩ := h
  obtain ⟨n9, h9⟩ := isK1 h9
  refine q_callI (run_VW (As := [.int x204]) (rest := []) S hZ hG hS (s_M_at hst h) tw_985 tw_982 tw_983 tw_984 tw_8 nk_M_at h9 (by decide) rfl ⟨Nat.le_of_ble_eq_true rfl, Nat.le_of_ble_eq_true rfl⟩ rfl hl203.1 rfl (by decide) d_L_law_434 ⟨k1, k2⟩) hS (fun x211 g210 H locs h224 hG hS => ?_)
  have hk := And.intro k1 k2
  replace h := h224
  refine q_istore (lv' := [(6, .int x211), (5, .int x202), (0, .ref b), (1, va_rf v1), (2, .ref a206), (3, va_rf v3), (4, .int v4)]) hx hb d_L_law_437 hl207 (by decide) (.n (.c 0 rfl (by decide) rfl (.k 1 rfl (by decide) (by decide) (.k 2 rfl (by decide) (by decide) (.k 3 rfl (by decide) (by decide) (.k 4 rfl (by decide) (by decide) (.k 5 rfl (by decide) (by decide) .e))))))) (fun ls212 hl212 => ?_)
  refine lv_aload_n hx hb d_L_law_439 rfl (lv_at hl212 4 rfl) ?_
  obtain ⟨h9, h⟩ := h
  obtain ⟨c213, c214, k1, k2, h⟩ := h
  obtain ⟨n9, h9⟩ := isK1 h9
  refine q_callI (run_V (As := []) (rest := []) S hZ hG hS (s_M_thrown h) tw_802 tw_799 tw_800 tw_801 tw_8 nk_M_thrown h9 (by decide) rfl ⟨Nat.le_of_ble_eq_true rfl, Nat.le_of_ble_eq_true rfl⟩ rfl hl212.1 rfl (by decide) d_L_law_440 ⟨k1, k2⟩) hS (fun x216 g215 H locs h223 hG hS => ?_)
  have hk := And.intro k1 k2
  replace h := h223
  refine lv_iload hx hb d_L_law_443 (lv_at hl212 1 rfl) ?_
  refine lv_icmp_eq (tgt := 450) hx hb d_L_law_445 (by decide) (fun c9 => ?_) (fun c9 => ?_)
  · replace h := h.1 c9
    refine lv_iload hx hb d_L_law_450 (lv_at hl212 1 rfl) ?_
    refine lv_if_ne (tgt := 467) hx hb d_L_law_452 (by decide) (fun c9 => ?_) (fun c9 => ?_)
    · replace h := h.1 c9
      refine lv_goto (tgt := 829) hx hb d_L_law_467 (by decide) ?_
      refine q_iinc (k := 6) (v := v4 + (5 : Int32)) (lv' := [(4, .int (v4 + (5 : Int32))), (6, .int x211), (5, .int x202), (0, .ref b), (1, va_rf v1), (2, .ref a206), (3, va_rf v3)]) hx hb d_L_law_829 hl212 rfl rfl (by decide) (.n (.k 0 rfl (by decide) (by decide) (.k 1 rfl (by decide) (by decide) (.k 2 rfl (by decide) (by decide) (.k 3 rfl (by decide) (by decide) (.k 4 rfl (by decide) (by decide) (.c 5 rfl (by decide) (rf_cat _) .e))))))) (fun ls217 hl217 => ?_)
      refine lv_goto (tgt := 23) hx hb d_L_law_832 (by decide) ?_
      exact hk_23 _ _ _ _ _ _ _ _ _ _ hk h hG hS (lv_sub hl217 [3, 4, 5, 6, 0] rfl)
    · replace h := h.2 c9
      refine q_aload_n hx hb d_L_law_455 rfl (lv_at hl212 5 rfl) ?_
      refine lv_iconst (v := (0 : Int32)) hx hb d_L_law_456 (by decide) ?_
      obtain ⟨a218, e9, h⟩ := h
      subst e9
      have hl219 : lv_has ls212 8 [(6, .int x211), (5, .int x202), (0, .ref b), (1, va_rf v1), (2, .ref a206), (3, .ref a218), (4, .int v4)] := hl212
      obtain ⟨j220, h9, h⟩ := h
      refine r_lald S hZ hG h9 d_L_law_457 (fun x221 e9 => ?_)
      replace h := h x221 e9
      refine lv_iload hx hb d_L_law_458 (lv_at hl219 0 rfl) ?_
      refine lv_i2l hx hb d_L_law_460 rfl ?_
      refine W.lcmp hx hb d_L_law_461 ?_
      refine lv_if_eq (tgt := 467) hx hb d_L_law_462 (by decide) (fun c9 => ?_) (fun c9 => ?_)
      · replace h := h.1 c9
        refine lv_goto (tgt := 829) hx hb d_L_law_467 (by decide) ?_
        refine q_iinc (k := 6) (v := v4 + (5 : Int32)) (lv' := [(4, .int (v4 + (5 : Int32))), (6, .int x211), (5, .int x202), (0, .ref b), (1, va_rf v1), (2, .ref a206), (3, .ref a218)]) hx hb d_L_law_829 hl219 rfl rfl (by decide) (.n (.k 0 rfl (by decide) (by decide) (.k 1 rfl (by decide) (by decide) (.k 2 rfl (by decide) (by decide) (.k 3 rfl (by decide) (by decide) (.k 4 rfl (by decide) (by decide) (.c 5 rfl (by decide) rfl .e))))))) (fun ls222 hl222 => ?_)
        refine lv_goto (tgt := 23) hx hb d_L_law_832 (by decide) ?_
        exact hk_23 _ _ _ _ _ _ _ _ _ _ hk h hG hS (lv_sub hl222 [3, 4, 5, 6, 0] rfl)
      · replace h := h.2 c9
        refine lv_iconst (v := (0 : Int32)) hx hb d_L_law_465 (by decide) ?_
        exact h.elim
  · replace h := h.2 c9
    refine lv_iconst (v := (0 : Int32)) hx hb d_L_law_448 (by decide) ?_
    exact h.elim
def w_L_law_470 (z mi mc ms L : Nat) (xs : Nat → Int32) (k_23 : Nat → Nat → Sg → Option Nat → Option Nat → Option Nat → Int32 → Prop) : Nat → Nat → Sg → Option Nat → Option Nat → Option Nat → Int32 → Prop := fun kc ks g v1 v2 v3 v4 => (∃ j227 : Nat, (v4 + (1 : Int32)) = nI j227 ∧ j227 < L ∧ ∀ x226 : Int32, x226 = xs j227 → (∃ c228 c229 : Nat, kc + c228 ≤ mc ∧ ks + c229 ≤ ms ∧ w_L_who z mi c228 c229 (fun (x231 : Int32) (g230 : Sg) => (∃ j234 : Nat, (v4 + (1 : Int32)) = nI j234 ∧ j234 < L ∧ ∀ x233 : Int32, x233 = xs j234 → ∃ a235, v2 = some a235 ∧ (isK g230 a235 [6] ∧ ∃ c237 c238 : Nat, (kc + c228) + c237 ≤ mc ∧ (ks + c229) + c238 ≤ ms ∧ w_M_who z mi c237 c238 (fun (x240 : Int64) (g239 : Sg) => (isK g239 a235 [6] ∧ ∃ c242 c243 : Nat, ((kc + c228) + c237) + c242 ≤ mc ∧ ((ks + c229) + c238) + c243 ≤ ms ∧ w_M_thrown z mi c242 c243 (fun (x245 : Int32) (g244 : Sg) => (x245 = x231 → (¬ x231 = 0 → k_23 (((kc + c228) + c237) + c242) (((ks + c229) + c238) + c243) g244 v1 (some a235) v3 (v4 + (5 : Int32))) ∧ (x231 = 0 → ∃ a247, v3 = some a247 ∧ (∃ j249 : Nat, inA g244 a247 103 (0 : Int32) j249 ∧ ∀ x250 : Int64, x250 = aL g244 a247 j249 → ((lg_cmp x250 x240) = 0 → k_23 (((kc + c228) + c237) + c242) (((ks + c229) + c238) + c243) g244 v1 (some a235) (some a247) (v4 + (5 : Int32))) ∧ (¬ (lg_cmp x250 x240) = 0 → False)))) ∧ (¬ x245 = x231 → False)) g239 a235)) g230 a235 x233))) g v1 x226 v3))
set_option maxHeartbeats 4000000 in
set_option maxRecDepth 100000 in
theorem s_L_law_470 {p : Program} {l : Launch} {e : Env} {s : State} {m : MethodId} {below : List Frame} {meth : Method} {c : Code} {D : va_G} {cA : Nat → ClassId} {z mi b L : Nat} {xs : Nat → Int32}  {k_23 : Nat → Nat → Sg → Option Nat → Option Nat → Option Nat → Int32 → Prop} (S : CallFix p m c code 8 s #[Value.ref b] TBL "WeaveCoreLaw") (hst : l.stackTraces = false) (hZ : Ws D cA s.heap.size z mi s) (hr : meth.sig.returnType = ret) (hlk : meth.locks = false) (hX : va_X b L xs s s.heap) (hbl : b < s.heap.size) (hL : L ≤ 2560) (hk_23 : ∀ (kc ks : Nat) (g : Sg) (v1 : Option Nat) (v2 : Option Nat) (v3 : Option Nat) (v4 : Int32) (H : Heap) (locs : List Loc) (ls : Array Slot), kc ≤ 601024 ∧ ks ≤ 7293034 → k_23 kc ks g v1 v2 v3 v4 → WP D cA s.heap.size g H → va_S (oA s.heap.size) s.heap H locs → lv_has ls 8 [(0, .ref b), (1, va_rf v1), (2, va_rf v2), (3, va_rf v3), (4, .int v4)] → W p l e room_1 s m #[Value.ref b] below meth c H locs kc ks (lw_Z below #[Value.ref b] s) (F0 m 23 ls [])) :
    ∀ (kc ks : Nat) (g : Sg) (v1 : Option Nat) (v2 : Option Nat) (v3 : Option Nat) (v4 : Int32) (H : Heap) (locs : List Loc) (ls : Array Slot), kc ≤ 601024 ∧ ks ≤ 7293034 → w_L_law_470 z mi 601024 7293034 L xs k_23 kc ks g v1 v2 v3 v4 → WP D cA s.heap.size g H → va_S (oA s.heap.size) s.heap H locs → lv_has ls 8 [(0, .ref b), (1, va_rf v1), (2, va_rf v2), (3, va_rf v3), (4, .int v4)] → W p l e room_1 s m #[Value.ref b] below meth c H locs kc ks (lw_Z below #[Value.ref b] s) (F0 m 470 ls []) := by
  obtain ⟨hx, hb, hml, hown, hts⟩ := id S
  intro kc ks g v1 v2 v3 v4 H locs ls hk h hG hS hl
  refine q_aload_n hx hb d_L_law_470 rfl (lv_at hl 1 rfl) ?_
  refine lv_aload_n hx hb d_L_law_471 rfl (lv_at hl 0 rfl) ?_
  refine lv_iload hx hb d_L_law_472 (lv_at hl 4 rfl) ?_
  refine lv_iconst (v := (1 : Int32)) hx hb d_L_law_474 (by decide) ?_
  refine lv_iadd hx hb d_L_law_475 ?_
  obtain ⟨j227, h9, h8, h⟩ := h
  refine r_sld S hX hbl hL hS h9 h8 d_L_law_476 (fun x226 e9 => ?_)
  replace h := h x226 e9
  refine q_aload_n hx hb d_L_law_477 rfl (lv_at hl 3 rfl) ?_
  obtain ⟨c228, c229, k1, k2, h⟩ := h
  refine q_callI (run_SW (As := [va_rf v1, .int x226, va_rf v3]) (rest := []) S hZ hG hS (s_L_who hst h) tw_634 tw_632 tw_633 tw_0 nk_L_who ⟨Nat.le_of_ble_eq_true rfl, Nat.le_of_ble_eq_true rfl⟩ rfl hl.1 rfl (by decide) d_L_law_478 ⟨k1, k2⟩) hS (fun x231 g230 H locs h254 hG hS => ?_)
  have hk := And.intro k1 k2
  replace h := h254
  refine q_istore (lv' := [(5, .int x231), (0, .ref b), (1, va_rf v1), (2, va_rf v2), (3, va_rf v3), (4, .int v4)]) hx hb d_L_law_481 hl (by decide) (.n (.k 0 rfl (by decide) (by decide) (.k 1 rfl (by decide) (by decide) (.k 2 rfl (by decide) (by decide) (.k 3 rfl (by decide) (by decide) (.c 4 rfl (by decide) rfl .e)))))) (fun ls232 hl232 => ?_)
  refine q_aload_n hx hb d_L_law_483 rfl (lv_at hl232 3 rfl) ?_
  refine lv_aload_n hx hb d_L_law_484 rfl (lv_at hl232 1 rfl) ?_
  refine lv_iload hx hb d_L_law_485 (lv_at hl232 5 rfl) ?_
  refine lv_iconst (v := (1 : Int32)) hx hb d_L_law_487 (by decide) ?_
  refine lv_iadd hx hb d_L_law_488 ?_
  obtain ⟨j234, h9, h8, h⟩ := h
  refine r_sld S hX hbl hL hS h9 h8 d_L_law_489 (fun x233 e9 => ?_)
  replace h := h x233 e9
  obtain ⟨a235, e9, h⟩ := h
  subst e9
  have hl236 : lv_has ls232 8 [(5, .int x231), (0, .ref b), (1, va_rf v1), (2, .ref a235), (3, va_rf v3), (4, .int v4)] := hl232
  obtain ⟨h9, h⟩ := h
  obtain ⟨c237, c238, k1, k2, h⟩ := h
  obtain ⟨n9, h9⟩ := isK1 h9
  refine q_callL (run_VW (As := [.int x233]) (rest := []) S hZ hG hS (s_M_who hst h) tw_1001 tw_998 tw_999 tw_1000 tw_8 nk_M_who h9 (by decide) rfl ⟨Nat.le_of_ble_eq_true rfl, Nat.le_of_ble_eq_true rfl⟩ rfl hl232.1 rfl (by decide) d_L_law_490 ⟨k1, k2⟩) hS (fun x240 g239 H locs h253 hG hS => ?_)
  have hk := And.intro k1 k2
  replace h := h253
  refine lv_lstore (lv' := [(6, .long (x240)), (5, .int x231), (0, .ref b), (1, va_rf v1), (2, .ref a235), (3, va_rf v3), (4, .int v4)]) hx hb d_L_law_493 hl236 (by decide) rfl (fun ls241 hl241 => ?_)
  refine lv_aload_n hx hb d_L_law_495 rfl (lv_at hl241 4 rfl) ?_
  obtain ⟨h9, h⟩ := h
  obtain ⟨c242, c243, k1, k2, h⟩ := h
  obtain ⟨n9, h9⟩ := isK1 h9
  refine q_callI (run_V (As := []) (rest := []) S hZ hG hS (s_M_thrown h) tw_802 tw_799 tw_800 tw_801 tw_8 nk_M_thrown h9 (by decide) rfl ⟨Nat.le_of_ble_eq_true rfl, Nat.le_of_ble_eq_true rfl⟩ rfl hl241.1 rfl (by decide) d_L_law_496 ⟨k1, k2⟩) hS (fun x245 g244 H locs h252 hG hS => ?_)
  have hk := And.intro k1 k2
  replace h := h252
  refine lv_iload hx hb d_L_law_499 (lv_at hl241 1 rfl) ?_
  refine lv_icmp_eq (tgt := 506) hx hb d_L_law_501 (by decide) (fun c9 => ?_) (fun c9 => ?_)
  · replace h := h.1 c9
    refine lv_iload hx hb d_L_law_506 (lv_at hl241 1 rfl) ?_
    refine lv_if_ne (tgt := 522) hx hb d_L_law_508 (by decide) (fun c9 => ?_) (fun c9 => ?_)
    · replace h := h.1 c9
      refine lv_goto (tgt := 829) hx hb d_L_law_522 (by decide) ?_
      refine q_iinc (k := 6) (v := v4 + (5 : Int32)) (lv' := [(4, .int (v4 + (5 : Int32))), (6, .long (x240)), (5, .int x231), (0, .ref b), (1, va_rf v1), (2, .ref a235), (3, va_rf v3)]) hx hb d_L_law_829 hl241 rfl rfl (by decide) (.n (.k 0 rfl (by decide) (by decide) (.k 1 rfl (by decide) (by decide) (.k 2 rfl (by decide) (by decide) (.k 3 rfl (by decide) (by decide) (.k 4 rfl (by decide) (by decide) (.c 5 rfl (by decide) (rf_cat _) .e))))))) (fun ls246 hl246 => ?_)
      refine lv_goto (tgt := 23) hx hb d_L_law_832 (by decide) ?_
      exact hk_23 _ _ _ _ _ _ _ _ _ _ hk h hG hS (lv_sub hl246 [3, 4, 5, 6, 0] rfl)
    · replace h := h.2 c9
      refine q_aload_n hx hb d_L_law_511 rfl (lv_at hl241 5 rfl) ?_
      refine lv_iconst (v := (0 : Int32)) hx hb d_L_law_512 (by decide) ?_
      obtain ⟨a247, e9, h⟩ := h
      subst e9
      have hl248 : lv_has ls241 8 [(6, .long (x240)), (5, .int x231), (0, .ref b), (1, va_rf v1), (2, .ref a235), (3, .ref a247), (4, .int v4)] := hl241
      obtain ⟨j249, h9, h⟩ := h
      refine r_lald S hZ hG h9 d_L_law_513 (fun x250 e9 => ?_)
      replace h := h x250 e9
      refine lv_lload hx hb d_L_law_514 (lv_at hl248 0 rfl) ?_
      refine W.lcmp hx hb d_L_law_516 ?_
      refine lv_if_eq (tgt := 522) hx hb d_L_law_517 (by decide) (fun c9 => ?_) (fun c9 => ?_)
      · replace h := h.1 c9
        refine lv_goto (tgt := 829) hx hb d_L_law_522 (by decide) ?_
        refine q_iinc (k := 6) (v := v4 + (5 : Int32)) (lv' := [(4, .int (v4 + (5 : Int32))), (6, .long (x240)), (5, .int x231), (0, .ref b), (1, va_rf v1), (2, .ref a235), (3, .ref a247)]) hx hb d_L_law_829 hl248 rfl rfl (by decide) (.n (.k 0 rfl (by decide) (by decide) (.k 1 rfl (by decide) (by decide) (.k 2 rfl (by decide) (by decide) (.k 3 rfl (by decide) (by decide) (.k 4 rfl (by decide) (by decide) (.c 5 rfl (by decide) rfl .e))))))) (fun ls251 hl251 => ?_)
        refine lv_goto (tgt := 23) hx hb d_L_law_832 (by decide) ?_
        exact hk_23 _ _ _ _ _ _ _ _ _ _ hk h hG hS (lv_sub hl251 [3, 4, 5, 6, 0] rfl)
      · replace h := h.2 c9
        refine lv_iconst (v := (0 : Int32)) hx hb d_L_law_520 (by decide) ?_
        exact h.elim
  · replace h := h.2 c9
    refine lv_iconst (v := (0 : Int32)) hx hb d_L_law_504 (by decide) ?_
    exact h.elim
def w_L_law_525 (z mi mc ms L : Nat) (xs : Nat → Int32) (k_23 : Nat → Nat → Sg → Option Nat → Option Nat → Option Nat → Int32 → Prop) : Nat → Nat → Sg → Option Nat → Option Nat → Option Nat → Int32 → Prop := fun kc ks g v1 v2 v3 v4 => (∃ j256 : Nat, (v4 + (1 : Int32)) = nI j256 ∧ j256 < L ∧ ∀ x255 : Int32, x255 = xs j256 → (∃ j258 : Nat, (v4 + (2 : Int32)) = nI j258 ∧ j258 < L ∧ ∀ x257 : Int32, x257 = xs j258 → (∃ c259 c260 : Nat, kc + c259 ≤ mc ∧ ks + c260 ≤ ms ∧ w_L_spot z mi c259 c260 (fun (x262 : Int32) (g261 : Sg) => (∃ j265 : Nat, (v4 + (1 : Int32)) = nI j265 ∧ j265 < L ∧ ∀ x264 : Int32, x264 = xs j265 → (∃ j267 : Nat, (v4 + (2 : Int32)) = nI j267 ∧ j267 < L ∧ ∀ x266 : Int32, x266 = xs j267 → ∃ a268, v2 = some a268 ∧ (isK g261 a268 [6] ∧ ∃ c270 c271 : Nat, (kc + c259) + c270 ≤ mc ∧ (ks + c260) + c271 ≤ ms ∧ w_M_spot z mi c270 c271 (fun (x273 : Int32) (g272 : Sg) => (isK g272 a268 [6] ∧ ∃ c275 c276 : Nat, ((kc + c259) + c270) + c275 ≤ mc ∧ ((ks + c260) + c271) + c276 ≤ ms ∧ w_M_thrown z mi c275 c276 (fun (x278 : Int32) (g277 : Sg) => (x278 = x262 → (¬ x262 = 0 → k_23 (((kc + c259) + c270) + c275) (((ks + c260) + c271) + c276) g277 v1 (some a268) v3 (v4 + (5 : Int32))) ∧ (x262 = 0 → ∃ a280, v3 = some a280 ∧ (∃ j282 : Nat, inA g277 a280 103 (0 : Int32) j282 ∧ ∀ x283 : Int64, x283 = aL g277 a280 j282 → ((lg_cmp x283 (x273.toInt64)) = 0 → k_23 (((kc + c259) + c270) + c275) (((ks + c260) + c271) + c276) g277 v1 (some a268) (some a280) (v4 + (5 : Int32))) ∧ (¬ (lg_cmp x283 (x273.toInt64)) = 0 → False)))) ∧ (¬ x278 = x262 → False)) g272 a268)) g261 a268 x264 x266)))) g v1 x255 x257 v3)))
set_option maxHeartbeats 4000000 in
set_option maxRecDepth 100000 in
theorem s_L_law_525 {p : Program} {l : Launch} {e : Env} {s : State} {m : MethodId} {below : List Frame} {meth : Method} {c : Code} {D : va_G} {cA : Nat → ClassId} {z mi b L : Nat} {xs : Nat → Int32}  {k_23 : Nat → Nat → Sg → Option Nat → Option Nat → Option Nat → Int32 → Prop} (S : CallFix p m c code 8 s #[Value.ref b] TBL "WeaveCoreLaw") (hst : l.stackTraces = false) (hZ : Ws D cA s.heap.size z mi s) (hr : meth.sig.returnType = ret) (hlk : meth.locks = false) (hX : va_X b L xs s s.heap) (hbl : b < s.heap.size) (hL : L ≤ 2560) (hk_23 : ∀ (kc ks : Nat) (g : Sg) (v1 : Option Nat) (v2 : Option Nat) (v3 : Option Nat) (v4 : Int32) (H : Heap) (locs : List Loc) (ls : Array Slot), kc ≤ 601024 ∧ ks ≤ 7293034 → k_23 kc ks g v1 v2 v3 v4 → WP D cA s.heap.size g H → va_S (oA s.heap.size) s.heap H locs → lv_has ls 8 [(0, .ref b), (1, va_rf v1), (2, va_rf v2), (3, va_rf v3), (4, .int v4)] → W p l e room_1 s m #[Value.ref b] below meth c H locs kc ks (lw_Z below #[Value.ref b] s) (F0 m 23 ls [])) :
    ∀ (kc ks : Nat) (g : Sg) (v1 : Option Nat) (v2 : Option Nat) (v3 : Option Nat) (v4 : Int32) (H : Heap) (locs : List Loc) (ls : Array Slot), kc ≤ 601024 ∧ ks ≤ 7293034 → w_L_law_525 z mi 601024 7293034 L xs k_23 kc ks g v1 v2 v3 v4 → WP D cA s.heap.size g H → va_S (oA s.heap.size) s.heap H locs → lv_has ls 8 [(0, .ref b), (1, va_rf v1), (2, va_rf v2), (3, va_rf v3), (4, .int v4)] → W p l e room_1 s m #[Value.ref b] below meth c H locs kc ks (lw_Z below #[Value.ref b] s) (F0 m 525 ls []) := by
  obtain ⟨hx, hb, hml, hown, hts⟩ := id S
  intro kc ks g v1 v2 v3 v4 H locs ls hk h hG hS hl
  refine q_aload_n hx hb d_L_law_525 rfl (lv_at hl 1 rfl) ?_
  refine lv_aload_n hx hb d_L_law_526 rfl (lv_at hl 0 rfl) ?_
  refine lv_iload hx hb d_L_law_527 (lv_at hl 4 rfl) ?_
  refine lv_iconst (v := (1 : Int32)) hx hb d_L_law_529 (by decide) ?_
  refine lv_iadd hx hb d_L_law_530 ?_
  obtain ⟨j256, h9, h8, h⟩ := h
  refine r_sld S hX hbl hL hS h9 h8 d_L_law_531 (fun x255 e9 => ?_)
  replace h := h x255 e9
  refine lv_aload_n hx hb d_L_law_532 rfl (lv_at hl 0 rfl) ?_
  refine lv_iload hx hb d_L_law_533 (lv_at hl 4 rfl) ?_
  refine lv_iconst (v := (2 : Int32)) hx hb d_L_law_535 (by decide) ?_
  refine lv_iadd hx hb d_L_law_536 ?_
  obtain ⟨j258, h9, h8, h⟩ := h
  refine r_sld S hX hbl hL hS h9 h8 d_L_law_537 (fun x257 e9 => ?_)
  replace h := h x257 e9
  refine q_aload_n hx hb d_L_law_538 rfl (lv_at hl 3 rfl) ?_
  obtain ⟨c259, c260, k1, k2, h⟩ := h
  refine q_callI (run_SW (As := [va_rf v1, .int x255, .int x257, va_rf v3]) (rest := []) S hZ hG hS (s_L_spot hst h) tw_642 tw_640 tw_641 tw_0 nk_L_spot ⟨Nat.le_of_ble_eq_true rfl, Nat.le_of_ble_eq_true rfl⟩ rfl hl.1 rfl (by decide) d_L_law_539 ⟨k1, k2⟩) hS (fun x262 g261 H locs h287 hG hS => ?_)
  have hk := And.intro k1 k2
  replace h := h287
  refine q_istore (lv' := [(5, .int x262), (0, .ref b), (1, va_rf v1), (2, va_rf v2), (3, va_rf v3), (4, .int v4)]) hx hb d_L_law_542 hl (by decide) (.n (.k 0 rfl (by decide) (by decide) (.k 1 rfl (by decide) (by decide) (.k 2 rfl (by decide) (by decide) (.k 3 rfl (by decide) (by decide) (.c 4 rfl (by decide) rfl .e)))))) (fun ls263 hl263 => ?_)
  refine q_aload_n hx hb d_L_law_544 rfl (lv_at hl263 3 rfl) ?_
  refine lv_aload_n hx hb d_L_law_545 rfl (lv_at hl263 1 rfl) ?_
  refine lv_iload hx hb d_L_law_546 (lv_at hl263 5 rfl) ?_
  refine lv_iconst (v := (1 : Int32)) hx hb d_L_law_548 (by decide) ?_
  refine lv_iadd hx hb d_L_law_549 ?_
  obtain ⟨j265, h9, h8, h⟩ := h
  refine r_sld S hX hbl hL hS h9 h8 d_L_law_550 (fun x264 e9 => ?_)
  replace h := h x264 e9
  refine lv_aload_n hx hb d_L_law_551 rfl (lv_at hl263 1 rfl) ?_
  refine lv_iload hx hb d_L_law_552 (lv_at hl263 5 rfl) ?_
  refine lv_iconst (v := (2 : Int32)) hx hb d_L_law_554 (by decide) ?_
  refine lv_iadd hx hb d_L_law_555 ?_
  obtain ⟨j267, h9, h8, h⟩ := h
  refine r_sld S hX hbl hL hS h9 h8 d_L_law_556 (fun x266 e9 => ?_)
  replace h := h x266 e9
  obtain ⟨a268, e9, h⟩ := h
  subst e9
  have hl269 : lv_has ls263 8 [(5, .int x262), (0, .ref b), (1, va_rf v1), (2, .ref a268), (3, va_rf v3), (4, .int v4)] := hl263
  obtain ⟨h9, h⟩ := h
  obtain ⟨c270, c271, k1, k2, h⟩ := h
  obtain ⟨n9, h9⟩ := isK1 h9
  refine q_callI (run_VW (As := [.int x264, .int x266]) (rest := []) S hZ hG hS (s_M_spot hst h) tw_1010 tw_1007 tw_1008 tw_1009 tw_8 nk_M_spot h9 (by decide) rfl ⟨Nat.le_of_ble_eq_true rfl, Nat.le_of_ble_eq_true rfl⟩ rfl hl263.1 rfl (by decide) d_L_law_557 ⟨k1, k2⟩) hS (fun x273 g272 H locs h286 hG hS => ?_)
  have hk := And.intro k1 k2
  replace h := h286
  refine q_istore (lv' := [(6, .int x273), (5, .int x262), (0, .ref b), (1, va_rf v1), (2, .ref a268), (3, va_rf v3), (4, .int v4)]) hx hb d_L_law_560 hl269 (by decide) (.n (.c 0 rfl (by decide) rfl (.k 1 rfl (by decide) (by decide) (.k 2 rfl (by decide) (by decide) (.k 3 rfl (by decide) (by decide) (.k 4 rfl (by decide) (by decide) (.k 5 rfl (by decide) (by decide) .e))))))) (fun ls274 hl274 => ?_)
  refine lv_aload_n hx hb d_L_law_562 rfl (lv_at hl274 4 rfl) ?_
  obtain ⟨h9, h⟩ := h
  obtain ⟨c275, c276, k1, k2, h⟩ := h
  obtain ⟨n9, h9⟩ := isK1 h9
  refine q_callI (run_V (As := []) (rest := []) S hZ hG hS (s_M_thrown h) tw_802 tw_799 tw_800 tw_801 tw_8 nk_M_thrown h9 (by decide) rfl ⟨Nat.le_of_ble_eq_true rfl, Nat.le_of_ble_eq_true rfl⟩ rfl hl274.1 rfl (by decide) d_L_law_563 ⟨k1, k2⟩) hS (fun x278 g277 H locs h285 hG hS => ?_)
  have hk := And.intro k1 k2
  replace h := h285
  refine lv_iload hx hb d_L_law_566 (lv_at hl274 1 rfl) ?_
  refine lv_icmp_eq (tgt := 573) hx hb d_L_law_568 (by decide) (fun c9 => ?_) (fun c9 => ?_)
  · replace h := h.1 c9
    refine lv_iload hx hb d_L_law_573 (lv_at hl274 1 rfl) ?_
    refine lv_if_ne (tgt := 590) hx hb d_L_law_575 (by decide) (fun c9 => ?_) (fun c9 => ?_)
    · replace h := h.1 c9
      refine lv_goto (tgt := 829) hx hb d_L_law_590 (by decide) ?_
      refine q_iinc (k := 6) (v := v4 + (5 : Int32)) (lv' := [(4, .int (v4 + (5 : Int32))), (6, .int x273), (5, .int x262), (0, .ref b), (1, va_rf v1), (2, .ref a268), (3, va_rf v3)]) hx hb d_L_law_829 hl274 rfl rfl (by decide) (.n (.k 0 rfl (by decide) (by decide) (.k 1 rfl (by decide) (by decide) (.k 2 rfl (by decide) (by decide) (.k 3 rfl (by decide) (by decide) (.k 4 rfl (by decide) (by decide) (.c 5 rfl (by decide) (rf_cat _) .e))))))) (fun ls279 hl279 => ?_)
      refine lv_goto (tgt := 23) hx hb d_L_law_832 (by decide) ?_
      exact hk_23 _ _ _ _ _ _ _ _ _ _ hk h hG hS (lv_sub hl279 [3, 4, 5, 6, 0] rfl)
    · replace h := h.2 c9
      refine q_aload_n hx hb d_L_law_578 rfl (lv_at hl274 5 rfl) ?_
      refine lv_iconst (v := (0 : Int32)) hx hb d_L_law_579 (by decide) ?_
      obtain ⟨a280, e9, h⟩ := h
      subst e9
      have hl281 : lv_has ls274 8 [(6, .int x273), (5, .int x262), (0, .ref b), (1, va_rf v1), (2, .ref a268), (3, .ref a280), (4, .int v4)] := hl274
      obtain ⟨j282, h9, h⟩ := h
      refine r_lald S hZ hG h9 d_L_law_580 (fun x283 e9 => ?_)
      replace h := h x283 e9
      refine lv_iload hx hb d_L_law_581 (lv_at hl281 0 rfl) ?_
      refine lv_i2l hx hb d_L_law_583 rfl ?_
      refine W.lcmp hx hb d_L_law_584 ?_
      refine lv_if_eq (tgt := 590) hx hb d_L_law_585 (by decide) (fun c9 => ?_) (fun c9 => ?_)
      · replace h := h.1 c9
        refine lv_goto (tgt := 829) hx hb d_L_law_590 (by decide) ?_
        refine q_iinc (k := 6) (v := v4 + (5 : Int32)) (lv' := [(4, .int (v4 + (5 : Int32))), (6, .int x273), (5, .int x262), (0, .ref b), (1, va_rf v1), (2, .ref a268), (3, .ref a280)]) hx hb d_L_law_829 hl281 rfl rfl (by decide) (.n (.k 0 rfl (by decide) (by decide) (.k 1 rfl (by decide) (by decide) (.k 2 rfl (by decide) (by decide) (.k 3 rfl (by decide) (by decide) (.k 4 rfl (by decide) (by decide) (.c 5 rfl (by decide) rfl .e))))))) (fun ls284 hl284 => ?_)
        refine lv_goto (tgt := 23) hx hb d_L_law_832 (by decide) ?_
        exact hk_23 _ _ _ _ _ _ _ _ _ _ hk h hG hS (lv_sub hl284 [3, 4, 5, 6, 0] rfl)
      · replace h := h.2 c9
        refine lv_iconst (v := (0 : Int32)) hx hb d_L_law_588 (by decide) ?_
        exact h.elim
  · replace h := h.2 c9
    refine lv_iconst (v := (0 : Int32)) hx hb d_L_law_571 (by decide) ?_
    exact h.elim
def w_L_law_593 (z mi mc ms L : Nat) (xs : Nat → Int32) (k_23 : Nat → Nat → Sg → Option Nat → Option Nat → Option Nat → Int32 → Prop) : Nat → Nat → Sg → Option Nat → Option Nat → Option Nat → Int32 → Prop := fun kc ks g v1 v2 v3 v4 => (∃ j289 : Nat, (v4 + (1 : Int32)) = nI j289 ∧ j289 < L ∧ ∀ x288 : Int32, x288 = xs j289 → (∃ c290 c291 : Nat, kc + c290 ≤ mc ∧ ks + c291 ≤ ms ∧ w_L_was z mi c290 c291 (fun (x293 : Int32) (g292 : Sg) => (∃ j296 : Nat, (v4 + (1 : Int32)) = nI j296 ∧ j296 < L ∧ ∀ x295 : Int32, x295 = xs j296 → ∃ a297, v2 = some a297 ∧ (isK g292 a297 [6] ∧ ∃ c299 c300 : Nat, (kc + c290) + c299 ≤ mc ∧ (ks + c291) + c300 ≤ ms ∧ w_M_was z mi c299 c300 (fun (x302 : Int32) (g301 : Sg) => (isK g301 a297 [6] ∧ ∃ c304 c305 : Nat, ((kc + c290) + c299) + c304 ≤ mc ∧ ((ks + c291) + c300) + c305 ≤ ms ∧ w_M_thrown z mi c304 c305 (fun (x307 : Int32) (g306 : Sg) => (x307 = x293 → (¬ x293 = 0 → k_23 (((kc + c290) + c299) + c304) (((ks + c291) + c300) + c305) g306 v1 (some a297) v3 (v4 + (5 : Int32))) ∧ (x293 = 0 → ∃ a309, v3 = some a309 ∧ (∃ j311 : Nat, inA g306 a309 103 (0 : Int32) j311 ∧ ∀ x312 : Int64, x312 = aL g306 a309 j311 → ((lg_cmp x312 (x302.toInt64)) = 0 → k_23 (((kc + c290) + c299) + c304) (((ks + c291) + c300) + c305) g306 v1 (some a297) (some a309) (v4 + (5 : Int32))) ∧ (¬ (lg_cmp x312 (x302.toInt64)) = 0 → False)))) ∧ (¬ x307 = x293 → False)) g301 a297)) g292 a297 x295))) g v1 x288 v3))
set_option maxHeartbeats 4000000 in
set_option maxRecDepth 100000 in
theorem s_L_law_593 {p : Program} {l : Launch} {e : Env} {s : State} {m : MethodId} {below : List Frame} {meth : Method} {c : Code} {D : va_G} {cA : Nat → ClassId} {z mi b L : Nat} {xs : Nat → Int32}  {k_23 : Nat → Nat → Sg → Option Nat → Option Nat → Option Nat → Int32 → Prop} (S : CallFix p m c code 8 s #[Value.ref b] TBL "WeaveCoreLaw") (hst : l.stackTraces = false) (hZ : Ws D cA s.heap.size z mi s) (hr : meth.sig.returnType = ret) (hlk : meth.locks = false) (hX : va_X b L xs s s.heap) (hbl : b < s.heap.size) (hL : L ≤ 2560) (hk_23 : ∀ (kc ks : Nat) (g : Sg) (v1 : Option Nat) (v2 : Option Nat) (v3 : Option Nat) (v4 : Int32) (H : Heap) (locs : List Loc) (ls : Array Slot), kc ≤ 601024 ∧ ks ≤ 7293034 → k_23 kc ks g v1 v2 v3 v4 → WP D cA s.heap.size g H → va_S (oA s.heap.size) s.heap H locs → lv_has ls 8 [(0, .ref b), (1, va_rf v1), (2, va_rf v2), (3, va_rf v3), (4, .int v4)] → W p l e room_1 s m #[Value.ref b] below meth c H locs kc ks (lw_Z below #[Value.ref b] s) (F0 m 23 ls [])) :
    ∀ (kc ks : Nat) (g : Sg) (v1 : Option Nat) (v2 : Option Nat) (v3 : Option Nat) (v4 : Int32) (H : Heap) (locs : List Loc) (ls : Array Slot), kc ≤ 601024 ∧ ks ≤ 7293034 → w_L_law_593 z mi 601024 7293034 L xs k_23 kc ks g v1 v2 v3 v4 → WP D cA s.heap.size g H → va_S (oA s.heap.size) s.heap H locs → lv_has ls 8 [(0, .ref b), (1, va_rf v1), (2, va_rf v2), (3, va_rf v3), (4, .int v4)] → W p l e room_1 s m #[Value.ref b] below meth c H locs kc ks (lw_Z below #[Value.ref b] s) (F0 m 593 ls []) := by
  obtain ⟨hx, hb, hml, hown, hts⟩ := id S
  intro kc ks g v1 v2 v3 v4 H locs ls hk h hG hS hl
  refine q_aload_n hx hb d_L_law_593 rfl (lv_at hl 1 rfl) ?_
  refine lv_aload_n hx hb d_L_law_594 rfl (lv_at hl 0 rfl) ?_
  refine lv_iload hx hb d_L_law_595 (lv_at hl 4 rfl) ?_
  refine lv_iconst (v := (1 : Int32)) hx hb d_L_law_597 (by decide) ?_
  refine lv_iadd hx hb d_L_law_598 ?_
  obtain ⟨j289, h9, h8, h⟩ := h
  refine r_sld S hX hbl hL hS h9 h8 d_L_law_599 (fun x288 e9 => ?_)
  replace h := h x288 e9
  refine q_aload_n hx hb d_L_law_600 rfl (lv_at hl 3 rfl) ?_
  obtain ⟨c290, c291, k1, k2, h⟩ := h
  refine q_callI (run_SW (As := [va_rf v1, .int x288, va_rf v3]) (rest := []) S hZ hG hS (s_L_was hst h) tw_653 tw_651 tw_652 tw_0 nk_L_was ⟨Nat.le_of_ble_eq_true rfl, Nat.le_of_ble_eq_true rfl⟩ rfl hl.1 rfl (by decide) d_L_law_601 ⟨k1, k2⟩) hS (fun x293 g292 H locs h316 hG hS => ?_)
  have hk := And.intro k1 k2
  replace h := h316
  refine q_istore (lv' := [(5, .int x293), (0, .ref b), (1, va_rf v1), (2, va_rf v2), (3, va_rf v3), (4, .int v4)]) hx hb d_L_law_604 hl (by decide) (.n (.k 0 rfl (by decide) (by decide) (.k 1 rfl (by decide) (by decide) (.k 2 rfl (by decide) (by decide) (.k 3 rfl (by decide) (by decide) (.c 4 rfl (by decide) rfl .e)))))) (fun ls294 hl294 => ?_)
  refine q_aload_n hx hb d_L_law_606 rfl (lv_at hl294 3 rfl) ?_
  refine lv_aload_n hx hb d_L_law_607 rfl (lv_at hl294 1 rfl) ?_
  refine lv_iload hx hb d_L_law_608 (lv_at hl294 5 rfl) ?_
  refine lv_iconst (v := (1 : Int32)) hx hb d_L_law_610 (by decide) ?_
  refine lv_iadd hx hb d_L_law_611 ?_
  obtain ⟨j296, h9, h8, h⟩ := h
  refine r_sld S hX hbl hL hS h9 h8 d_L_law_612 (fun x295 e9 => ?_)
  replace h := h x295 e9
  obtain ⟨a297, e9, h⟩ := h
  subst e9
  have hl298 : lv_has ls294 8 [(5, .int x293), (0, .ref b), (1, va_rf v1), (2, .ref a297), (3, va_rf v3), (4, .int v4)] := hl294
  obtain ⟨h9, h⟩ := h
  obtain ⟨c299, c300, k1, k2, h⟩ := h
  obtain ⟨n9, h9⟩ := isK1 h9
  refine q_callI (run_VW (As := [.int x295]) (rest := []) S hZ hG hS (s_M_was hst h) tw_1019 tw_1016 tw_1017 tw_1018 tw_8 nk_M_was h9 (by decide) rfl ⟨Nat.le_of_ble_eq_true rfl, Nat.le_of_ble_eq_true rfl⟩ rfl hl294.1 rfl (by decide) d_L_law_613 ⟨k1, k2⟩) hS (fun x302 g301 H locs h315 hG hS => ?_)
  have hk := And.intro k1 k2
  replace h := h315
  refine q_istore (lv' := [(6, .int x302), (5, .int x293), (0, .ref b), (1, va_rf v1), (2, .ref a297), (3, va_rf v3), (4, .int v4)]) hx hb d_L_law_616 hl298 (by decide) (.n (.c 0 rfl (by decide) rfl (.k 1 rfl (by decide) (by decide) (.k 2 rfl (by decide) (by decide) (.k 3 rfl (by decide) (by decide) (.k 4 rfl (by decide) (by decide) (.k 5 rfl (by decide) (by decide) .e))))))) (fun ls303 hl303 => ?_)
  refine lv_aload_n hx hb d_L_law_618 rfl (lv_at hl303 4 rfl) ?_
  obtain ⟨h9, h⟩ := h
  obtain ⟨c304, c305, k1, k2, h⟩ := h
  obtain ⟨n9, h9⟩ := isK1 h9
  refine q_callI (run_V (As := []) (rest := []) S hZ hG hS (s_M_thrown h) tw_802 tw_799 tw_800 tw_801 tw_8 nk_M_thrown h9 (by decide) rfl ⟨Nat.le_of_ble_eq_true rfl, Nat.le_of_ble_eq_true rfl⟩ rfl hl303.1 rfl (by decide) d_L_law_619 ⟨k1, k2⟩) hS (fun x307 g306 H locs h314 hG hS => ?_)
  have hk := And.intro k1 k2
  replace h := h314
  refine lv_iload hx hb d_L_law_622 (lv_at hl303 1 rfl) ?_
  refine lv_icmp_eq (tgt := 629) hx hb d_L_law_624 (by decide) (fun c9 => ?_) (fun c9 => ?_)
  · replace h := h.1 c9
    refine lv_iload hx hb d_L_law_629 (lv_at hl303 1 rfl) ?_
    refine lv_if_ne (tgt := 646) hx hb d_L_law_631 (by decide) (fun c9 => ?_) (fun c9 => ?_)
    · replace h := h.1 c9
      refine lv_goto (tgt := 829) hx hb d_L_law_646 (by decide) ?_
      refine q_iinc (k := 6) (v := v4 + (5 : Int32)) (lv' := [(4, .int (v4 + (5 : Int32))), (6, .int x302), (5, .int x293), (0, .ref b), (1, va_rf v1), (2, .ref a297), (3, va_rf v3)]) hx hb d_L_law_829 hl303 rfl rfl (by decide) (.n (.k 0 rfl (by decide) (by decide) (.k 1 rfl (by decide) (by decide) (.k 2 rfl (by decide) (by decide) (.k 3 rfl (by decide) (by decide) (.k 4 rfl (by decide) (by decide) (.c 5 rfl (by decide) (rf_cat _) .e))))))) (fun ls308 hl308 => ?_)
      refine lv_goto (tgt := 23) hx hb d_L_law_832 (by decide) ?_
      exact hk_23 _ _ _ _ _ _ _ _ _ _ hk h hG hS (lv_sub hl308 [3, 4, 5, 6, 0] rfl)
    · replace h := h.2 c9
      refine q_aload_n hx hb d_L_law_634 rfl (lv_at hl303 5 rfl) ?_
      refine lv_iconst (v := (0 : Int32)) hx hb d_L_law_635 (by decide) ?_
      obtain ⟨a309, e9, h⟩ := h
      subst e9
      have hl310 : lv_has ls303 8 [(6, .int x302), (5, .int x293), (0, .ref b), (1, va_rf v1), (2, .ref a297), (3, .ref a309), (4, .int v4)] := hl303
      obtain ⟨j311, h9, h⟩ := h
      refine r_lald S hZ hG h9 d_L_law_636 (fun x312 e9 => ?_)
      replace h := h x312 e9
      refine lv_iload hx hb d_L_law_637 (lv_at hl310 0 rfl) ?_
      refine lv_i2l hx hb d_L_law_639 rfl ?_
      refine W.lcmp hx hb d_L_law_640 ?_
      refine lv_if_eq (tgt := 646) hx hb d_L_law_641 (by decide) (fun c9 => ?_) (fun c9 => ?_)
      · replace h := h.1 c9
        refine lv_goto (tgt := 829) hx hb d_L_law_646 (by decide) ?_
        refine q_iinc (k := 6) (v := v4 + (5 : Int32)) (lv' := [(4, .int (v4 + (5 : Int32))), (6, .int x302), (5, .int x293), (0, .ref b), (1, va_rf v1), (2, .ref a297), (3, .ref a309)]) hx hb d_L_law_829 hl310 rfl rfl (by decide) (.n (.k 0 rfl (by decide) (by decide) (.k 1 rfl (by decide) (by decide) (.k 2 rfl (by decide) (by decide) (.k 3 rfl (by decide) (by decide) (.k 4 rfl (by decide) (by decide) (.c 5 rfl (by decide) rfl .e))))))) (fun ls313 hl313 => ?_)
        refine lv_goto (tgt := 23) hx hb d_L_law_832 (by decide) ?_
        exact hk_23 _ _ _ _ _ _ _ _ _ _ hk h hG hS (lv_sub hl313 [3, 4, 5, 6, 0] rfl)
      · replace h := h.2 c9
        refine lv_iconst (v := (0 : Int32)) hx hb d_L_law_644 (by decide) ?_
        exact h.elim
  · replace h := h.2 c9
    refine lv_iconst (v := (0 : Int32)) hx hb d_L_law_627 (by decide) ?_
    exact h.elim
def w_L_law_649 (z mi mc ms L : Nat) (xs : Nat → Int32) (k_23 : Nat → Nat → Sg → Option Nat → Option Nat → Option Nat → Int32 → Prop) : Nat → Nat → Sg → Option Nat → Option Nat → Option Nat → Int32 → Prop := fun kc ks g v1 v2 v3 v4 => (∃ j318 : Nat, (v4 + (1 : Int32)) = nI j318 ∧ j318 < L ∧ ∀ x317 : Int32, x317 = xs j318 → (∃ j320 : Nat, (v4 + (2 : Int32)) = nI j320 ∧ j320 < L ∧ ∀ x319 : Int32, x319 = xs j320 → (∃ c321 c322 : Nat, kc + c321 ≤ mc ∧ ks + c322 ≤ ms ∧ w_L_wasAt z mi c321 c322 (fun (x324 : Int32) (g323 : Sg) => (∃ j327 : Nat, (v4 + (1 : Int32)) = nI j327 ∧ j327 < L ∧ ∀ x326 : Int32, x326 = xs j327 → (∃ j329 : Nat, (v4 + (2 : Int32)) = nI j329 ∧ j329 < L ∧ ∀ x328 : Int32, x328 = xs j329 → ∃ a330, v2 = some a330 ∧ (isK g323 a330 [6] ∧ ∃ c332 c333 : Nat, (kc + c321) + c332 ≤ mc ∧ (ks + c322) + c333 ≤ ms ∧ w_M_wasAt z mi c332 c333 (fun (x335 : Int32) (g334 : Sg) => (isK g334 a330 [6] ∧ ∃ c337 c338 : Nat, ((kc + c321) + c332) + c337 ≤ mc ∧ ((ks + c322) + c333) + c338 ≤ ms ∧ w_M_thrown z mi c337 c338 (fun (x340 : Int32) (g339 : Sg) => (x340 = x324 → (¬ x324 = 0 → k_23 (((kc + c321) + c332) + c337) (((ks + c322) + c333) + c338) g339 v1 (some a330) v3 (v4 + (5 : Int32))) ∧ (x324 = 0 → ∃ a342, v3 = some a342 ∧ (∃ j344 : Nat, inA g339 a342 103 (0 : Int32) j344 ∧ ∀ x345 : Int64, x345 = aL g339 a342 j344 → ((lg_cmp x345 (x335.toInt64)) = 0 → k_23 (((kc + c321) + c332) + c337) (((ks + c322) + c333) + c338) g339 v1 (some a330) (some a342) (v4 + (5 : Int32))) ∧ (¬ (lg_cmp x345 (x335.toInt64)) = 0 → False)))) ∧ (¬ x340 = x324 → False)) g334 a330)) g323 a330 x326 x328)))) g v1 x317 x319 v3)))
set_option maxHeartbeats 4000000 in
set_option maxRecDepth 100000 in
theorem s_L_law_649 {p : Program} {l : Launch} {e : Env} {s : State} {m : MethodId} {below : List Frame} {meth : Method} {c : Code} {D : va_G} {cA : Nat → ClassId} {z mi b L : Nat} {xs : Nat → Int32}  {k_23 : Nat → Nat → Sg → Option Nat → Option Nat → Option Nat → Int32 → Prop} (S : CallFix p m c code 8 s #[Value.ref b] TBL "WeaveCoreLaw") (hst : l.stackTraces = false) (hZ : Ws D cA s.heap.size z mi s) (hr : meth.sig.returnType = ret) (hlk : meth.locks = false) (hX : va_X b L xs s s.heap) (hbl : b < s.heap.size) (hL : L ≤ 2560) (hk_23 : ∀ (kc ks : Nat) (g : Sg) (v1 : Option Nat) (v2 : Option Nat) (v3 : Option Nat) (v4 : Int32) (H : Heap) (locs : List Loc) (ls : Array Slot), kc ≤ 601024 ∧ ks ≤ 7293034 → k_23 kc ks g v1 v2 v3 v4 → WP D cA s.heap.size g H → va_S (oA s.heap.size) s.heap H locs → lv_has ls 8 [(0, .ref b), (1, va_rf v1), (2, va_rf v2), (3, va_rf v3), (4, .int v4)] → W p l e room_1 s m #[Value.ref b] below meth c H locs kc ks (lw_Z below #[Value.ref b] s) (F0 m 23 ls [])) :
    ∀ (kc ks : Nat) (g : Sg) (v1 : Option Nat) (v2 : Option Nat) (v3 : Option Nat) (v4 : Int32) (H : Heap) (locs : List Loc) (ls : Array Slot), kc ≤ 601024 ∧ ks ≤ 7293034 → w_L_law_649 z mi 601024 7293034 L xs k_23 kc ks g v1 v2 v3 v4 → WP D cA s.heap.size g H → va_S (oA s.heap.size) s.heap H locs → lv_has ls 8 [(0, .ref b), (1, va_rf v1), (2, va_rf v2), (3, va_rf v3), (4, .int v4)] → W p l e room_1 s m #[Value.ref b] below meth c H locs kc ks (lw_Z below #[Value.ref b] s) (F0 m 649 ls []) := by
  obtain ⟨hx, hb, hml, hown, hts⟩ := id S
  intro kc ks g v1 v2 v3 v4 H locs ls hk h hG hS hl
  refine q_aload_n hx hb d_L_law_649 rfl (lv_at hl 1 rfl) ?_
  refine lv_aload_n hx hb d_L_law_650 rfl (lv_at hl 0 rfl) ?_
  refine lv_iload hx hb d_L_law_651 (lv_at hl 4 rfl) ?_
  refine lv_iconst (v := (1 : Int32)) hx hb d_L_law_653 (by decide) ?_
  refine lv_iadd hx hb d_L_law_654 ?_
  obtain ⟨j318, h9, h8, h⟩ := h
  refine r_sld S hX hbl hL hS h9 h8 d_L_law_655 (fun x317 e9 => ?_)
  replace h := h x317 e9
  refine lv_aload_n hx hb d_L_law_656 rfl (lv_at hl 0 rfl) ?_
  refine lv_iload hx hb d_L_law_657 (lv_at hl 4 rfl) ?_
  refine lv_iconst (v := (2 : Int32)) hx hb d_L_law_659 (by decide) ?_
  refine lv_iadd hx hb d_L_law_660 ?_
  obtain ⟨j320, h9, h8, h⟩ := h
  refine r_sld S hX hbl hL hS h9 h8 d_L_law_661 (fun x319 e9 => ?_)
  replace h := h x319 e9
  refine q_aload_n hx hb d_L_law_662 rfl (lv_at hl 3 rfl) ?_
  obtain ⟨c321, c322, k1, k2, h⟩ := h
  refine q_callI (run_SW (As := [va_rf v1, .int x317, .int x319, va_rf v3]) (rest := []) S hZ hG hS (s_L_wasAt hst h) tw_664 tw_662 tw_663 tw_0 nk_L_wasAt ⟨Nat.le_of_ble_eq_true rfl, Nat.le_of_ble_eq_true rfl⟩ rfl hl.1 rfl (by decide) d_L_law_663 ⟨k1, k2⟩) hS (fun x324 g323 H locs h349 hG hS => ?_)
  have hk := And.intro k1 k2
  replace h := h349
  refine q_istore (lv' := [(5, .int x324), (0, .ref b), (1, va_rf v1), (2, va_rf v2), (3, va_rf v3), (4, .int v4)]) hx hb d_L_law_666 hl (by decide) (.n (.k 0 rfl (by decide) (by decide) (.k 1 rfl (by decide) (by decide) (.k 2 rfl (by decide) (by decide) (.k 3 rfl (by decide) (by decide) (.c 4 rfl (by decide) rfl .e)))))) (fun ls325 hl325 => ?_)
  refine q_aload_n hx hb d_L_law_668 rfl (lv_at hl325 3 rfl) ?_
  refine lv_aload_n hx hb d_L_law_669 rfl (lv_at hl325 1 rfl) ?_
  refine lv_iload hx hb d_L_law_670 (lv_at hl325 5 rfl) ?_
  refine lv_iconst (v := (1 : Int32)) hx hb d_L_law_672 (by decide) ?_
  refine lv_iadd hx hb d_L_law_673 ?_
  obtain ⟨j327, h9, h8, h⟩ := h
  refine r_sld S hX hbl hL hS h9 h8 d_L_law_674 (fun x326 e9 => ?_)
  replace h := h x326 e9
  refine lv_aload_n hx hb d_L_law_675 rfl (lv_at hl325 1 rfl) ?_
  refine lv_iload hx hb d_L_law_676 (lv_at hl325 5 rfl) ?_
  refine lv_iconst (v := (2 : Int32)) hx hb d_L_law_678 (by decide) ?_
  refine lv_iadd hx hb d_L_law_679 ?_
  obtain ⟨j329, h9, h8, h⟩ := h
  refine r_sld S hX hbl hL hS h9 h8 d_L_law_680 (fun x328 e9 => ?_)
  replace h := h x328 e9
  obtain ⟨a330, e9, h⟩ := h
  subst e9
  have hl331 : lv_has ls325 8 [(5, .int x324), (0, .ref b), (1, va_rf v1), (2, .ref a330), (3, va_rf v3), (4, .int v4)] := hl325
  obtain ⟨h9, h⟩ := h
  obtain ⟨c332, c333, k1, k2, h⟩ := h
  obtain ⟨n9, h9⟩ := isK1 h9
  refine q_callI (run_VW (As := [.int x326, .int x328]) (rest := []) S hZ hG hS (s_M_wasAt hst h) tw_1031 tw_1028 tw_1029 tw_1030 tw_8 nk_M_wasAt h9 (by decide) rfl ⟨Nat.le_of_ble_eq_true rfl, Nat.le_of_ble_eq_true rfl⟩ rfl hl325.1 rfl (by decide) d_L_law_681 ⟨k1, k2⟩) hS (fun x335 g334 H locs h348 hG hS => ?_)
  have hk := And.intro k1 k2
  replace h := h348
  refine q_istore (lv' := [(6, .int x335), (5, .int x324), (0, .ref b), (1, va_rf v1), (2, .ref a330), (3, va_rf v3), (4, .int v4)]) hx hb d_L_law_684 hl331 (by decide) (.n (.c 0 rfl (by decide) rfl (.k 1 rfl (by decide) (by decide) (.k 2 rfl (by decide) (by decide) (.k 3 rfl (by decide) (by decide) (.k 4 rfl (by decide) (by decide) (.k 5 rfl (by decide) (by decide) .e))))))) (fun ls336 hl336 => ?_)
  refine lv_aload_n hx hb d_L_law_686 rfl (lv_at hl336 4 rfl) ?_
  obtain ⟨h9, h⟩ := h
  obtain ⟨c337, c338, k1, k2, h⟩ := h
  obtain ⟨n9, h9⟩ := isK1 h9
  refine q_callI (run_V (As := []) (rest := []) S hZ hG hS (s_M_thrown h) tw_802 tw_799 tw_800 tw_801 tw_8 nk_M_thrown h9 (by decide) rfl ⟨Nat.le_of_ble_eq_true rfl, Nat.le_of_ble_eq_true rfl⟩ rfl hl336.1 rfl (by decide) d_L_law_687 ⟨k1, k2⟩) hS (fun x340 g339 H locs h347 hG hS => ?_)
  have hk := And.intro k1 k2
  replace h := h347
  refine lv_iload hx hb d_L_law_690 (lv_at hl336 1 rfl) ?_
  refine lv_icmp_eq (tgt := 697) hx hb d_L_law_692 (by decide) (fun c9 => ?_) (fun c9 => ?_)
  · replace h := h.1 c9
    refine lv_iload hx hb d_L_law_697 (lv_at hl336 1 rfl) ?_
    refine lv_if_ne (tgt := 714) hx hb d_L_law_699 (by decide) (fun c9 => ?_) (fun c9 => ?_)
    · replace h := h.1 c9
      refine lv_goto (tgt := 829) hx hb d_L_law_714 (by decide) ?_
      refine q_iinc (k := 6) (v := v4 + (5 : Int32)) (lv' := [(4, .int (v4 + (5 : Int32))), (6, .int x335), (5, .int x324), (0, .ref b), (1, va_rf v1), (2, .ref a330), (3, va_rf v3)]) hx hb d_L_law_829 hl336 rfl rfl (by decide) (.n (.k 0 rfl (by decide) (by decide) (.k 1 rfl (by decide) (by decide) (.k 2 rfl (by decide) (by decide) (.k 3 rfl (by decide) (by decide) (.k 4 rfl (by decide) (by decide) (.c 5 rfl (by decide) (rf_cat _) .e))))))) (fun ls341 hl341 => ?_)
      refine lv_goto (tgt := 23) hx hb d_L_law_832 (by decide) ?_
      exact hk_23 _ _ _ _ _ _ _ _ _ _ hk h hG hS (lv_sub hl341 [3, 4, 5, 6, 0] rfl)
    · replace h := h.2 c9
      refine q_aload_n hx hb d_L_law_702 rfl (lv_at hl336 5 rfl) ?_
      refine lv_iconst (v := (0 : Int32)) hx hb d_L_law_703 (by decide) ?_
      obtain ⟨a342, e9, h⟩ := h
      subst e9
      have hl343 : lv_has ls336 8 [(6, .int x335), (5, .int x324), (0, .ref b), (1, va_rf v1), (2, .ref a330), (3, .ref a342), (4, .int v4)] := hl336
      obtain ⟨j344, h9, h⟩ := h
      refine r_lald S hZ hG h9 d_L_law_704 (fun x345 e9 => ?_)
      replace h := h x345 e9
      refine lv_iload hx hb d_L_law_705 (lv_at hl343 0 rfl) ?_
      refine lv_i2l hx hb d_L_law_707 rfl ?_
      refine W.lcmp hx hb d_L_law_708 ?_
      refine lv_if_eq (tgt := 714) hx hb d_L_law_709 (by decide) (fun c9 => ?_) (fun c9 => ?_)
      · replace h := h.1 c9
        refine lv_goto (tgt := 829) hx hb d_L_law_714 (by decide) ?_
        refine q_iinc (k := 6) (v := v4 + (5 : Int32)) (lv' := [(4, .int (v4 + (5 : Int32))), (6, .int x335), (5, .int x324), (0, .ref b), (1, va_rf v1), (2, .ref a330), (3, .ref a342)]) hx hb d_L_law_829 hl343 rfl rfl (by decide) (.n (.k 0 rfl (by decide) (by decide) (.k 1 rfl (by decide) (by decide) (.k 2 rfl (by decide) (by decide) (.k 3 rfl (by decide) (by decide) (.k 4 rfl (by decide) (by decide) (.c 5 rfl (by decide) rfl .e))))))) (fun ls346 hl346 => ?_)
        refine lv_goto (tgt := 23) hx hb d_L_law_832 (by decide) ?_
        exact hk_23 _ _ _ _ _ _ _ _ _ _ hk h hG hS (lv_sub hl346 [3, 4, 5, 6, 0] rfl)
      · replace h := h.2 c9
        refine lv_iconst (v := (0 : Int32)) hx hb d_L_law_712 (by decide) ?_
        exact h.elim
  · replace h := h.2 c9
    refine lv_iconst (v := (0 : Int32)) hx hb d_L_law_695 (by decide) ?_
    exact h.elim
def w_L_law_717 (z mi mc ms L : Nat) (xs : Nat → Int32) (k_23 : Nat → Nat → Sg → Option Nat → Option Nat → Option Nat → Int32 → Prop) : Nat → Nat → Sg → Option Nat → Option Nat → Option Nat → Int32 → Prop := fun kc ks g v1 v2 v3 v4 => (∃ j351 : Nat, (v4 + (1 : Int32)) = nI j351 ∧ j351 < L ∧ ∀ x350 : Int32, x350 = xs j351 → (∃ c352 c353 : Nat, kc + c352 ≤ mc ∧ ks + c353 ≤ ms ∧ w_L_line z mi c352 c353 (fun (x355 : Int32) (g354 : Sg) => (∃ j358 : Nat, (v4 + (1 : Int32)) = nI j358 ∧ j358 < L ∧ ∀ x357 : Int32, x357 = xs j358 → ∃ a359, v2 = some a359 ∧ (isK g354 a359 [6] ∧ ∃ c361 c362 : Nat, (kc + c352) + c361 ≤ mc ∧ (ks + c353) + c362 ≤ ms ∧ w_M_line z mi c361 c362 (fun (x364 : Int32) (g363 : Sg) => (isK g363 a359 [6] ∧ ∃ c366 c367 : Nat, ((kc + c352) + c361) + c366 ≤ mc ∧ ((ks + c353) + c362) + c367 ≤ ms ∧ w_M_thrown z mi c366 c367 (fun (x369 : Int32) (g368 : Sg) => (x369 = x355 → (¬ x355 = 0 → k_23 (((kc + c352) + c361) + c366) (((ks + c353) + c362) + c367) g368 v1 (some a359) v3 (v4 + (5 : Int32))) ∧ (x355 = 0 → ∃ a371, v3 = some a371 ∧ (∃ j373 : Nat, inA g368 a371 103 (0 : Int32) j373 ∧ ∀ x374 : Int64, x374 = aL g368 a371 j373 → ((lg_cmp x374 (x364.toInt64)) = 0 → k_23 (((kc + c352) + c361) + c366) (((ks + c353) + c362) + c367) g368 v1 (some a359) (some a371) (v4 + (5 : Int32))) ∧ (¬ (lg_cmp x374 (x364.toInt64)) = 0 → False)))) ∧ (¬ x369 = x355 → False)) g363 a359)) g354 a359 x357))) g v1 x350 v3))
set_option maxHeartbeats 4000000 in
set_option maxRecDepth 100000 in
theorem s_L_law_717 {p : Program} {l : Launch} {e : Env} {s : State} {m : MethodId} {below : List Frame} {meth : Method} {c : Code} {D : va_G} {cA : Nat → ClassId} {z mi b L : Nat} {xs : Nat → Int32}  {k_23 : Nat → Nat → Sg → Option Nat → Option Nat → Option Nat → Int32 → Prop} (S : CallFix p m c code 8 s #[Value.ref b] TBL "WeaveCoreLaw") (hst : l.stackTraces = false) (hZ : Ws D cA s.heap.size z mi s) (hr : meth.sig.returnType = ret) (hlk : meth.locks = false) (hX : va_X b L xs s s.heap) (hbl : b < s.heap.size) (hL : L ≤ 2560) (hk_23 : ∀ (kc ks : Nat) (g : Sg) (v1 : Option Nat) (v2 : Option Nat) (v3 : Option Nat) (v4 : Int32) (H : Heap) (locs : List Loc) (ls : Array Slot), kc ≤ 601024 ∧ ks ≤ 7293034 → k_23 kc ks g v1 v2 v3 v4 → WP D cA s.heap.size g H → va_S (oA s.heap.size) s.heap H locs → lv_has ls 8 [(0, .ref b), (1, va_rf v1), (2, va_rf v2), (3, va_rf v3), (4, .int v4)] → W p l e room_1 s m #[Value.ref b] below meth c H locs kc ks (lw_Z below #[Value.ref b] s) (F0 m 23 ls [])) :
    ∀ (kc ks : Nat) (g : Sg) (v1 : Option Nat) (v2 : Option Nat) (v3 : Option Nat) (v4 : Int32) (H : Heap) (locs : List Loc) (ls : Array Slot), kc ≤ 601024 ∧ ks ≤ 7293034 → w_L_law_717 z mi 601024 7293034 L xs k_23 kc ks g v1 v2 v3 v4 → WP D cA s.heap.size g H → va_S (oA s.heap.size) s.heap H locs → lv_has ls 8 [(0, .ref b), (1, va_rf v1), (2, va_rf v2), (3, va_rf v3), (4, .int v4)] → W p l e room_1 s m #[Value.ref b] below meth c H locs kc ks (lw_Z below #[Value.ref b] s) (F0 m 717 ls []) := by
  obtain ⟨hx, hb, hml, hown, hts⟩ := id S
  intro kc ks g v1 v2 v3 v4 H locs ls hk h hG hS hl
  refine q_aload_n hx hb d_L_law_717 rfl (lv_at hl 1 rfl) ?_
  refine lv_aload_n hx hb d_L_law_718 rfl (lv_at hl 0 rfl) ?_
  refine lv_iload hx hb d_L_law_719 (lv_at hl 4 rfl) ?_
  refine lv_iconst (v := (1 : Int32)) hx hb d_L_law_721 (by decide) ?_
  refine lv_iadd hx hb d_L_law_722 ?_
  obtain ⟨j351, h9, h8, h⟩ := h
  refine r_sld S hX hbl hL hS h9 h8 d_L_law_723 (fun x350 e9 => ?_)
  replace h := h x350 e9
  refine q_aload_n hx hb d_L_law_724 rfl (lv_at hl 3 rfl) ?_
  obtain ⟨c352, c353, k1, k2, h⟩ := h
  refine q_callI (run_SW (As := [va_rf v1, .int x350, va_rf v3]) (rest := []) S hZ hG hS (s_L_line hst h) tw_671 tw_669 tw_670 tw_0 nk_L_line ⟨Nat.le_of_ble_eq_true rfl, Nat.le_of_ble_eq_true rfl⟩ rfl hl.1 rfl (by decide) d_L_law_725 ⟨k1, k2⟩) hS (fun x355 g354 H locs h378 hG hS => ?_)
  have hk := And.intro k1 k2
  replace h := h378
  refine q_istore (lv' := [(5, .int x355), (0, .ref b), (1, va_rf v1), (2, va_rf v2), (3, va_rf v3), (4, .int v4)]) hx hb d_L_law_728 hl (by decide) (.n (.k 0 rfl (by decide) (by decide) (.k 1 rfl (by decide) (by decide) (.k 2 rfl (by decide) (by decide) (.k 3 rfl (by decide) (by decide) (.c 4 rfl (by decide) rfl .e)))))) (fun ls356 hl356 => ?_)
  refine q_aload_n hx hb d_L_law_730 rfl (lv_at hl356 3 rfl) ?_
  refine lv_aload_n hx hb d_L_law_731 rfl (lv_at hl356 1 rfl) ?_
  refine lv_iload hx hb d_L_law_732 (lv_at hl356 5 rfl) ?_
  refine lv_iconst (v := (1 : Int32)) hx hb d_L_law_734 (by decide) ?_
  refine lv_iadd hx hb d_L_law_735 ?_
  obtain ⟨j358, h9, h8, h⟩ := h
  refine r_sld S hX hbl hL hS h9 h8 d_L_law_736 (fun x357 e9 => ?_)
  replace h := h x357 e9
  obtain ⟨a359, e9, h⟩ := h
  subst e9
  have hl360 : lv_has ls356 8 [(5, .int x355), (0, .ref b), (1, va_rf v1), (2, .ref a359), (3, va_rf v3), (4, .int v4)] := hl356
  obtain ⟨h9, h⟩ := h
  obtain ⟨c361, c362, k1, k2, h⟩ := h
  obtain ⟨n9, h9⟩ := isK1 h9
  refine q_callI (run_VW (As := [.int x357]) (rest := []) S hZ hG hS (s_M_line hst h) tw_1039 tw_1036 tw_1037 tw_1038 tw_8 nk_M_line h9 (by decide) rfl ⟨Nat.le_of_ble_eq_true rfl, Nat.le_of_ble_eq_true rfl⟩ rfl hl356.1 rfl (by decide) d_L_law_737 ⟨k1, k2⟩) hS (fun x364 g363 H locs h377 hG hS => ?_)
  have hk := And.intro k1 k2
  replace h := h377
  refine q_istore (lv' := [(6, .int x364), (5, .int x355), (0, .ref b), (1, va_rf v1), (2, .ref a359), (3, va_rf v3), (4, .int v4)]) hx hb d_L_law_740 hl360 (by decide) (.n (.c 0 rfl (by decide) rfl (.k 1 rfl (by decide) (by decide) (.k 2 rfl (by decide) (by decide) (.k 3 rfl (by decide) (by decide) (.k 4 rfl (by decide) (by decide) (.k 5 rfl (by decide) (by decide) .e))))))) (fun ls365 hl365 => ?_)
  refine lv_aload_n hx hb d_L_law_742 rfl (lv_at hl365 4 rfl) ?_
  obtain ⟨h9, h⟩ := h
  obtain ⟨c366, c367, k1, k2, h⟩ := h
  obtain ⟨n9, h9⟩ := isK1 h9
  refine q_callI (run_V (As := []) (rest := []) S hZ hG hS (s_M_thrown h) tw_802 tw_799 tw_800 tw_801 tw_8 nk_M_thrown h9 (by decide) rfl ⟨Nat.le_of_ble_eq_true rfl, Nat.le_of_ble_eq_true rfl⟩ rfl hl365.1 rfl (by decide) d_L_law_743 ⟨k1, k2⟩) hS (fun x369 g368 H locs h376 hG hS => ?_)
  have hk := And.intro k1 k2
  replace h := h376
  refine lv_iload hx hb d_L_law_746 (lv_at hl365 1 rfl) ?_
  refine lv_icmp_eq (tgt := 753) hx hb d_L_law_748 (by decide) (fun c9 => ?_) (fun c9 => ?_)
  · replace h := h.1 c9
    refine lv_iload hx hb d_L_law_753 (lv_at hl365 1 rfl) ?_
    refine lv_if_ne (tgt := 770) hx hb d_L_law_755 (by decide) (fun c9 => ?_) (fun c9 => ?_)
    · replace h := h.1 c9
      refine lv_goto (tgt := 829) hx hb d_L_law_770 (by decide) ?_
      refine q_iinc (k := 6) (v := v4 + (5 : Int32)) (lv' := [(4, .int (v4 + (5 : Int32))), (6, .int x364), (5, .int x355), (0, .ref b), (1, va_rf v1), (2, .ref a359), (3, va_rf v3)]) hx hb d_L_law_829 hl365 rfl rfl (by decide) (.n (.k 0 rfl (by decide) (by decide) (.k 1 rfl (by decide) (by decide) (.k 2 rfl (by decide) (by decide) (.k 3 rfl (by decide) (by decide) (.k 4 rfl (by decide) (by decide) (.c 5 rfl (by decide) (rf_cat _) .e))))))) (fun ls370 hl370 => ?_)
      refine lv_goto (tgt := 23) hx hb d_L_law_832 (by decide) ?_
      exact hk_23 _ _ _ _ _ _ _ _ _ _ hk h hG hS (lv_sub hl370 [3, 4, 5, 6, 0] rfl)
    · replace h := h.2 c9
      refine q_aload_n hx hb d_L_law_758 rfl (lv_at hl365 5 rfl) ?_
      refine lv_iconst (v := (0 : Int32)) hx hb d_L_law_759 (by decide) ?_
      obtain ⟨a371, e9, h⟩ := h
      subst e9
      have hl372 : lv_has ls365 8 [(6, .int x364), (5, .int x355), (0, .ref b), (1, va_rf v1), (2, .ref a359), (3, .ref a371), (4, .int v4)] := hl365
      obtain ⟨j373, h9, h⟩ := h
      refine r_lald S hZ hG h9 d_L_law_760 (fun x374 e9 => ?_)
      replace h := h x374 e9
      refine lv_iload hx hb d_L_law_761 (lv_at hl372 0 rfl) ?_
      refine lv_i2l hx hb d_L_law_763 rfl ?_
      refine W.lcmp hx hb d_L_law_764 ?_
      refine lv_if_eq (tgt := 770) hx hb d_L_law_765 (by decide) (fun c9 => ?_) (fun c9 => ?_)
      · replace h := h.1 c9
        refine lv_goto (tgt := 829) hx hb d_L_law_770 (by decide) ?_
        refine q_iinc (k := 6) (v := v4 + (5 : Int32)) (lv' := [(4, .int (v4 + (5 : Int32))), (6, .int x364), (5, .int x355), (0, .ref b), (1, va_rf v1), (2, .ref a359), (3, .ref a371)]) hx hb d_L_law_829 hl372 rfl rfl (by decide) (.n (.k 0 rfl (by decide) (by decide) (.k 1 rfl (by decide) (by decide) (.k 2 rfl (by decide) (by decide) (.k 3 rfl (by decide) (by decide) (.k 4 rfl (by decide) (by decide) (.c 5 rfl (by decide) rfl .e))))))) (fun ls375 hl375 => ?_)
        refine lv_goto (tgt := 23) hx hb d_L_law_832 (by decide) ?_
        exact hk_23 _ _ _ _ _ _ _ _ _ _ hk h hG hS (lv_sub hl375 [3, 4, 5, 6, 0] rfl)
      · replace h := h.2 c9
        refine lv_iconst (v := (0 : Int32)) hx hb d_L_law_768 (by decide) ?_
        exact h.elim
  · replace h := h.2 c9
    refine lv_iconst (v := (0 : Int32)) hx hb d_L_law_751 (by decide) ?_
    exact h.elim
def w_L_law_773 (z mi mc ms L : Nat) (xs : Nat → Int32) (k_23 : Nat → Nat → Sg → Option Nat → Option Nat → Option Nat → Int32 → Prop) : Nat → Nat → Sg → Option Nat → Option Nat → Option Nat → Int32 → Prop := fun kc ks g v1 v2 v3 v4 => (∃ j380 : Nat, (v4 + (1 : Int32)) = nI j380 ∧ j380 < L ∧ ∀ x379 : Int32, x379 = xs j380 → (∃ c381 c382 : Nat, kc + c381 ≤ mc ∧ ks + c382 ≤ ms ∧ w_L_events z mi c381 c382 (fun (x384 : Int32) (g383 : Sg) => (∃ j387 : Nat, (v4 + (1 : Int32)) = nI j387 ∧ j387 < L ∧ ∀ x386 : Int32, x386 = xs j387 → ∃ a388, v2 = some a388 ∧ (isK g383 a388 [6] ∧ ∃ c390 c391 : Nat, (kc + c381) + c390 ≤ mc ∧ (ks + c382) + c391 ≤ ms ∧ w_M_events z mi c390 c391 (fun (x393 : Int32) (g392 : Sg) => (isK g392 a388 [6] ∧ ∃ c395 c396 : Nat, ((kc + c381) + c390) + c395 ≤ mc ∧ ((ks + c382) + c391) + c396 ≤ ms ∧ w_M_thrown z mi c395 c396 (fun (x398 : Int32) (g397 : Sg) => (x398 = x384 → (¬ x384 = 0 → k_23 (((kc + c381) + c390) + c395) (((ks + c382) + c391) + c396) g397 v1 (some a388) v3 (v4 + (5 : Int32))) ∧ (x384 = 0 → ∃ a400, v3 = some a400 ∧ (∃ j402 : Nat, inA g397 a400 103 (0 : Int32) j402 ∧ ∀ x403 : Int64, x403 = aL g397 a400 j402 → ((lg_cmp x403 (x393.toInt64)) = 0 → k_23 (((kc + c381) + c390) + c395) (((ks + c382) + c391) + c396) g397 v1 (some a388) (some a400) (v4 + (5 : Int32))) ∧ (¬ (lg_cmp x403 (x393.toInt64)) = 0 → False)))) ∧ (¬ x398 = x384 → False)) g392 a388)) g383 a388 x386))) g v1 x379 v3))
set_option maxHeartbeats 4000000 in
set_option maxRecDepth 100000 in
theorem s_L_law_773 {p : Program} {l : Launch} {e : Env} {s : State} {m : MethodId} {below : List Frame} {meth : Method} {c : Code} {D : va_G} {cA : Nat → ClassId} {z mi b L : Nat} {xs : Nat → Int32}  {k_23 : Nat → Nat → Sg → Option Nat → Option Nat → Option Nat → Int32 → Prop} (S : CallFix p m c code 8 s #[Value.ref b] TBL "WeaveCoreLaw") (hst : l.stackTraces = false) (hZ : Ws D cA s.heap.size z mi s) (hr : meth.sig.returnType = ret) (hlk : meth.locks = false) (hX : va_X b L xs s s.heap) (hbl : b < s.heap.size) (hL : L ≤ 2560) (hk_23 : ∀ (kc ks : Nat) (g : Sg) (v1 : Option Nat) (v2 : Option Nat) (v3 : Option Nat) (v4 : Int32) (H : Heap) (locs : List Loc) (ls : Array Slot), kc ≤ 601024 ∧ ks ≤ 7293034 → k_23 kc ks g v1 v2 v3 v4 → WP D cA s.heap.size g H → va_S (oA s.heap.size) s.heap H locs → lv_has ls 8 [(0, .ref b), (1, va_rf v1), (2, va_rf v2), (3, va_rf v3), (4, .int v4)] → W p l e room_1 s m #[Value.ref b] below meth c H locs kc ks (lw_Z below #[Value.ref b] s) (F0 m 23 ls [])) :
    ∀ (kc ks : Nat) (g : Sg) (v1 : Option Nat) (v2 : Option Nat) (v3 : Option Nat) (v4 : Int32) (H : Heap) (locs : List Loc) (ls : Array Slot), kc ≤ 601024 ∧ ks ≤ 7293034 → w_L_law_773 z mi 601024 7293034 L xs k_23 kc ks g v1 v2 v3 v4 → WP D cA s.heap.size g H → va_S (oA s.heap.size) s.heap H locs → lv_has ls 8 [(0, .ref b), (1, va_rf v1), (2, va_rf v2), (3, va_rf v3), (4, .int v4)] → W p l e room_1 s m #[Value.ref b] below meth c H locs kc ks (lw_Z below #[Value.ref b] s) (F0 m 773 ls []) := by
  obtain ⟨hx, hb, hml, hown, hts⟩ := id S
  intro kc ks g v1 v2 v3 v4 H locs ls hk h hG hS hl
  refine q_aload_n hx hb d_L_law_773 rfl (lv_at hl 1 rfl) ?_
  refine lv_aload_n hx hb d_L_law_774 rfl (lv_at hl 0 rfl) ?_
  refine lv_iload hx hb d_L_law_775 (lv_at hl 4 rfl) ?_
  refine lv_iconst (v := (1 : Int32)) hx hb d_L_law_777 (by decide) ?_
  refine lv_iadd hx hb d_L_law_778 ?_
  obtain ⟨j380, h9, h8, h⟩ := h
  refine r_sld S hX hbl hL hS h9 h8 d_L_law_779 (fun x379 e9 => ?_)
  replace h := h x379 e9
  refine q_aload_n hx hb d_L_law_780 rfl (lv_at hl 3 rfl) ?_
  obtain ⟨c381, c382, k1, k2, h⟩ := h
  refine q_callI (run_SW (As := [va_rf v1, .int x379, va_rf v3]) (rest := []) S hZ hG hS (s_L_events hst h) tw_678 tw_676 tw_677 tw_0 nk_L_events ⟨Nat.le_of_ble_eq_true rfl, Nat.le_of_ble_eq_true rfl⟩ rfl hl.1 rfl (by decide) d_L_law_781 ⟨k1, k2⟩) hS (fun x384 g383 H locs h407 hG hS => ?_)
  have hk := And.intro k1 k2
  replace h := h407
  refine q_istore (lv' := [(5, .int x384), (0, .ref b), (1, va_rf v1), (2, va_rf v2), (3, va_rf v3), (4, .int v4)]) hx hb d_L_law_784 hl (by decide) (.n (.k 0 rfl (by decide) (by decide) (.k 1 rfl (by decide) (by decide) (.k 2 rfl (by decide) (by decide) (.k 3 rfl (by decide) (by decide) (.c 4 rfl (by decide) rfl .e)))))) (fun ls385 hl385 => ?_)
  refine q_aload_n hx hb d_L_law_786 rfl (lv_at hl385 3 rfl) ?_
  refine lv_aload_n hx hb d_L_law_787 rfl (lv_at hl385 1 rfl) ?_
  refine lv_iload hx hb d_L_law_788 (lv_at hl385 5 rfl) ?_
  refine lv_iconst (v := (1 : Int32)) hx hb d_L_law_790 (by decide) ?_
  refine lv_iadd hx hb d_L_law_791 ?_
  obtain ⟨j387, h9, h8, h⟩ := h
  refine r_sld S hX hbl hL hS h9 h8 d_L_law_792 (fun x386 e9 => ?_)
  replace h := h x386 e9
  obtain ⟨a388, e9, h⟩ := h
  subst e9
  have hl389 : lv_has ls385 8 [(5, .int x384), (0, .ref b), (1, va_rf v1), (2, .ref a388), (3, va_rf v3), (4, .int v4)] := hl385
  obtain ⟨h9, h⟩ := h
  obtain ⟨c390, c391, k1, k2, h⟩ := h
  obtain ⟨n9, h9⟩ := isK1 h9
  refine q_callI (run_VW (As := [.int x386]) (rest := []) S hZ hG hS (s_M_events hst h) tw_1048 tw_1045 tw_1046 tw_1047 tw_8 nk_M_events h9 (by decide) rfl ⟨Nat.le_of_ble_eq_true rfl, Nat.le_of_ble_eq_true rfl⟩ rfl hl385.1 rfl (by decide) d_L_law_793 ⟨k1, k2⟩) hS (fun x393 g392 H locs h406 hG hS => ?_)
  have hk := And.intro k1 k2
  replace h := h406
  refine q_istore (lv' := [(6, .int x393), (5, .int x384), (0, .ref b), (1, va_rf v1), (2, .ref a388), (3, va_rf v3), (4, .int v4)]) hx hb d_L_law_796 hl389 (by decide) (.n (.c 0 rfl (by decide) rfl (.k 1 rfl (by decide) (by decide) (.k 2 rfl (by decide) (by decide) (.k 3 rfl (by decide) (by decide) (.k 4 rfl (by decide) (by decide) (.k 5 rfl (by decide) (by decide) .e))))))) (fun ls394 hl394 => ?_)
  refine lv_aload_n hx hb d_L_law_798 rfl (lv_at hl394 4 rfl) ?_
  obtain ⟨h9, h⟩ := h
  obtain ⟨c395, c396, k1, k2, h⟩ := h
  obtain ⟨n9, h9⟩ := isK1 h9
  refine q_callI (run_V (As := []) (rest := []) S hZ hG hS (s_M_thrown h) tw_802 tw_799 tw_800 tw_801 tw_8 nk_M_thrown h9 (by decide) rfl ⟨Nat.le_of_ble_eq_true rfl, Nat.le_of_ble_eq_true rfl⟩ rfl hl394.1 rfl (by decide) d_L_law_799 ⟨k1, k2⟩) hS (fun x398 g397 H locs h405 hG hS => ?_)
  have hk := And.intro k1 k2
  replace h := h405
  refine lv_iload hx hb d_L_law_802 (lv_at hl394 1 rfl) ?_
  refine lv_icmp_eq (tgt := 809) hx hb d_L_law_804 (by decide) (fun c9 => ?_) (fun c9 => ?_)
  · replace h := h.1 c9
    refine lv_iload hx hb d_L_law_809 (lv_at hl394 1 rfl) ?_
    refine lv_if_ne (tgt := 826) hx hb d_L_law_811 (by decide) (fun c9 => ?_) (fun c9 => ?_)
    · replace h := h.1 c9
      refine lv_goto (tgt := 829) hx hb d_L_law_826 (by decide) ?_
      refine q_iinc (k := 6) (v := v4 + (5 : Int32)) (lv' := [(4, .int (v4 + (5 : Int32))), (6, .int x393), (5, .int x384), (0, .ref b), (1, va_rf v1), (2, .ref a388), (3, va_rf v3)]) hx hb d_L_law_829 hl394 rfl rfl (by decide) (.n (.k 0 rfl (by decide) (by decide) (.k 1 rfl (by decide) (by decide) (.k 2 rfl (by decide) (by decide) (.k 3 rfl (by decide) (by decide) (.k 4 rfl (by decide) (by decide) (.c 5 rfl (by decide) (rf_cat _) .e))))))) (fun ls399 hl399 => ?_)
      refine lv_goto (tgt := 23) hx hb d_L_law_832 (by decide) ?_
      exact hk_23 _ _ _ _ _ _ _ _ _ _ hk h hG hS (lv_sub hl399 [3, 4, 5, 6, 0] rfl)
    · replace h := h.2 c9
      refine q_aload_n hx hb d_L_law_814 rfl (lv_at hl394 5 rfl) ?_
      refine lv_iconst (v := (0 : Int32)) hx hb d_L_law_815 (by decide) ?_
      obtain ⟨a400, e9, h⟩ := h
      subst e9
      have hl401 : lv_has ls394 8 [(6, .int x393), (5, .int x384), (0, .ref b), (1, va_rf v1), (2, .ref a388), (3, .ref a400), (4, .int v4)] := hl394
      obtain ⟨j402, h9, h⟩ := h
      refine r_lald S hZ hG h9 d_L_law_816 (fun x403 e9 => ?_)
      replace h := h x403 e9
      refine lv_iload hx hb d_L_law_817 (lv_at hl401 0 rfl) ?_
      refine lv_i2l hx hb d_L_law_819 rfl ?_
      refine W.lcmp hx hb d_L_law_820 ?_
      refine lv_if_eq (tgt := 826) hx hb d_L_law_821 (by decide) (fun c9 => ?_) (fun c9 => ?_)
      · replace h := h.1 c9
        refine lv_goto (tgt := 829) hx hb d_L_law_826 (by decide) ?_
        refine q_iinc (k := 6) (v := v4 + (5 : Int32)) (lv' := [(4, .int (v4 + (5 : Int32))), (6, .int x393), (5, .int x384), (0, .ref b), (1, va_rf v1), (2, .ref a388), (3, .ref a400)]) hx hb d_L_law_829 hl401 rfl rfl (by decide) (.n (.k 0 rfl (by decide) (by decide) (.k 1 rfl (by decide) (by decide) (.k 2 rfl (by decide) (by decide) (.k 3 rfl (by decide) (by decide) (.k 4 rfl (by decide) (by decide) (.c 5 rfl (by decide) rfl .e))))))) (fun ls404 hl404 => ?_)
        refine lv_goto (tgt := 23) hx hb d_L_law_832 (by decide) ?_
        exact hk_23 _ _ _ _ _ _ _ _ _ _ hk h hG hS (lv_sub hl404 [3, 4, 5, 6, 0] rfl)
      · replace h := h.2 c9
        refine lv_iconst (v := (0 : Int32)) hx hb d_L_law_824 (by decide) ?_
        exact h.elim
  · replace h := h.2 c9
    refine lv_iconst (v := (0 : Int32)) hx hb d_L_law_807 (by decide) ?_
    exact h.elim
def w_L_law_23 (z mi mc ms L : Nat) (xs : Nat → Int32) : Nat → Nat → Nat → Sg → Option Nat → Option Nat → Option Nat → Int32 → Prop
  | 0 => fun _ _ _ _ _ _ _ => False
  | n + 1 => fun kc ks g v1 v2 v3 v4 => (∀ x28 : Int32, x28 = nI L → ((x28 - (5 : Int32)) < v4 → True) ∧ (¬ (x28 - (5 : Int32)) < v4 → (∃ j30 : Nat, v4 = nI j30 ∧ j30 < L ∧ ∀ x29 : Int32, x29 = xs j30 → (((x29 &&& (15 : Int32)) = 0 → w_L_law_104 z mi mc ms L xs (w_L_law_23 z mi mc ms L xs n) kc ks g v1 v2 v3 v4) ∧ ((x29 &&& (15 : Int32)) = 1 → w_L_law_172 z mi mc ms L xs (w_L_law_23 z mi mc ms L xs n) kc ks g v1 v2 v3 v4) ∧ ((x29 &&& (15 : Int32)) = 2 → w_L_law_185 z mi mc ms L xs (w_L_law_23 z mi mc ms L xs n) kc ks g v1 v2 v3 v4) ∧ ((x29 &&& (15 : Int32)) = 3 → w_L_law_229 z mi mc ms L xs (w_L_law_23 z mi mc ms L xs n) kc ks g v1 v2 v3 v4) ∧ ((x29 &&& (15 : Int32)) = 4 → w_L_law_321 z mi mc ms L xs (w_L_law_23 z mi mc ms L xs n) kc ks g v1 v2 v3 v4) ∧ ((x29 &&& (15 : Int32)) = 5 → w_L_law_401 z mi mc ms L xs (w_L_law_23 z mi mc ms L xs n) kc ks g v1 v2 v3 v4) ∧ ((x29 &&& (15 : Int32)) = 6 → w_L_law_414 z mi mc ms L xs (w_L_law_23 z mi mc ms L xs n) kc ks g v1 v2 v3 v4) ∧ ((x29 &&& (15 : Int32)) = 7 → w_L_law_470 z mi mc ms L xs (w_L_law_23 z mi mc ms L xs n) kc ks g v1 v2 v3 v4) ∧ ((x29 &&& (15 : Int32)) = 8 → w_L_law_525 z mi mc ms L xs (w_L_law_23 z mi mc ms L xs n) kc ks g v1 v2 v3 v4) ∧ ((x29 &&& (15 : Int32)) = 9 → w_L_law_593 z mi mc ms L xs (w_L_law_23 z mi mc ms L xs n) kc ks g v1 v2 v3 v4) ∧ ((x29 &&& (15 : Int32)) = 10 → w_L_law_649 z mi mc ms L xs (w_L_law_23 z mi mc ms L xs n) kc ks g v1 v2 v3 v4) ∧ ((x29 &&& (15 : Int32)) = 11 → w_L_law_717 z mi mc ms L xs (w_L_law_23 z mi mc ms L xs n) kc ks g v1 v2 v3 v4) ∧ ((x29 &&& (15 : Int32)) = 12 → w_L_law_773 z mi mc ms L xs (w_L_law_23 z mi mc ms L xs n) kc ks g v1 v2 v3 v4) ∧ ((x29 &&& (15 : Int32)).toInt < 0 ∨ 12 < (x29 &&& (15 : Int32)).toInt → w_L_law_23 z mi mc ms L xs n kc ks g v1 v2 v3 (v4 + (5 : Int32)))))))
set_option maxHeartbeats 4000000 in
set_option maxRecDepth 100000 in
theorem s_L_law_23 {p : Program} {l : Launch} {e : Env} {s : State} {m : MethodId} {below : List Frame} {meth : Method} {c : Code} {D : va_G} {cA : Nat → ClassId} {z mi b L : Nat} {xs : Nat → Int32} (S : CallFix p m c code 8 s #[Value.ref b] TBL "WeaveCoreLaw") (hst : l.stackTraces = false) (hZ : Ws D cA s.heap.size z mi s) (hr : meth.sig.returnType = ret) (hlk : meth.locks = false) (hX : va_X b L xs s s.heap) (hbl : b < s.heap.size) (hL : L ≤ 2560) :
    ∀ n : Nat, ∀ (kc ks : Nat) (g : Sg) (v1 : Option Nat) (v2 : Option Nat) (v3 : Option Nat) (v4 : Int32) (H : Heap) (locs : List Loc) (ls : Array Slot), kc ≤ 601024 ∧ ks ≤ 7293034 → w_L_law_23 z mi 601024 7293034 L xs n kc ks g v1 v2 v3 v4 → WP D cA s.heap.size g H → va_S (oA s.heap.size) s.heap H locs → lv_has ls 8 [(0, .ref b), (1, va_rf v1), (2, va_rf v2), (3, va_rf v3), (4, .int v4)] → W p l e room_1 s m #[Value.ref b] below meth c H locs kc ks (lw_Z below #[Value.ref b] s) (F0 m 23 ls []) := by
  obtain ⟨hx, hb, hml, hown, hts⟩ := id S
  intro n
  induction n with
  | zero =>
    intro kc ks g v1 v2 v3 v4 H locs ls hk h hG hS hl
    exact h.elim
  | succ n ih =>
    intro kc ks g v1 v2 v3 v4 H locs ls hk h hG hS hl
    refine lv_iload hx hb d_L_law_23 (lv_at hl 4 rfl) ?_
    refine lv_aload_n hx hb d_L_law_25 rfl (lv_at hl 0 rfl) ?_
    refine r_slen S hX hbl hS d_L_law_26 (fun x28 e9 => ?_)
    replace h := h x28 e9
    refine lv_iconst (v := (5 : Int32)) hx hb d_L_law_27 (by decide) ?_
    refine lv_isub hx hb d_L_law_28 ?_
    refine lv_icmp_gt (tgt := 835) hx hb d_L_law_29 (by decide) (fun c9 => ?_) (fun c9 => ?_)
    · replace h := h.1 c9
      refine lv_iconst (v := (1 : Int32)) hx hb d_L_law_835 (by decide) ?_
      exact va_forget hS.2.2 (W.widen (k := 601024) (n := 7293034) hk.1 hk.2 (lw_ret hx hb hr hlk d_L_law_836))
    · replace h := h.2 c9
      refine lv_aload_n hx hb d_L_law_32 rfl (lv_at hl 0 rfl) ?_
      refine lv_iload hx hb d_L_law_33 (lv_at hl 4 rfl) ?_
      obtain ⟨j30, h9, h8, h⟩ := h
      refine r_sld S hX hbl hL hS h9 h8 d_L_law_35 (fun x29 e9 => ?_)
      replace h := h x29 e9
      refine lv_bipush (v := (15 : Int32)) hx hb d_L_law_36 (by decide) ?_
      refine lv_iand hx hb d_L_law_38 ?_
      rcases sw13 (x29 &&& (15 : Int32)) with e9 | e9 | e9 | e9 | e9 | e9 | e9 | e9 | e9 | e9 | e9 | e9 | e9 | e9
      · refine lv_tableIn (off := 65) (tgt := 104) hx hb d_L_law_39 (by rw [e9]; decide) (by rw [e9]; decide) (by rw [e9]; rfl) (by decide) ?_
        replace h := h.1 e9
        exact s_L_law_104 S hst hZ hr hlk hX hbl hL ih _ _ _ _ _ _ _ _ _ _ hk h hG hS (lv_sub hl [0, 1, 2, 3, 4] rfl)
      · refine lv_tableIn (off := 133) (tgt := 172) hx hb d_L_law_39 (by rw [e9]; decide) (by rw [e9]; decide) (by rw [e9]; rfl) (by decide) ?_
        replace h := h.2.1 e9
        exact s_L_law_172 S hst hZ hr hlk hX hbl hL ih _ _ _ _ _ _ _ _ _ _ hk h hG hS (lv_sub hl [0, 1, 2, 3, 4] rfl)
      · refine lv_tableIn (off := 146) (tgt := 185) hx hb d_L_law_39 (by rw [e9]; decide) (by rw [e9]; decide) (by rw [e9]; rfl) (by decide) ?_
        replace h := h.2.2.1 e9
        exact s_L_law_185 S hst hZ hr hlk hX hbl hL ih _ _ _ _ _ _ _ _ _ _ hk h hG hS (lv_sub hl [0, 1, 2, 3, 4] rfl)
      · refine lv_tableIn (off := 190) (tgt := 229) hx hb d_L_law_39 (by rw [e9]; decide) (by rw [e9]; decide) (by rw [e9]; rfl) (by decide) ?_
        replace h := h.2.2.2.1 e9
        exact s_L_law_229 S hst hZ hr hlk hX hbl hL ih _ _ _ _ _ _ _ _ _ _ hk h hG hS (lv_sub hl [0, 1, 2, 3, 4] rfl)
      · refine lv_tableIn (off := 282) (tgt := 321) hx hb d_L_law_39 (by rw [e9]; decide) (by rw [e9]; decide) (by rw [e9]; rfl) (by decide) ?_
        replace h := h.2.2.2.2.1 e9
        exact s_L_law_321 S hst hZ hr hlk hX hbl hL ih _ _ _ _ _ _ _ _ _ _ hk h hG hS (lv_sub hl [0, 1, 2, 3, 4] rfl)
      · refine lv_tableIn (off := 362) (tgt := 401) hx hb d_L_law_39 (by rw [e9]; decide) (by rw [e9]; decide) (by rw [e9]; rfl) (by decide) ?_
        replace h := h.2.2.2.2.2.1 e9
        exact s_L_law_401 S hst hZ hr hlk hX hbl hL ih _ _ _ _ _ _ _ _ _ _ hk h hG hS (lv_sub hl [0, 1, 2, 3, 4] rfl)
      · refine lv_tableIn (off := 375) (tgt := 414) hx hb d_L_law_39 (by rw [e9]; decide) (by rw [e9]; decide) (by rw [e9]; rfl) (by decide) ?_
        replace h := h.2.2.2.2.2.2.1 e9
        exact s_L_law_414 S hst hZ hr hlk hX hbl hL ih _ _ _ _ _ _ _ _ _ _ hk h hG hS (lv_sub hl [0, 1, 2, 3, 4] rfl)
      · refine lv_tableIn (off := 431) (tgt := 470) hx hb d_L_law_39 (by rw [e9]; decide) (by rw [e9]; decide) (by rw [e9]; rfl) (by decide) ?_
        replace h := h.2.2.2.2.2.2.2.1 e9
        exact s_L_law_470 S hst hZ hr hlk hX hbl hL ih _ _ _ _ _ _ _ _ _ _ hk h hG hS (lv_sub hl [0, 1, 2, 3, 4] rfl)
      · refine lv_tableIn (off := 486) (tgt := 525) hx hb d_L_law_39 (by rw [e9]; decide) (by rw [e9]; decide) (by rw [e9]; rfl) (by decide) ?_
        replace h := h.2.2.2.2.2.2.2.2.1 e9
        exact s_L_law_525 S hst hZ hr hlk hX hbl hL ih _ _ _ _ _ _ _ _ _ _ hk h hG hS (lv_sub hl [0, 1, 2, 3, 4] rfl)
      · refine lv_tableIn (off := 554) (tgt := 593) hx hb d_L_law_39 (by rw [e9]; decide) (by rw [e9]; decide) (by rw [e9]; rfl) (by decide) ?_
        replace h := h.2.2.2.2.2.2.2.2.2.1 e9
        exact s_L_law_593 S hst hZ hr hlk hX hbl hL ih _ _ _ _ _ _ _ _ _ _ hk h hG hS (lv_sub hl [0, 1, 2, 3, 4] rfl)
      · refine lv_tableIn (off := 610) (tgt := 649) hx hb d_L_law_39 (by rw [e9]; decide) (by rw [e9]; decide) (by rw [e9]; rfl) (by decide) ?_
        replace h := h.2.2.2.2.2.2.2.2.2.2.1 e9
        exact s_L_law_649 S hst hZ hr hlk hX hbl hL ih _ _ _ _ _ _ _ _ _ _ hk h hG hS (lv_sub hl [0, 1, 2, 3, 4] rfl)
      · refine lv_tableIn (off := 678) (tgt := 717) hx hb d_L_law_39 (by rw [e9]; decide) (by rw [e9]; decide) (by rw [e9]; rfl) (by decide) ?_
        replace h := h.2.2.2.2.2.2.2.2.2.2.2.1 e9
        exact s_L_law_717 S hst hZ hr hlk hX hbl hL ih _ _ _ _ _ _ _ _ _ _ hk h hG hS (lv_sub hl [0, 1, 2, 3, 4] rfl)
      · refine lv_tableIn (off := 734) (tgt := 773) hx hb d_L_law_39 (by rw [e9]; decide) (by rw [e9]; decide) (by rw [e9]; rfl) (by decide) ?_
        replace h := h.2.2.2.2.2.2.2.2.2.2.2.2.1 e9
        exact s_L_law_773 S hst hZ hr hlk hX hbl hL ih _ _ _ _ _ _ _ _ _ _ hk h hG hS (lv_sub hl [0, 1, 2, 3, 4] rfl)
      · refine lv_tableOut (tgt := 829) hx hb d_L_law_39 e9 (by decide) ?_
        replace h := h.2.2.2.2.2.2.2.2.2.2.2.2.2 e9
        refine q_iinc (k := 4) (v := v4 + (5 : Int32)) (lv' := [(4, .int (v4 + (5 : Int32))), (0, .ref b), (1, va_rf v1), (2, va_rf v2), (3, va_rf v3)]) hx hb d_L_law_829 hl rfl rfl (by decide) (.n (.k 0 rfl (by decide) (by decide) (.k 1 rfl (by decide) (by decide) (.k 2 rfl (by decide) (by decide) (.c 3 rfl (by decide) (rf_cat _) .e))))) (fun ls408 hl408 => ?_)
        refine lv_goto (tgt := 23) hx hb d_L_law_832 (by decide) ?_
        exact ih _ _ _ _ _ _ _ _ _ _ hk h hG hS (lv_sub hl408 [1, 2, 3, 4, 0] rfl)
def w_L_law (z mi mc ms L : Nat) (xs : Nat → Int32) (g : Sg) : Prop := (0 + 1 ≤ mc ∧ 0 + 8 ≤ ms ∧ ∀ a11 : Nat, hT g a11 = none → ∀ g12 : Sg, g12 = nO g a11 4 8 → (∃ c13 c14 : Nat, (0 + 1) + c13 ≤ mc ∧ (0 + 8) + c14 ≤ ms ∧ w_C_init z mi c13 c14 (fun (g15 : Sg) => (((0 + 1) + c13) + 1 ≤ mc ∧ ((0 + 8) + c14) + 6 ≤ ms ∧ ∀ a17 : Nat, hT g15 a17 = none → ∀ g18 : Sg, g18 = nO g15 a17 6 6 → (∃ c19 c20 : Nat, (((0 + 1) + c13) + 1) + c19 ≤ mc ∧ (((0 + 8) + c14) + 6) + c20 ≤ ms ∧ w_M_init z mi c19 c20 (fun (g21 : Sg) => (∃ n25 : Nat, (1 : Int32) = nI n25 ∧ n25 ≤ 1000000 ∧ ((((0 + 1) + c13) + 1) + c19) + 1 ≤ mc ∧ ((((0 + 8) + c14) + 6) + c20) + n25 ≤ ms ∧ ∀ a23 : Nat, hT g21 a23 = none → ∀ g24 : Sg, g24 = nO g21 a23 103 n25 → (∃ n409 : Nat, w_L_law_23 z mi mc ms L xs n409 (((((0 + 1) + c13) + 1) + c19) + 1) (((((0 + 8) + c14) + 6) + c20) + n25) g24 (some a11) (some a17) (some a23) (0 : Int32)))) g18 a17))) g12 a11))
set_option maxHeartbeats 4000000 in
set_option maxRecDepth 100000 in
theorem s_L_law {p : Program} {l : Launch} {e : Env} {s : State} {m : MethodId} {below : List Frame} {meth : Method} {c : Code} {D : va_G} {cA : Nat → ClassId} {z mi b L : Nat} {xs : Nat → Int32} (S : CallFix p m c code 8 s #[Value.ref b] TBL "WeaveCoreLaw") (hst : l.stackTraces = false) (hZ : Ws D cA s.heap.size z mi s) (hr : meth.sig.returnType = ret) (hlk : meth.locks = false) (hX : va_X b L xs s s.heap) (hbl : b < s.heap.size) (hL : L ≤ 2560) {g : Sg} (hG : WP D cA s.heap.size g s.heap) (h : w_L_law z mi 601024 7293034 L xs g) : W p l e room_1 s m #[Value.ref b] below meth c s.heap [] 0 0 (lw_Z below #[Value.ref b] s) (entryFrame m ([Value.ref b] : List Value).toArray 8) := by
  obtain ⟨hx, hb, hml, hown, hts⟩ := id S
  have hS : va_S (oA s.heap.size) s.heap s.heap [] := va_S.rf
  have hl := lv_entry ([.ref b]) (n := 8) (Nat.le_of_ble_eq_true rfl)
  rw [lg_entry_eq]
  generalize (lg_sl ([.ref b]) ++ List.replicate (8 - (lg_sl ([.ref b])).length) Slot.unset).toArray = ls at hl ⊢
  have hl : lv_has ls 8 [(0, .ref b)] := hl
  have hk : 0 ≤ 601024 ∧ 0 ≤ 7293034 := ⟨Nat.zero_le _, Nat.zero_le _⟩
  refine r_new (k := 4) S hZ hG hS (by decide) rfl (hts _ tw_25) (hts _ tw_26) (hts _ tw_1) h.1 h.2.1 d_L_law_0 (fun a11 g12 H f9 e9 hG hS => ?_)
  have hk := And.intro h.1 h.2.1
  replace h := h.2.2 a11 f9 g12 e9
  refine lv_dup hx hb d_L_law_3 rfl ?_
  obtain ⟨c13, c14, k1, k2, h⟩ := h
  refine q_callV (run_I (As := []) (rest := [.ref a11]) S hZ hG hS (s_C_init h) tw_29 tw_27 tw_28 tw_1 rfl nk_C_init ⟨Nat.le_of_ble_eq_true rfl, Nat.le_of_ble_eq_true rfl⟩ rfl hl.1 rfl (Nat.le_of_ble_eq_true rfl) d_L_law_4 ⟨k1, k2⟩) hS (fun g15 H locs h411 hG hS => ?_)
  have hk := And.intro k1 k2
  replace h := h411
  refine q_astore_n (o := (some a11)) (lv' := [(1, .ref a11), (0, .ref b)]) hx hb d_L_law_7 rfl hl (by decide) (.n (.c 0 rfl (by decide) rfl .e)) (fun ls16 hl16 => ?_)
  refine r_new (k := 6) S hZ hG hS (by decide) rfl (hts _ tw_683) (hts _ tw_684) (hts _ tw_8) h.1 h.2.1 d_L_law_8 (fun a17 g18 H f9 e9 hG hS => ?_)
  have hk := And.intro h.1 h.2.1
  replace h := h.2.2 a17 f9 g18 e9
  refine lv_dup hx hb d_L_law_11 rfl ?_
  obtain ⟨c19, c20, k1, k2, h⟩ := h
  refine q_callV (run_I (As := []) (rest := [.ref a17]) S hZ hG hS (s_M_init h) tw_687 tw_685 tw_686 tw_8 rfl nk_M_init ⟨Nat.le_of_ble_eq_true rfl, Nat.le_of_ble_eq_true rfl⟩ rfl hl16.1 rfl (Nat.le_of_ble_eq_true rfl) d_L_law_12 ⟨k1, k2⟩) hS (fun g21 H locs h410 hG hS => ?_)
  have hk := And.intro k1 k2
  replace h := h410
  refine q_astore_n (o := (some a17)) (lv' := [(2, .ref a17), (1, .ref a11), (0, .ref b)]) hx hb d_L_law_15 rfl hl16 (by decide) (.n (.c 0 rfl (by decide) rfl (.k 1 rfl (by decide) (by decide) .e))) (fun ls22 hl22 => ?_)
  refine lv_iconst (v := (1 : Int32)) hx hb d_L_law_16 (by decide) ?_
  obtain ⟨n25, e9, n9, h⟩ := h
  refine r_newa (k := 103) (n := n25) (ty := .long) S hZ hG hS (hts _ tw_1057) rfl ⟨by decide, by decide⟩ rfl e9 n9 (de_103 _ 0 _) (by decide) h.1 h.2.1 d_L_law_17 (fun a23 g24 H f9 e9 hG hS => ?_)
  have hk := And.intro h.1 h.2.1
  replace h := h.2.2 a23 f9 g24 e9
  refine q_astore_n (o := (some a23)) (lv' := [(3, .ref a23), (2, .ref a17), (1, .ref a11), (0, .ref b)]) hx hb d_L_law_19 rfl hl22 (by decide) (.n (.c 0 rfl (by decide) rfl (.k 1 rfl (by decide) (by decide) (.k 2 rfl (by decide) (by decide) .e)))) (fun ls26 hl26 => ?_)
  refine lv_iconst (v := (0 : Int32)) hx hb d_L_law_20 (by decide) ?_
  refine q_istore (lv' := [(4, .int ((0 : Int32))), (3, .ref a23), (2, .ref a17), (1, .ref a11), (0, .ref b)]) hx hb d_L_law_21 hl26 (by decide) (.n (.c 0 rfl (by decide) rfl (.k 1 rfl (by decide) (by decide) (.k 2 rfl (by decide) (by decide) (.k 3 rfl (by decide) (by decide) .e))))) (fun ls27 hl27 => ?_)
  obtain ⟨n409, h⟩ := h
  exact s_L_law_23 S hst hZ hr hlk hX hbl hL n409 _ _ _ _ _ _ _ _ _ _ hk h hG hS (lv_sub hl27 [4, 3, 2, 1, 0] rfl)
