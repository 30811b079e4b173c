def w_M_thrown (z mi mc ms : Nat) (post : Int32 → Sg → Prop) (g : Sg) (this : Nat) : Prop := (hasI g this 56 ∧ ∀ x11 : Int32, x11 = fI g 56 this → post x11 g)
set_option maxHeartbeats 4000000 in
set_option maxRecDepth 100000 in
theorem s_M_thrown {l : Launch} {D : va_G} {cA : Nat → ClassId} {sz z mi mc ms : Nat} {g : Sg} {post : Int32 → Sg → Prop} {this : Nat} (h : w_M_thrown z mi mc ms post g this) : Met l y_M_thrown (Cond.code y_M_thrown b_M_thrown 1 (some FieldType.int) :: TBL) ({ frames := 0, cells := mc, slots := ms, locals := 0 } : Room) (Pg D cA sz z mi [.ref this] g) (Qg D cA sz (pI post)) mc ms (oA sz) := by
  refine m_code (lv := [(0, .ref this)]) (by decide +kernel) (Nat.le_of_ble_eq_true rfl) rfl ?_
  intro p e s m below meth c ls S hr hlk hnm hZ hG hS hl
  obtain ⟨hx, hb, hml, hown, hts⟩ := id S
  have hk : 0 ≤ mc ∧ 0 ≤ ms := ⟨Nat.zero_le _, Nat.zero_le _⟩
  refine lv_aload_n hx hb d_M_thrown_0 rfl (lv_at hl 0 rfl) ?_
  refine r_getI (f := 56) S hZ hG rfl h.1 (hts _ tw_785) (fun _ h9 => h9) d_M_thrown_1 (fun x11 e9 => ?_)
  replace h := h.2 x11 e9
  exact r_iret (v := x11) S hr hlk hG hS h hk.1 hk.2 d_M_thrown_4
def w_G_slotOf_2 (z mi mc ms : Nat) (post : Int32 → Sg → Prop) : Nat → Nat → Nat → Sg → Nat → Int32 → Int32 → Prop
  | 0 => fun _ _ _ _ _ _ => False
  | n + 1 => fun kc ks g this v1 v2 => (hasI g this 30 ∧ ∀ x12 : Int32, x12 = fI g 30 this → (x12 ≤ v2 → post (-1 : Int32) g) ∧ (¬ x12 ≤ v2 → (hasR g this 32 ∧ ∀ o13 : Option Nat, o13 = fR g 32 this → ∃ a14, o13 = some a14 ∧ (∃ j15 : Nat, inA g a14 100 v2 j15 ∧ ∀ x16 : Int32, x16 = aI g a14 j15 → (¬ x16 = v1 → w_G_slotOf_2 z mi mc ms post n kc ks g this v1 (v2 + (1 : Int32))) ∧ (x16 = v1 → post v2 g)))))
set_option maxHeartbeats 4000000 in
set_option maxRecDepth 100000 in
theorem s_G_slotOf_2 {p : Program} {l : Launch} {e : Env} {s : State} {m : MethodId} {args : Array Value} {below : List Frame} {meth : Method} {c : Code} {D : va_G} {cA : Nat → ClassId} {sz z mi mc ms : Nat} {post : Int32 → Sg → Prop} (S : CallFix p m c b_G_slotOf 3 s args TBL "WeaveCoreModel$Graph") (hZ : Ws D cA sz z mi s) (hr : meth.sig.returnType = (some FieldType.int)) (hlk : meth.locks = false) :
    ∀ n : Nat, ∀ (kc ks : Nat) (g : Sg) (this : Nat) (v1 : Int32) (v2 : Int32) (H : Heap) (locs : List Loc) (ls : Array Slot), kc ≤ mc ∧ ks ≤ ms → w_G_slotOf_2 z mi mc ms post n kc ks g this v1 v2 → WP D cA sz g H → va_S (oA sz) s.heap H locs → lv_has ls 3 [(0, .ref this), (1, .int v1), (2, .int v2)] → W p l e ({ frames := 0, cells := mc, slots := ms, locals := 0 } : Room) s m args below meth c H locs kc ks (MQ below (Qg D cA sz (pI post)) args s mc ms (oA sz)) (F0 m 2 ls []) := by
  obtain ⟨hx, hb, hml, hown, hts⟩ := id S
  intro n
  induction n with
  | zero =>
    intro kc ks g this v1 v2 H locs ls hk h hG hS hl
    exact h.elim
  | succ n ih =>
    intro kc ks g this v1 v2 H locs ls hk h hG hS hl
    refine lv_iload_n hx hb d_G_slotOf_2 rfl (lv_at hl 2 rfl) ?_
    refine lv_aload_n hx hb d_G_slotOf_3 rfl (lv_at hl 0 rfl) ?_
    refine r_getI (f := 30) S hZ hG rfl h.1 (hts _ tw_700) (fun _ h9 => h9) d_G_slotOf_4 (fun x12 e9 => ?_)
    replace h := h.2 x12 e9
    refine lv_icmp_ge (tgt := 28) hx hb d_G_slotOf_7 (by decide) (fun c9 => ?_) (fun c9 => ?_)
    · replace h := h.1 c9
      refine lv_iconst (v := (-1 : Int32)) hx hb d_G_slotOf_28 (by decide) ?_
      exact r_iret (v := (-1 : Int32)) S hr hlk hG hS h hk.1 hk.2 d_G_slotOf_29
    · replace h := h.2 c9
      refine lv_aload_n hx hb d_G_slotOf_10 rfl (lv_at hl 0 rfl) ?_
      refine r_getR (f := 32) S hZ hG rfl h.1 (hts _ tw_704) (fun _ h9 => h9) d_G_slotOf_11 (fun o13 e9 => ?_)
      replace h := h.2 o13 e9
      refine lv_iload_n hx hb d_G_slotOf_14 rfl (lv_at hl 2 rfl) ?_
      obtain ⟨a14, e9, h⟩ := h
      subst e9
      obtain ⟨j15, h9, h⟩ := h
      refine r_iald S hZ hG h9 d_G_slotOf_15 (fun x16 e9 => ?_)
      replace h := h x16 e9
      refine lv_iload_n hx hb d_G_slotOf_16 rfl (lv_at hl 1 rfl) ?_
      refine lv_icmp_ne (tgt := 22) hx hb d_G_slotOf_17 (by decide) (fun c9 => ?_) (fun c9 => ?_)
      · replace h := h.1 c9
        refine q_iinc (k := 2) (v := v2 + (1 : Int32)) (lv' := [(2, .int (v2 + (1 : Int32))), (0, .ref this), (1, .int v1)]) hx hb d_G_slotOf_22 hl rfl rfl (by decide) (.n (.k 0 rfl (by decide) (by decide) (.c 1 rfl (by decide) rfl .e))) (fun ls17 hl17 => ?_)
        refine lv_goto (tgt := 2) hx hb d_G_slotOf_25 (by decide) ?_
        exact ih _ _ _ _ _ _ _ _ _ hk h hG hS (lv_sub hl17 [1, 2, 0] rfl)
      · replace h := h.2 c9
        refine lv_iload_n hx hb d_G_slotOf_20 rfl (lv_at hl 2 rfl) ?_
        exact r_iret (v := v2) S hr hlk hG hS h hk.1 hk.2 d_G_slotOf_21
def w_G_slotOf (z mi mc ms : Nat) (post : Int32 → Sg → Prop) (g : Sg) (this : Nat) (p0 : Int32) : Prop := (∃ n18 : Nat, w_G_slotOf_2 z mi mc ms post n18 0 0 g this p0 (0 : Int32))
set_option maxHeartbeats 4000000 in
set_option maxRecDepth 100000 in
theorem s_G_slotOf {l : Launch} {D : va_G} {cA : Nat → ClassId} {sz z mi mc ms : Nat} {g : Sg} {post : Int32 → Sg → Prop} {this : Nat} {p0 : Int32} (h : w_G_slotOf z mi mc ms post g this p0) : Met l y_G_slotOf (Cond.code y_G_slotOf b_G_slotOf 3 (some FieldType.int) :: TBL) ({ frames := 0, cells := mc, slots := ms, locals := 0 } : Room) (Pg D cA sz z mi [.ref this, .int p0] g) (Qg D cA sz (pI post)) mc ms (oA sz) := by
  refine m_code (lv := [(0, .ref this), (1, .int p0)]) (by decide +kernel) (Nat.le_of_ble_eq_true rfl) rfl ?_
  intro p e s m below meth c ls S hr hlk hnm hZ hG hS hl
  obtain ⟨hx, hb, hml, hown, hts⟩ := id S
  have hk : 0 ≤ mc ∧ 0 ≤ ms := ⟨Nat.zero_le _, Nat.zero_le _⟩
  refine lv_iconst (v := (0 : Int32)) hx hb d_G_slotOf_0 (by decide) ?_
  refine q_istore_n (lv' := [(2, .int ((0 : Int32))), (0, .ref this), (1, .int p0)]) hx hb d_G_slotOf_1 rfl hl (by decide) (.n (.k 0 rfl (by decide) (by decide) (.c 1 rfl (by decide) rfl .e))) (fun ls11 hl11 => ?_)
  obtain ⟨n18, h⟩ := h
  exact s_G_slotOf_2 S hZ hr hlk n18 _ _ _ _ _ _ _ _ _ hk h hG hS (lv_sub hl11 [1, 2, 0] rfl)
def w_G_find (z mi mc ms : Nat) (post : Int32 → Sg → Prop) (g : Sg) (this : Nat) (p0 : Int32) (p1 : Int32) : Prop := (isK g this [5] ∧ ∃ c11 c12 : Nat, 0 + c11 ≤ mc ∧ 0 + c12 ≤ ms ∧ w_G_slotOf z mi c11 c12 (fun (x14 : Int32) (g13 : Sg) => (x14 < 0 → post (-1 : Int32) g13) ∧ (¬ x14 < 0 → (p1 < 0 → post (-1 : Int32) g13) ∧ (¬ p1 < 0 → (hasR g13 this 33 ∧ ∀ o16 : Option Nat, o16 = fR g13 33 this → ∃ a17, o16 = some a17 ∧ (∃ j18 : Nat, inA g13 a17 100 x14 j18 ∧ ∀ x19 : Int32, x19 = aI g13 a17 j18 → (p1 < x19 → (hasR g13 this 34 ∧ ∀ o20 : Option Nat, o20 = fR g13 34 this → ∃ a21, o20 = some a21 ∧ (∃ j22 : Nat, inA g13 a21 107 x14 j22 ∧ ∀ o23 : Option Nat, o23 = aR g13 a21 j22 → ∃ a24, o23 = some a24 ∧ (∃ j25 : Nat, inA g13 a24 100 p1 j25 ∧ ∀ x26 : Int32, x26 = aI g13 a24 j25 → post x26 g13)))) ∧ (¬ p1 < x19 → post (-1 : Int32) g13)))))) g this p0)
set_option maxHeartbeats 4000000 in
set_option maxRecDepth 100000 in
theorem s_G_find {l : Launch} {D : va_G} {cA : Nat → ClassId} {sz z mi mc ms : Nat} {g : Sg} {post : Int32 → Sg → Prop} {this : Nat} {p0 : Int32} {p1 : Int32} (h : w_G_find z mi mc ms post g this p0 p1) : Met l y_G_find (Cond.code y_G_find b_G_find 4 (some FieldType.int) :: TBL) ({ frames := 1, cells := mc, slots := ms, locals := 22 } : Room) (Pg D cA sz z mi [.ref this, .int p0, .int p1] g) (Qg D cA sz (pI post)) mc ms (oA sz) := by
  refine m_code (lv := [(0, .ref this), (1, .int p0), (2, .int p1)]) (by decide +kernel) (Nat.le_of_ble_eq_true rfl) rfl ?_
  intro p e s m below meth c ls S hr hlk hnm hZ hG hS hl
  obtain ⟨hx, hb, hml, hown, hts⟩ := id S
  have hk : 0 ≤ mc ∧ 0 ≤ ms := ⟨Nat.zero_le _, Nat.zero_le _⟩
  refine lv_aload_n hx hb d_G_find_0 rfl (lv_at hl 0 rfl) ?_
  refine lv_iload_n hx hb d_G_find_1 rfl (lv_at hl 1 rfl) ?_
  obtain ⟨h9, h⟩ := h
  obtain ⟨c11, c12, k1, k2, h⟩ := h
  obtain ⟨n9, h9⟩ := isK1 h9
  refine q_callI (run_V (As := [.int p0]) (rest := []) S hZ hG hS (s_G_slotOf h) tw_821 tw_818 tw_819 tw_820 tw_9 nk_G_slotOf h9 (by decide) rfl ⟨Nat.le_of_ble_eq_true rfl, Nat.le_of_ble_eq_true rfl⟩ rfl hl.1 rfl (by decide) d_G_find_2 ⟨k1, k2⟩) hS (fun x14 g13 H locs h27 hG hS => ?_)
  have hk := And.intro k1 k2
  replace h := h27
  refine q_istore_n (lv' := [(3, .int x14), (0, .ref this), (1, .int p0), (2, .int p1)]) hx hb d_G_find_5 rfl hl (by decide) (.n (.k 0 rfl (by decide) (by decide) (.k 1 rfl (by decide) (by decide) (.c 2 rfl (by decide) rfl .e)))) (fun ls15 hl15 => ?_)
  refine lv_iload_n hx hb d_G_find_6 rfl (lv_at hl15 0 rfl) ?_
  refine lv_if_lt (tgt := 24) hx hb d_G_find_7 (by decide) (fun c9 => ?_) (fun c9 => ?_)
  · replace h := h.1 c9
    refine lv_iconst (v := (-1 : Int32)) hx hb d_G_find_24 (by decide) ?_
    refine lv_goto (tgt := 36) hx hb d_G_find_25 (by decide) ?_
    exact r_iret (v := (-1 : Int32)) S hr hlk hG hS h hk.1 hk.2 d_G_find_36
  · replace h := h.2 c9
    refine lv_iload_n hx hb d_G_find_10 rfl (lv_at hl15 3 rfl) ?_
    refine lv_if_lt (tgt := 24) hx hb d_G_find_11 (by decide) (fun c9 => ?_) (fun c9 => ?_)
    · replace h := h.1 c9
      refine lv_iconst (v := (-1 : Int32)) hx hb d_G_find_24 (by decide) ?_
      refine lv_goto (tgt := 36) hx hb d_G_find_25 (by decide) ?_
      exact r_iret (v := (-1 : Int32)) S hr hlk hG hS h hk.1 hk.2 d_G_find_36
    · replace h := h.2 c9
      refine lv_iload_n hx hb d_G_find_14 rfl (lv_at hl15 3 rfl) ?_
      refine lv_aload_n hx hb d_G_find_15 rfl (lv_at hl15 1 rfl) ?_
      refine r_getR (f := 33) S hZ hG rfl h.1 (hts _ tw_706) (fun _ h9 => h9) d_G_find_16 (fun o16 e9 => ?_)
      replace h := h.2 o16 e9
      refine lv_iload_n hx hb d_G_find_19 rfl (lv_at hl15 0 rfl) ?_
      obtain ⟨a17, e9, h⟩ := h
      subst e9
      obtain ⟨j18, h9, h⟩ := h
      refine r_iald S hZ hG h9 d_G_find_20 (fun x19 e9 => ?_)
      replace h := h x19 e9
      refine lv_icmp_lt (tgt := 28) hx hb d_G_find_21 (by decide) (fun c9 => ?_) (fun c9 => ?_)
      · replace h := h.1 c9
        refine lv_aload_n hx hb d_G_find_28 rfl (lv_at hl15 1 rfl) ?_
        refine r_getR (f := 34) S hZ hG rfl h.1 (hts _ tw_708) (fun _ h9 => h9) d_G_find_29 (fun o20 e9 => ?_)
        replace h := h.2 o20 e9
        refine lv_iload_n hx hb d_G_find_32 rfl (lv_at hl15 0 rfl) ?_
        obtain ⟨a21, e9, h⟩ := h
        subst e9
        obtain ⟨j22, h9, h⟩ := h
        refine r_mald S hZ hG h9 d_G_find_33 (fun o23 e9 => ?_)
        replace h := h o23 e9
        refine lv_iload_n hx hb d_G_find_34 rfl (lv_at hl15 3 rfl) ?_
        obtain ⟨a24, e9, h⟩ := h
        subst e9
        obtain ⟨j25, h9, h⟩ := h
        refine r_iald S hZ hG h9 d_G_find_35 (fun x26 e9 => ?_)
        replace h := h x26 e9
        exact r_iret (v := x26) S hr hlk hG hS h hk.1 hk.2 d_G_find_36
      · replace h := h.2 c9
        refine lv_iconst (v := (-1 : Int32)) hx hb d_G_find_24 (by decide) ?_
        refine lv_goto (tgt := 36) hx hb d_G_find_25 (by decide) ?_
        exact r_iret (v := (-1 : Int32)) S hr hlk hG hS h hk.1 hk.2 d_G_find_36
def w_M_parent0_25 (z mi mc ms : Nat) (post : Int32 → Sg → Prop) (px : Nat → Sg → Prop) : Nat → Nat → Nat → Sg → Nat → Int32 → Int32 → Prop
  | 0 => fun _ _ _ _ _ _ => False
  | n + 1 => fun kc ks g this v3 v4 => (hasI g this 54 ∧ ∀ x19 : Int32, x19 = fI g 54 this → (x19 ≤ v4 → (hasI g this 54 ∧ ∀ x20 : Int32, x20 = fI g 54 this → (¬ x20 = (16 : Int32) → (hasR g this 52 ∧ ∀ o21 : Option Nat, o21 = fR g 52 this → (hasI g this 54 ∧ ∀ x22 : Int32, x22 = fI g 54 this → ∃ a23, o21 = some a23 ∧ (∃ j24 : Nat, inA g a23 100 x22 j24 ∧ ∀ g25 : Sg, g25 = sI g a23 j24 v3 → (hasI g25 this 54 ∧ ∀ x26 : Int32, x26 = fI g25 54 this → (hasI g25 this 54 ∧ ∀ g27 : Sg, g27 = wI g25 54 this (x26 + (1 : Int32)) → (hasI g27 this 54 ∧ ∀ x28 : Int32, x28 = fI g27 54 this → post x28 g27))))))) ∧ (x20 = (16 : Int32) → kc + 1 ≤ mc ∧ ks + 6 ≤ ms ∧ px 2 g))) ∧ (¬ x19 ≤ v4 → (hasR g this 52 ∧ ∀ o29 : Option Nat, o29 = fR g 52 this → ∃ a30, o29 = some a30 ∧ (∃ j31 : Nat, inA g a30 100 v4 j31 ∧ ∀ x32 : Int32, x32 = aI g a30 j31 → (¬ x32 = v3 → w_M_parent0_25 z mi mc ms post px n kc ks g this v3 (v4 + (1 : Int32))) ∧ (x32 = v3 → kc + 1 ≤ mc ∧ ks + 6 ≤ ms ∧ px 1 g)))))
set_option maxHeartbeats 4000000 in
set_option maxRecDepth 100000 in
theorem s_M_parent0_25 {p : Program} {l : Launch} {e : Env} {s : State} {m : MethodId} {args : Array Value} {below : List Frame} {meth : Method} {c : Code} {D : va_G} {cA : Nat → ClassId} {sz z mi mc ms : Nat} {post : Int32 → Sg → Prop} {px : Nat → Sg → Prop} (S : CallFix p m c b_M_parent0 5 s args TBL "WeaveCoreModel") (hst : l.stackTraces = false) (hZ : Ws D cA sz z mi s) (hr : meth.sig.returnType = (some FieldType.int)) (hlk : meth.locks = false) (hxt : ∀ x ∈ c.exceptionTable.toList, False) :
    ∀ n : Nat, ∀ (kc ks : Nat) (g : Sg) (this : Nat) (v3 : Int32) (v4 : Int32) (H : Heap) (locs : List Loc) (ls : Array Slot), kc ≤ mc ∧ ks ≤ ms → w_M_parent0_25 z mi mc ms post px n kc ks g this v3 v4 → WP D cA sz g H → va_S (oA sz) s.heap H locs → lv_has ls 5 [(0, .ref this), (3, .int v3), (4, .int v4)] → W p l e ({ frames := 6, cells := mc, slots := ms, locals := 90 } : Room) s m args below meth c H locs kc ks (vx_MQ below (Qg D cA sz (pI post)) (Xg D cA sz px) args s mc ms (oA sz)) (F0 m 25 ls []) := by
  obtain ⟨hx, hb, hml, hown, hts⟩ := id S
  intro n
  induction n with
  | zero =>
    intro kc ks g this v3 v4 H locs ls hk h hG hS hl
    exact h.elim
  | succ n ih =>
    intro kc ks g this v3 v4 H locs ls hk h hG hS hl
    refine lv_iload hx hb d_M_parent0_25 (lv_at hl 2 rfl) ?_
    refine lv_aload_n hx hb d_M_parent0_27 rfl (lv_at hl 0 rfl) ?_
    refine r_getI (f := 54) S hZ hG rfl h.1 (hts _ tw_783) (fun _ h9 => h9) d_M_parent0_28 (fun x19 e9 => ?_)
    replace h := h.2 x19 e9
    refine lv_icmp_ge (tgt := 59) hx hb d_M_parent0_31 (by decide) (fun c9 => ?_) (fun c9 => ?_)
    · replace h := h.1 c9
      refine lv_aload_n hx hb d_M_parent0_59 rfl (lv_at hl 0 rfl) ?_
      refine r_getI (f := 54) S hZ hG rfl h.1 (hts _ tw_783) (fun _ h9 => h9) d_M_parent0_60 (fun x20 e9 => ?_)
      replace h := h.2 x20 e9
      refine lv_bipush (v := (16 : Int32)) hx hb d_M_parent0_63 (by decide) ?_
      refine lv_icmp_ne (tgt := 76) hx hb d_M_parent0_65 (by decide) (fun c9 => ?_) (fun c9 => ?_)
      · replace h := h.1 c9
        refine lv_aload_n hx hb d_M_parent0_76 rfl (lv_at hl 0 rfl) ?_
        refine r_getR (f := 52) S hZ hG rfl h.1 (hts _ tw_781) (fun _ h9 => h9) d_M_parent0_77 (fun o21 e9 => ?_)
        replace h := h.2 o21 e9
        refine lv_aload_n hx hb d_M_parent0_80 rfl (lv_at hl 0 rfl) ?_
        refine r_getI (f := 54) S hZ hG rfl h.1 (hts _ tw_783) (fun _ h9 => h9) d_M_parent0_81 (fun x22 e9 => ?_)
        replace h := h.2 x22 e9
        refine lv_iload_n hx hb d_M_parent0_84 rfl (lv_at hl 1 rfl) ?_
        obtain ⟨a23, e9, h⟩ := h
        subst e9
        obtain ⟨j24, h9, h⟩ := h
        refine r_iast S hZ hG hS h9 d_M_parent0_85 (fun g25 H locs e9 hG hS => ?_)
        replace h := h g25 e9
        refine lv_aload_n hx hb d_M_parent0_86 rfl (lv_at hl 0 rfl) ?_
        refine lv_dup hx hb d_M_parent0_87 rfl ?_
        refine r_getI (f := 54) S hZ hG rfl h.1 (hts _ tw_783) (fun _ h9 => h9) d_M_parent0_88 (fun x26 e9 => ?_)
        replace h := h.2 x26 e9
        refine lv_iconst (v := (1 : Int32)) hx hb d_M_parent0_91 (by decide) ?_
        refine lv_iadd hx hb d_M_parent0_92 ?_
        refine r_putI (f := 54) S hZ hG hS rfl h.1 (hts _ tw_783) (fun _ h9 => h9) (Or.inl rfl) d_M_parent0_93 (fun g27 H locs e9 hG hS => ?_)
        replace h := h.2 g27 e9
        refine lv_aload_n hx hb d_M_parent0_96 rfl (lv_at hl 0 rfl) ?_
        refine r_getI (f := 54) S hZ hG rfl h.1 (hts _ tw_783) (fun _ h9 => h9) d_M_parent0_97 (fun x28 e9 => ?_)
        replace h := h.2 x28 e9
        exact vx_ret (r_iret (v := x28) S hr hlk hG hS h hk.1 hk.2 d_M_parent0_100)
      · replace h := h.2 c9
        exact r_throw (i := 2) S hst hZ hG hS (by decide) tw_809 tw_17 xa_M_44_46 xb_M_44_46 xo_M_44_46 hl.1 d_M_parent0_68 d_M_parent0_71 d_M_parent0_72 d_M_parent0_75 (fun x hx => (hxt x hx).elim) (Nat.le_of_ble_eq_true rfl) (Nat.le_of_ble_eq_true rfl) rfl rfl hlk h.2.2 h.1 h.2.1
    · replace h := h.2 c9
      refine lv_aload_n hx hb d_M_parent0_34 rfl (lv_at hl 0 rfl) ?_
      refine r_getR (f := 52) S hZ hG rfl h.1 (hts _ tw_781) (fun _ h9 => h9) d_M_parent0_35 (fun o29 e9 => ?_)
      replace h := h.2 o29 e9
      refine lv_iload hx hb d_M_parent0_38 (lv_at hl 2 rfl) ?_
      obtain ⟨a30, e9, h⟩ := h
      subst e9
      obtain ⟨j31, h9, h⟩ := h
      refine r_iald S hZ hG h9 d_M_parent0_40 (fun x32 e9 => ?_)
      replace h := h x32 e9
      refine lv_iload_n hx hb d_M_parent0_41 rfl (lv_at hl 1 rfl) ?_
      refine lv_icmp_ne (tgt := 53) hx hb d_M_parent0_42 (by decide) (fun c9 => ?_) (fun c9 => ?_)
      · replace h := h.1 c9
        refine q_iinc (k := 2) (v := v4 + (1 : Int32)) (lv' := [(4, .int (v4 + (1 : Int32))), (0, .ref this), (3, .int v3)]) hx hb d_M_parent0_53 hl rfl rfl (by decide) (.n (.k 0 rfl (by decide) (by decide) (.c 1 rfl (by decide) rfl .e))) (fun ls33 hl33 => ?_)
        refine lv_goto (tgt := 25) hx hb d_M_parent0_56 (by decide) ?_
        exact ih _ _ _ _ _ _ _ _ _ hk h hG hS (lv_sub hl33 [1, 2, 0] rfl)
      · replace h := h.2 c9
        exact r_throw (i := 1) S hst hZ hG hS (by decide) tw_808 tw_16 xa_M_41_43 xb_M_41_43 xo_M_41_43 hl.1 d_M_parent0_45 d_M_parent0_48 d_M_parent0_49 d_M_parent0_52 (fun x hx => (hxt x hx).elim) (Nat.le_of_ble_eq_true rfl) (Nat.le_of_ble_eq_true rfl) rfl rfl hlk h.2.2 h.1 h.2.1
def w_M_parent0 (z mi mc ms : Nat) (post : Int32 → Sg → Prop) (px : Nat → Sg → Prop) (g : Sg) (this : Nat) (p0 : Int32) (p1 : Int32) : Prop := (hasR g this 51 ∧ ∀ o11 : Option Nat, o11 = fR g 51 this → ∃ a12, o11 = some a12 ∧ (isK g a12 [5] ∧ ∃ c13 c14 : Nat, 0 + c13 ≤ mc ∧ 0 + c14 ≤ ms ∧ w_G_find z mi c13 c14 (fun (x16 : Int32) (g15 : Sg) => (0 ≤ x16 → (∃ n34 : Nat, w_M_parent0_25 z mi mc ms post px n34 (0 + c13) (0 + c14) g15 this x16 (0 : Int32))) ∧ (¬ 0 ≤ x16 → (0 + c13) + 1 ≤ mc ∧ (0 + c14) + 6 ≤ ms ∧ px 0 g15)) g a12 p0 p1))
set_option maxHeartbeats 4000000 in
set_option maxRecDepth 100000 in
theorem s_M_parent0 {l : Launch} {D : va_G} {cA : Nat → ClassId} {sz z mi mc ms : Nat} {g : Sg} {post : Int32 → Sg → Prop} {px : Nat → Sg → Prop} {this : Nat} {p0 : Int32} {p1 : Int32} (hst : l.stackTraces = false) (h : w_M_parent0 z mi mc ms post px g this p0 p1) : vx_Met l y_M_parent0 (Cond.code y_M_parent0 b_M_parent0 5 (some FieldType.int) :: TBL) ({ frames := 6, cells := mc, slots := ms, locals := 90 } : Room) (Pg D cA sz z mi [.ref this, .int p0, .int p1] g) (Qg D cA sz (pI post)) (Xg D cA sz px) mc ms (oA sz) := by
  refine m_codeX (lv := [(0, .ref this), (1, .int p0), (2, .int p1)]) (by decide +kernel) (Nat.le_of_ble_eq_true rfl) rfl ?_
  intro p e s m below meth c ls hxt S hr hlk hnm hZ hG hS hl
  obtain ⟨hx, hb, hml, hown, hts⟩ := id S
  have hk : 0 ≤ mc ∧ 0 ≤ ms := ⟨Nat.zero_le _, Nat.zero_le _⟩
  refine lv_aload_n hx hb d_M_parent0_0 rfl (lv_at hl 0 rfl) ?_
  refine r_getR (f := 51) S hZ hG rfl h.1 (hts _ tw_780) (fun _ h9 => h9) d_M_parent0_1 (fun o11 e9 => ?_)
  replace h := h.2 o11 e9
  refine lv_iload_n hx hb d_M_parent0_4 rfl (lv_at hl 1 rfl) ?_
  refine lv_iload_n hx hb d_M_parent0_5 rfl (lv_at hl 2 rfl) ?_
  obtain ⟨a12, e9, h⟩ := h
  subst e9
  obtain ⟨h9, h⟩ := h
  obtain ⟨c13, c14, k1, k2, h⟩ := h
  obtain ⟨n9, h9⟩ := isK1 h9
  refine q_callI (run_V (As := [.int p0, .int p1]) (rest := []) S hZ hG hS (s_G_find h) tw_817 tw_814 tw_815 tw_816 tw_9 nk_G_find h9 (by decide) rfl ⟨Nat.le_of_ble_eq_true rfl, Nat.le_of_ble_eq_true rfl⟩ rfl hl.1 rfl (by decide) d_M_parent0_6 ⟨k1, k2⟩) hS (fun x16 g15 H locs h35 hG hS => ?_)
  have hk := And.intro k1 k2
  replace h := h35
  refine q_istore_n (lv' := [(3, .int x16), (0, .ref this), (1, .int p0), (2, .int p1)]) hx hb d_M_parent0_9 rfl hl (by decide) (.n (.k 0 rfl (by decide) (by decide) (.k 1 rfl (by decide) (by decide) (.c 2 rfl (by decide) rfl .e)))) (fun ls17 hl17 => ?_)
  refine lv_iload_n hx hb d_M_parent0_10 rfl (lv_at hl17 0 rfl) ?_
  refine lv_if_ge (tgt := 22) hx hb d_M_parent0_11 (by decide) (fun c9 => ?_) (fun c9 => ?_)
  · replace h := h.1 c9
    refine lv_iconst (v := (0 : Int32)) hx hb d_M_parent0_22 (by decide) ?_
    refine q_istore (lv' := [(4, .int ((0 : Int32))), (3, .int x16), (0, .ref this), (1, .int p0), (2, .int p1)]) hx hb d_M_parent0_23 hl17 (by decide) (.n (.c 0 rfl (by decide) rfl (.k 1 rfl (by decide) (by decide) (.k 2 rfl (by decide) (by decide) (.k 3 rfl (by decide) (by decide) .e))))) (fun ls18 hl18 => ?_)
    obtain ⟨n34, h⟩ := h
    exact s_M_parent0_25 S hst hZ hr hlk hxt n34 _ _ _ _ _ _ _ _ _ hk h hG hS (lv_sub hl18 [2, 1, 0] rfl)
  · replace h := h.2 c9
    exact r_throw (i := 0) S hst hZ hG hS (by decide) tw_807 tw_15 xa_M_34_36 xb_M_34_36 xo_M_34_36 hl17.1 d_M_parent0_14 d_M_parent0_17 d_M_parent0_18 d_M_parent0_21 (fun x hx => (hxt x hx).elim) (Nat.le_of_ble_eq_true rfl) (Nat.le_of_ble_eq_true rfl) rfl rfl hlk h.2.2 h.1 h.2.1
def w_M_parent (z mi mc ms : Nat) (post : Int32 → Sg → Prop) (g : Sg) (this : Nat) (p0 : Int32) (p1 : Int32) : Prop := (hasI g this 56 ∧ ∀ g11 : Sg, g11 = wI g 56 this (0 : Int32) → (isK g11 this [6] ∧ ∃ c12 c13 : Nat, 0 + c12 ≤ mc ∧ 0 + c13 ≤ ms ∧ w_M_parent0 z mi c12 c13 (fun (x15 : Int32) (g14 : Sg) => post x15 g14) (fun (i16 : Nat) (g17 : Sg) => (i16 = 0 ∧ (hasI g17 this 56 ∧ ∀ g20 : Sg, g20 = wI g17 56 this (1 : Int32) → post (0 : Int32) g20)) ∨ (i16 = 1 ∧ (hasI g17 this 56 ∧ ∀ g23 : Sg, g23 = wI g17 56 this (2 : Int32) → post (0 : Int32) g23)) ∨ (i16 = 2 ∧ (hasI g17 this 56 ∧ ∀ g26 : Sg, g26 = wI g17 56 this (3 : Int32) → post (0 : Int32) g26))) g11 this p0 p1))
set_option maxHeartbeats 4000000 in
set_option maxRecDepth 100000 in
theorem s_M_parent {l : Launch} {D : va_G} {cA : Nat → ClassId} {sz z mi mc ms : Nat} {g : Sg} {post : Int32 → Sg → Prop} {this : Nat} {p0 : Int32} {p1 : Int32} (hst : l.stackTraces = false) (h : w_M_parent z mi mc ms post g this p0 p1) : Met l y_M_parent (Cond.codeWith y_M_parent b_M_parent 4 (some FieldType.int) [(5, 11, 12, 34), (5, 11, 21, 41), (5, 11, 30, 44)] :: TBL) ({ frames := 7, cells := mc, slots := ms, locals := 114 } : Room) (Pg D cA sz z mi [.ref this, .int p0, .int p1] g) (Qg D cA sz (pI post)) mc ms (oA sz) := by
  refine m_codeW (lv := [(0, .ref this), (1, .int p0), (2, .int p1)]) (by decide +kernel) (Nat.le_of_ble_eq_true rfl) rfl ?_
  intro p e s m below meth c ls htb S hr hlk hnm hZ hG hS hl
  obtain ⟨hx, hb, hml, hown, hts⟩ := id S
  have hk : 0 ≤ mc ∧ 0 ≤ ms := ⟨Nat.zero_le _, Nat.zero_le _⟩
  refine lv_aload_n hx hb d_M_parent_0 rfl (lv_at hl 0 rfl) ?_
  refine lv_iconst (v := (0 : Int32)) hx hb d_M_parent_1 (by decide) ?_
  refine r_putI (f := 56) S hZ hG hS rfl h.1 (hts _ tw_785) (fun _ h9 => h9) (Or.inl rfl) d_M_parent_2 (fun g11 H locs e9 hG hS => ?_)
  replace h := h.2 g11 e9
  refine lv_aload_n hx hb d_M_parent_5 rfl (lv_at hl 0 rfl) ?_
  refine lv_iload_n hx hb d_M_parent_6 rfl (lv_at hl 1 rfl) ?_
  refine lv_iload_n hx hb d_M_parent_7 rfl (lv_at hl 2 rfl) ?_
  obtain ⟨h9, h⟩ := h
  obtain ⟨c12, c13, k1, k2, h⟩ := h
  obtain ⟨n9, h9⟩ := isK1 h9
  refine x_callI (xrun_V (As := [.int p0, .int p1]) (rest := []) S hZ hG hS (s_M_parent0 hst h) tw_813 tw_810 tw_812 tp_33 tw_8 nk_M_parent0 h9 (by decide) rfl ⟨Nat.le_of_ble_eq_true rfl, Nat.le_of_ble_eq_true rfl⟩ rfl hl.1 rfl (by decide) d_M_parent_8 ⟨k1, k2⟩) hS (fun i9 ce q9 g17 H locs hi h28 hG hS hq1 hq2 hq3 => ?_) (fun x15 g14 H locs h27 hG hS => ?_)
  · have hk := And.intro k1 k2
    replace h := h28
    rcases h with ⟨rfl, h⟩ | ⟨rfl, h⟩ | ⟨rfl, h⟩
    · refine r_catch (i := 0) S hZ (by decide) [] ⟨5, 11, 12, 34⟩ [⟨5, 11, 21, 41⟩, ⟨5, 11, 30, 44⟩] htb (fun y hy => nomatch hy) (by decide) (by decide) tw_807 hq1 hq2 hq3 ?_
      refine q_astore_n (o := (some q9)) (lv' := [(0, .ref this), (1, .int p0), (2, .int p1)]) hx hb d_M_parent_12 rfl hl (by decide) (.k 0 rfl (by decide) (by decide) (.k 1 rfl (by decide) (by decide) (.c 2 rfl (by decide) rfl .e))) (fun ls19 hl19 => ?_)
      refine lv_aload_n hx hb d_M_parent_13 rfl (lv_at hl19 0 rfl) ?_
      refine lv_iconst (v := (1 : Int32)) hx hb d_M_parent_14 (by decide) ?_
      refine r_putI (f := 56) S hZ hG hS rfl h.1 (hts _ tw_785) (fun _ h9 => h9) (Or.inl rfl) d_M_parent_15 (fun g20 H locs e9 hG hS => ?_)
      replace h := h.2 g20 e9
      refine lv_goto (tgt := 36) hx hb d_M_parent_18 (by decide) ?_
      refine lv_iconst (v := (0 : Int32)) hx hb d_M_parent_36 (by decide) ?_
      exact r_iret (v := (0 : Int32)) S hr hlk hG hS h hk.1 hk.2 d_M_parent_37
    · refine r_catch (i := 1) S hZ (by decide) [⟨5, 11, 12, 34⟩] ⟨5, 11, 21, 41⟩ [⟨5, 11, 30, 44⟩] htb (List.forall_mem_cons.mpr ⟨⟨by decide, 0, by decide, by decide, tw_807⟩, (fun y hy => nomatch hy)⟩) (by decide) (by decide) tw_808 hq1 hq2 hq3 ?_
      refine q_astore_n (o := (some q9)) (lv' := [(0, .ref this), (1, .int p0), (2, .int p1)]) hx hb d_M_parent_21 rfl hl (by decide) (.k 0 rfl (by decide) (by decide) (.k 1 rfl (by decide) (by decide) (.c 2 rfl (by decide) rfl .e))) (fun ls22 hl22 => ?_)
      refine lv_aload_n hx hb d_M_parent_22 rfl (lv_at hl22 0 rfl) ?_
      refine lv_iconst (v := (2 : Int32)) hx hb d_M_parent_23 (by decide) ?_
      refine r_putI (f := 56) S hZ hG hS rfl h.1 (hts _ tw_785) (fun _ h9 => h9) (Or.inl rfl) d_M_parent_24 (fun g23 H locs e9 hG hS => ?_)
      replace h := h.2 g23 e9
      refine lv_goto (tgt := 36) hx hb d_M_parent_27 (by decide) ?_
      refine lv_iconst (v := (0 : Int32)) hx hb d_M_parent_36 (by decide) ?_
      exact r_iret (v := (0 : Int32)) S hr hlk hG hS h hk.1 hk.2 d_M_parent_37
    · refine r_catch (i := 2) S hZ (by decide) [⟨5, 11, 12, 34⟩, ⟨5, 11, 21, 41⟩] ⟨5, 11, 30, 44⟩ [] htb (List.forall_mem_cons.mpr ⟨⟨by decide, 0, by decide, by decide, tw_807⟩, (List.forall_mem_cons.mpr ⟨⟨by decide, 1, by decide, by decide, tw_808⟩, (fun y hy => nomatch hy)⟩)⟩) (by decide) (by decide) tw_809 hq1 hq2 hq3 ?_
      refine q_astore_n (o := (some q9)) (lv' := [(0, .ref this), (1, .int p0), (2, .int p1)]) hx hb d_M_parent_30 rfl hl (by decide) (.k 0 rfl (by decide) (by decide) (.k 1 rfl (by decide) (by decide) (.c 2 rfl (by decide) rfl .e))) (fun ls25 hl25 => ?_)
      refine lv_aload_n hx hb d_M_parent_31 rfl (lv_at hl25 0 rfl) ?_
      refine lv_iconst (v := (3 : Int32)) hx hb d_M_parent_32 (by decide) ?_
      refine r_putI (f := 56) S hZ hG hS rfl h.1 (hts _ tw_785) (fun _ h9 => h9) (Or.inl rfl) d_M_parent_33 (fun g26 H locs e9 hG hS => ?_)
      replace h := h.2 g26 e9
      refine lv_iconst (v := (0 : Int32)) hx hb d_M_parent_36 (by decide) ?_
      exact r_iret (v := (0 : Int32)) S hr hlk hG hS h hk.1 hk.2 d_M_parent_37
  · have hk := And.intro k1 k2
    replace h := h27
    exact r_iret (v := x15) S hr hlk hG hS h hk.1 hk.2 d_M_parent_11
def w_G_all_2 (z mi mc ms : Nat) (post : Sg → Prop) : Nat → Nat → Nat → Sg → Nat → Option Nat → Int32 → Prop
  | 0 => fun _ _ _ _ _ _ => False
  | n + 1 => fun kc ks g this v1 v2 => ((16 : Int32) ≤ v2 → post g) ∧ (¬ (16 : Int32) ≤ v2 → (hasI g this 30 ∧ ∀ x12 : Int32, x12 = fI g 30 this → (x12 ≤ v2 → ∃ a13, v1 = some a13 ∧ (∃ j15 : Nat, inA g a13 101 v2 j15 ∧ ∀ g16 : Sg, g16 = sI g a13 j15 (vp_nar .short ((0 : Int32).toInt16.toInt32)) → w_G_all_2 z mi mc ms post n kc ks g16 this (some a13) (v2 + (1 : Int32)))) ∧ (¬ x12 ≤ v2 → (hasR g this 33 ∧ ∀ o18 : Option Nat, o18 = fR g 33 this → ∃ a19, o18 = some a19 ∧ (∃ j20 : Nat, inA g a19 100 v2 j20 ∧ ∀ x21 : Int32, x21 = aI g a19 j20 → ∃ a22, v1 = some a22 ∧ (∃ j24 : Nat, inA g a22 101 v2 j24 ∧ ∀ g25 : Sg, g25 = sI g a22 j24 (vp_nar .short (x21.toInt16.toInt32)) → w_G_all_2 z mi mc ms post n kc ks g25 this (some a22) (v2 + (1 : Int32))))))))
set_option maxHeartbeats 4000000 in
set_option maxRecDepth 100000 in
theorem s_G_all_2 {p : Program} {l : Launch} {e : Env} {s : State} {m : MethodId} {args : Array Value} {below : List Frame} {meth : Method} {c : Code} {D : va_G} {cA : Nat → ClassId} {sz z mi mc ms : Nat} {post : Sg → Prop} (S : CallFix p m c b_G_all 3 s args TBL "WeaveCoreModel$Graph") (hZ : Ws D cA sz z mi s) (hr : meth.sig.returnType = none) (hlk : meth.locks = false) :
    ∀ n : Nat, ∀ (kc ks : Nat) (g : Sg) (this : Nat) (v1 : Option Nat) (v2 : Int32) (H : Heap) (locs : List Loc) (ls : Array Slot), kc ≤ mc ∧ ks ≤ ms → w_G_all_2 z mi mc ms post n kc ks g this v1 v2 → WP D cA sz g H → va_S (oA sz) s.heap H locs → lv_has ls 3 [(0, .ref this), (1, va_rf v1), (2, .int v2)] → W p l e ({ frames := 0, cells := mc, slots := ms, locals := 0 } : Room) s m args below meth c H locs kc ks (MQ below (Qg D cA sz (pV post)) args s mc ms (oA sz)) (F0 m 2 ls []) := by
  obtain ⟨hx, hb, hml, hown, hts⟩ := id S
  intro n
  induction n with
  | zero =>
    intro kc ks g this v1 v2 H locs ls hk h hG hS hl
    exact h.elim
  | succ n ih =>
    intro kc ks g this v1 v2 H locs ls hk h hG hS hl
    refine lv_iload_n hx hb d_G_all_2 rfl (lv_at hl 2 rfl) ?_
    refine lv_bipush (v := (16 : Int32)) hx hb d_G_all_3 (by decide) ?_
    refine lv_icmp_ge (tgt := 36) hx hb d_G_all_5 (by decide) (fun c9 => ?_) (fun c9 => ?_)
    · replace h := h.1 c9
      exact r_vret S hr hlk hG hS h hk.1 hk.2 d_G_all_36
    · replace h := h.2 c9
      refine q_aload_n hx hb d_G_all_8 rfl (lv_at hl 1 rfl) ?_
      refine lv_iload_n hx hb d_G_all_9 rfl (lv_at hl 2 rfl) ?_
      refine lv_iload_n hx hb d_G_all_10 rfl (lv_at hl 2 rfl) ?_
      refine lv_aload_n hx hb d_G_all_11 rfl (lv_at hl 0 rfl) ?_
      refine r_getI (f := 30) S hZ hG rfl h.1 (hts _ tw_700) (fun _ h9 => h9) d_G_all_12 (fun x12 e9 => ?_)
      replace h := h.2 x12 e9
      refine lv_icmp_ge (tgt := 27) hx hb d_G_all_15 (by decide) (fun c9 => ?_) (fun c9 => ?_)
      · replace h := h.1 c9
        refine lv_iconst (v := (0 : Int32)) hx hb d_G_all_27 (by decide) ?_
        refine lv_i2s hx hb d_G_all_28 rfl ?_
        obtain ⟨a13, e9, h⟩ := h
        subst e9
        have hl14 : lv_has ls 3 [(0, .ref this), (1, .ref a13), (2, .int v2)] := hl
        obtain ⟨j15, h9, h⟩ := h
        refine r_sast S hZ hG hS h9 d_G_all_29 (fun g16 H locs e9 hG hS => ?_)
        replace h := h g16 e9
        refine q_iinc (k := 2) (v := v2 + (1 : Int32)) (lv' := [(2, .int (v2 + (1 : Int32))), (0, .ref this), (1, .ref a13)]) hx hb d_G_all_30 hl14 rfl rfl (by decide) (.n (.k 0 rfl (by decide) (by decide) (.c 1 rfl (by decide) rfl .e))) (fun ls17 hl17 => ?_)
        refine lv_goto (tgt := 2) hx hb d_G_all_33 (by decide) ?_
        exact ih _ _ _ _ _ _ _ _ _ hk h hG hS (lv_sub hl17 [1, 2, 0] rfl)
      · replace h := h.2 c9
        refine lv_aload_n hx hb d_G_all_18 rfl (lv_at hl 0 rfl) ?_
        refine r_getR (f := 33) S hZ hG rfl h.1 (hts _ tw_706) (fun _ h9 => h9) d_G_all_19 (fun o18 e9 => ?_)
        replace h := h.2 o18 e9
        refine lv_iload_n hx hb d_G_all_22 rfl (lv_at hl 2 rfl) ?_
        obtain ⟨a19, e9, h⟩ := h
        subst e9
        obtain ⟨j20, h9, h⟩ := h
        refine r_iald S hZ hG h9 d_G_all_23 (fun x21 e9 => ?_)
        replace h := h x21 e9
        refine lv_goto (tgt := 28) hx hb d_G_all_24 (by decide) ?_
        refine lv_i2s hx hb d_G_all_28 rfl ?_
        obtain ⟨a22, e9, h⟩ := h
        subst e9
        have hl23 : lv_has ls 3 [(0, .ref this), (1, .ref a22), (2, .int v2)] := hl
        obtain ⟨j24, h9, h⟩ := h
        refine r_sast S hZ hG hS h9 d_G_all_29 (fun g25 H locs e9 hG hS => ?_)
        replace h := h g25 e9
        refine q_iinc (k := 2) (v := v2 + (1 : Int32)) (lv' := [(2, .int (v2 + (1 : Int32))), (0, .ref this), (1, .ref a22)]) hx hb d_G_all_30 hl23 rfl rfl (by decide) (.n (.k 0 rfl (by decide) (by decide) (.c 1 rfl (by decide) rfl .e))) (fun ls26 hl26 => ?_)
        refine lv_goto (tgt := 2) hx hb d_G_all_33 (by decide) ?_
        exact ih _ _ _ _ _ _ _ _ _ hk h hG hS (lv_sub hl26 [1, 2, 0] rfl)
def w_G_all (z mi mc ms : Nat) (post : Sg → Prop) (g : Sg) (this : Nat) (p0 : Option Nat) : Prop := (∃ n27 : Nat, w_G_all_2 z mi mc ms post n27 0 0 g this p0 (0 : Int32))
set_option maxHeartbeats 4000000 in
set_option maxRecDepth 100000 in
theorem s_G_all {l : Launch} {D : va_G} {cA : Nat → ClassId} {sz z mi mc ms : Nat} {g : Sg} {post : Sg → Prop} {this : Nat} {p0 : Option Nat} (h : w_G_all z mi mc ms post g this p0) : Met l y_G_all (Cond.code y_G_all b_G_all 3 none :: TBL) ({ frames := 0, cells := mc, slots := ms, locals := 0 } : Room) (Pg D cA sz z mi [.ref this, va_rf p0] g) (Qg D cA sz (pV post)) mc ms (oA sz) := by
  refine m_code (lv := [(0, .ref this), (1, va_rf p0)]) (by decide +kernel) (by simp [lg_sl, rf_cat, cat_i, cat_r, cat_l]) (by simp [lv_args, rf_cat, cat_i, cat_r, cat_l]) ?_
  intro p e s m below meth c ls S hr hlk hnm hZ hG hS hl
  obtain ⟨hx, hb, hml, hown, hts⟩ := id S
  have hk : 0 ≤ mc ∧ 0 ≤ ms := ⟨Nat.zero_le _, Nat.zero_le _⟩
  refine lv_iconst (v := (0 : Int32)) hx hb d_G_all_0 (by decide) ?_
  refine q_istore_n (lv' := [(2, .int ((0 : Int32))), (0, .ref this), (1, va_rf p0)]) hx hb d_G_all_1 rfl hl (by decide) (.n (.k 0 rfl (by decide) (by decide) (.c 1 rfl (by decide) (rf_cat _) .e))) (fun ls11 hl11 => ?_)
  obtain ⟨n27, h⟩ := h
  exact s_G_all_2 S hZ hr hlk n27 _ _ _ _ _ _ _ _ _ hk h hG hS (lv_sub hl11 [1, 2, 0] rfl)
def w_G_lastIn (z mi mc ms : Nat) (post : Int32 → Sg → Prop) (g : Sg) (this : Nat) (p0 : Option Nat) (p1 : Int32) (p2 : Int32) : Prop := (hasI g this 30 ∧ ∀ x11 : Int32, x11 = fI g 30 this → (x11 ≤ p2 → post (-1 : Int32) g) ∧ (¬ x11 ≤ p2 → ∃ a12, p0 = some a12 ∧ (∃ j14 : Nat, inA g a12 101 (p1 + p2) j14 ∧ ∀ x15 : Int32, x15 = aI g a12 j14 → (x15 ≤ 0 → post (-1 : Int32) g) ∧ (¬ x15 ≤ 0 → (hasR g this 34 ∧ ∀ o16 : Option Nat, o16 = fR g 34 this → ∃ a17, o16 = some a17 ∧ (∃ j18 : Nat, inA g a17 107 p2 j18 ∧ ∀ o19 : Option Nat, o19 = aR g a17 j18 → (∃ j20 : Nat, inA g a12 101 (p1 + p2) j20 ∧ ∀ x21 : Int32, x21 = aI g a12 j20 → ∃ a22, o19 = some a22 ∧ (∃ j23 : Nat, inA g a22 100 (x21 - (1 : Int32)) j23 ∧ ∀ x24 : Int32, x24 = aI g a22 j23 → post x24 g))))))))
set_option maxHeartbeats 4000000 in
set_option maxRecDepth 100000 in
theorem s_G_lastIn {l : Launch} {D : va_G} {cA : Nat → ClassId} {sz z mi mc ms : Nat} {g : Sg} {post : Int32 → Sg → Prop} {this : Nat} {p0 : Option Nat} {p1 : Int32} {p2 : Int32} (h : w_G_lastIn z mi mc ms post g this p0 p1 p2) : Met l y_G_lastIn (Cond.code y_G_lastIn b_G_lastIn 4 (some FieldType.int) :: TBL) ({ frames := 0, cells := mc, slots := ms, locals := 0 } : Room) (Pg D cA sz z mi [.ref this, va_rf p0, .int p1, .int p2] g) (Qg D cA sz (pI post)) mc ms (oA sz) := by
  refine m_code (lv := [(0, .ref this), (1, va_rf p0), (2, .int p1), (3, .int p2)]) (by decide +kernel) (by simp [lg_sl, rf_cat, cat_i, cat_r, cat_l]) (by simp [lv_args, rf_cat, cat_i, cat_r, cat_l]) ?_
  intro p e s m below meth c ls S hr hlk hnm hZ hG hS hl
  obtain ⟨hx, hb, hml, hown, hts⟩ := id S
  have hk : 0 ≤ mc ∧ 0 ≤ ms := ⟨Nat.zero_le _, Nat.zero_le _⟩
  refine lv_iload_n hx hb d_G_lastIn_0 rfl (lv_at hl 3 rfl) ?_
  refine lv_aload_n hx hb d_G_lastIn_1 rfl (lv_at hl 0 rfl) ?_
  refine r_getI (f := 30) S hZ hG rfl h.1 (hts _ tw_700) (fun _ h9 => h9) d_G_lastIn_2 (fun x11 e9 => ?_)
  replace h := h.2 x11 e9
  refine lv_icmp_ge (tgt := 33) hx hb d_G_lastIn_5 (by decide) (fun c9 => ?_) (fun c9 => ?_)
  · replace h := h.1 c9
    refine lv_iconst (v := (-1 : Int32)) hx hb d_G_lastIn_33 (by decide) ?_
    exact r_iret (v := (-1 : Int32)) S hr hlk hG hS h hk.1 hk.2 d_G_lastIn_34
  · replace h := h.2 c9
    refine q_aload_n hx hb d_G_lastIn_8 rfl (lv_at hl 1 rfl) ?_
    refine lv_iload_n hx hb d_G_lastIn_9 rfl (lv_at hl 2 rfl) ?_
    refine lv_iload_n hx hb d_G_lastIn_10 rfl (lv_at hl 3 rfl) ?_
    refine lv_iadd hx hb d_G_lastIn_11 ?_
    obtain ⟨a12, e9, h⟩ := h
    subst e9
    have hl13 : lv_has ls 4 [(0, .ref this), (1, .ref a12), (2, .int p1), (3, .int p2)] := hl
    obtain ⟨j14, h9, h⟩ := h
    refine r_sald S hZ hG h9 d_G_lastIn_12 (fun x15 e9 => ?_)
    replace h := h x15 e9
    refine lv_if_le (tgt := 33) hx hb d_G_lastIn_13 (by decide) (fun c9 => ?_) (fun c9 => ?_)
    · replace h := h.1 c9
      refine lv_iconst (v := (-1 : Int32)) hx hb d_G_lastIn_33 (by decide) ?_
      exact r_iret (v := (-1 : Int32)) S hr hlk hG hS h hk.1 hk.2 d_G_lastIn_34
    · replace h := h.2 c9
      refine lv_aload_n hx hb d_G_lastIn_16 rfl (lv_at hl13 0 rfl) ?_
      refine r_getR (f := 34) S hZ hG rfl h.1 (hts _ tw_708) (fun _ h9 => h9) d_G_lastIn_17 (fun o16 e9 => ?_)
      replace h := h.2 o16 e9
      refine lv_iload_n hx hb d_G_lastIn_20 rfl (lv_at hl13 3 rfl) ?_
      obtain ⟨a17, e9, h⟩ := h
      subst e9
      obtain ⟨j18, h9, h⟩ := h
      refine r_mald S hZ hG h9 d_G_lastIn_21 (fun o19 e9 => ?_)
      replace h := h o19 e9
      refine lv_aload_n hx hb d_G_lastIn_22 rfl (lv_at hl13 1 rfl) ?_
      refine lv_iload_n hx hb d_G_lastIn_23 rfl (lv_at hl13 2 rfl) ?_
      refine lv_iload_n hx hb d_G_lastIn_24 rfl (lv_at hl13 3 rfl) ?_
      refine lv_iadd hx hb d_G_lastIn_25 ?_
      obtain ⟨j20, h9, h⟩ := h
      refine r_sald S hZ hG h9 d_G_lastIn_26 (fun x21 e9 => ?_)
      replace h := h x21 e9
      refine lv_iconst (v := (1 : Int32)) hx hb d_G_lastIn_27 (by decide) ?_
      refine lv_isub hx hb d_G_lastIn_28 ?_
      obtain ⟨a22, e9, h⟩ := h
      subst e9
      obtain ⟨j23, h9, h⟩ := h
      refine r_iald S hZ hG h9 d_G_lastIn_29 (fun x24 e9 => ?_)
      replace h := h x24 e9
      refine lv_goto (tgt := 34) hx hb d_G_lastIn_30 (by decide) ?_
      exact r_iret (v := x24) S hr hlk hG hS h hk.1 hk.2 d_G_lastIn_34
def w_G_isBefore (z mi mc ms : Nat) (post : Int32 → Sg → Prop) (g : Sg) (this : Nat) (p0 : Int32) (p1 : Int32) : Prop := (hasR g this 36 ∧ ∀ o11 : Option Nat, o11 = fR g 36 this → ∃ a12, o11 = some a12 ∧ (∃ j13 : Nat, inA g a12 100 p0 j13 ∧ ∀ x14 : Int32, x14 = aI g a12 j13 → (hasR g this 37 ∧ ∀ o15 : Option Nat, o15 = fR g 37 this → (hasR g this 35 ∧ ∀ o16 : Option Nat, o16 = fR g 35 this → ∃ a17, o16 = some a17 ∧ (∃ j18 : Nat, inA g a17 100 p0 j18 ∧ ∀ x19 : Int32, x19 = aI g a17 j18 → ∃ a20, o15 = some a20 ∧ (∃ j21 : Nat, inA g a20 101 (((16 : Int32) * p1) + x19) j21 ∧ ∀ x22 : Int32, x22 = aI g a20 j21 → (x22 ≤ x14 → post (0 : Int32) g) ∧ (¬ x22 ≤ x14 → post (1 : Int32) g)))))))
set_option maxHeartbeats 4000000 in
set_option maxRecDepth 100000 in
theorem s_G_isBefore {l : Launch} {D : va_G} {cA : Nat → ClassId} {sz z mi mc ms : Nat} {g : Sg} {post : Int32 → Sg → Prop} {this : Nat} {p0 : Int32} {p1 : Int32} (h : w_G_isBefore z mi mc ms post g this p0 p1) : Met l y_G_isBefore (Cond.code y_G_isBefore b_G_isBefore 3 (some FieldType.boolean) :: TBL) ({ frames := 0, cells := mc, slots := ms, locals := 0 } : Room) (Pg D cA sz z mi [.ref this, .int p0, .int p1] g) (Qg D cA sz (pI post)) mc ms (oA sz) := by
  refine m_code (lv := [(0, .ref this), (1, .int p0), (2, .int p1)]) (by decide +kernel) (Nat.le_of_ble_eq_true rfl) rfl ?_
  intro p e s m below meth c ls S hr hlk hnm hZ hG hS hl
  obtain ⟨hx, hb, hml, hown, hts⟩ := id S
  have hk : 0 ≤ mc ∧ 0 ≤ ms := ⟨Nat.zero_le _, Nat.zero_le _⟩
  refine lv_aload_n hx hb d_G_isBefore_0 rfl (lv_at hl 0 rfl) ?_
  refine r_getR (f := 36) S hZ hG rfl h.1 (hts _ tw_711) (fun _ h9 => h9) d_G_isBefore_1 (fun o11 e9 => ?_)
  replace h := h.2 o11 e9
  refine lv_iload_n hx hb d_G_isBefore_4 rfl (lv_at hl 1 rfl) ?_
  obtain ⟨a12, e9, h⟩ := h
  subst e9
  obtain ⟨j13, h9, h⟩ := h
  refine r_iald S hZ hG h9 d_G_isBefore_5 (fun x14 e9 => ?_)
  replace h := h x14 e9
  refine lv_aload_n hx hb d_G_isBefore_6 rfl (lv_at hl 0 rfl) ?_
  refine r_getR (f := 37) S hZ hG rfl h.1 (hts _ tw_713) (fun _ h9 => h9) d_G_isBefore_7 (fun o15 e9 => ?_)
  replace h := h.2 o15 e9
  refine lv_bipush (v := (16 : Int32)) hx hb d_G_isBefore_10 (by decide) ?_
  refine lv_iload_n hx hb d_G_isBefore_12 rfl (lv_at hl 2 rfl) ?_
  refine lv_imul hx hb d_G_isBefore_13 ?_
  refine lv_aload_n hx hb d_G_isBefore_14 rfl (lv_at hl 0 rfl) ?_
  refine r_getR (f := 35) S hZ hG rfl h.1 (hts _ tw_709) (fun _ h9 => h9) d_G_isBefore_15 (fun o16 e9 => ?_)
  replace h := h.2 o16 e9
  refine lv_iload_n hx hb d_G_isBefore_18 rfl (lv_at hl 1 rfl) ?_
  obtain ⟨a17, e9, h⟩ := h
  subst e9
  obtain ⟨j18, h9, h⟩ := h
  refine r_iald S hZ hG h9 d_G_isBefore_19 (fun x19 e9 => ?_)
  replace h := h x19 e9
  refine lv_iadd hx hb d_G_isBefore_20 ?_
  obtain ⟨a20, e9, h⟩ := h
  subst e9
  obtain ⟨j21, h9, h⟩ := h
  refine r_sald S hZ hG h9 d_G_isBefore_21 (fun x22 e9 => ?_)
  replace h := h x22 e9
  refine lv_icmp_ge (tgt := 29) hx hb d_G_isBefore_22 (by decide) (fun c9 => ?_) (fun c9 => ?_)
  · replace h := h.1 c9
    refine lv_iconst (v := (0 : Int32)) hx hb d_G_isBefore_29 (by decide) ?_
    exact r_zret (v := (0 : Int32)) S hr hlk rfl hG hS h hk.1 hk.2 d_G_isBefore_30
  · replace h := h.2 c9
    refine lv_iconst (v := (1 : Int32)) hx hb d_G_isBefore_25 (by decide) ?_
    refine lv_goto (tgt := 30) hx hb d_G_isBefore_26 (by decide) ?_
    exact r_zret (v := (1 : Int32)) S hr hlk rfl hG hS h hk.1 hk.2 d_G_isBefore_30
def w_G_isLess (z mi mc ms : Nat) (post : Int32 → Sg → Prop) (g : Sg) (this : Nat) (p0 : Int32) (p1 : Int32) : Prop := (hasR g this 32 ∧ ∀ o11 : Option Nat, o11 = fR g 32 this → (hasR g this 35 ∧ ∀ o12 : Option Nat, o12 = fR g 35 this → ∃ a13, o12 = some a13 ∧ (∃ j14 : Nat, inA g a13 100 p0 j14 ∧ ∀ x15 : Int32, x15 = aI g a13 j14 → ∃ a16, o11 = some a16 ∧ (∃ j17 : Nat, inA g a16 100 x15 j17 ∧ ∀ x18 : Int32, x18 = aI g a16 j17 → (hasR g this 32 ∧ ∀ o19 : Option Nat, o19 = fR g 32 this → (hasR g this 35 ∧ ∀ o20 : Option Nat, o20 = fR g 35 this → ∃ a21, o20 = some a21 ∧ (∃ j22 : Nat, inA g a21 100 p1 j22 ∧ ∀ x23 : Int32, x23 = aI g a21 j22 → ∃ a24, o19 = some a24 ∧ (∃ j25 : Nat, inA g a24 100 x23 j25 ∧ ∀ x26 : Int32, x26 = aI g a24 j25 → (x18 = x26 → (hasR g this 36 ∧ ∀ o27 : Option Nat, o27 = fR g 36 this → ∃ a28, o27 = some a28 ∧ (∃ j29 : Nat, inA g a28 100 p0 j29 ∧ ∀ x30 : Int32, x30 = aI g a28 j29 → (hasR g this 36 ∧ ∀ o31 : Option Nat, o31 = fR g 36 this → ∃ a32, o31 = some a32 ∧ (∃ j33 : Nat, inA g a32 100 p1 j33 ∧ ∀ x34 : Int32, x34 = aI g a32 j33 → (x34 ≤ x30 → post (0 : Int32) g) ∧ (¬ x34 ≤ x30 → post (1 : Int32) g)))))) ∧ (¬ x18 = x26 → (hasR g this 32 ∧ ∀ o35 : Option Nat, o35 = fR g 32 this → (hasR g this 35 ∧ ∀ o36 : Option Nat, o36 = fR g 35 this → ∃ a37, o36 = some a37 ∧ (∃ j38 : Nat, inA g a37 100 p0 j38 ∧ ∀ x39 : Int32, x39 = aI g a37 j38 → ∃ a40, o35 = some a40 ∧ (∃ j41 : Nat, inA g a40 100 x39 j41 ∧ ∀ x42 : Int32, x42 = aI g a40 j41 → (hasR g this 32 ∧ ∀ o43 : Option Nat, o43 = fR g 32 this → (hasR g this 35 ∧ ∀ o44 : Option Nat, o44 = fR g 35 this → ∃ a45, o44 = some a45 ∧ (∃ j46 : Nat, inA g a45 100 p1 j46 ∧ ∀ x47 : Int32, x47 = aI g a45 j46 → ∃ a48, o43 = some a48 ∧ (∃ j49 : Nat, inA g a48 100 x47 j49 ∧ ∀ x50 : Int32, x50 = aI g a48 j49 → (x50 ≤ x42 → post (0 : Int32) g) ∧ (¬ x50 ≤ x42 → post (1 : Int32) g))))))))))))))))))
set_option maxHeartbeats 4000000 in
set_option maxRecDepth 100000 in
theorem s_G_isLess {l : Launch} {D : va_G} {cA : Nat → ClassId} {sz z mi mc ms : Nat} {g : Sg} {post : Int32 → Sg → Prop} {this : Nat} {p0 : Int32} {p1 : Int32} (h : w_G_isLess z mi mc ms post g this p0 p1) : Met l y_G_isLess (Cond.code y_G_isLess b_G_isLess 3 (some FieldType.boolean) :: TBL) ({ frames := 0, cells := mc, slots := ms, locals := 0 } : Room) (Pg D cA sz z mi [.ref this, .int p0, .int p1] g) (Qg D cA sz (pI post)) mc ms (oA sz) := by
  refine m_code (lv := [(0, .ref this), (1, .int p0), (2, .int p1)]) (by decide +kernel) (Nat.le_of_ble_eq_true rfl) rfl ?_
  intro p e s m below meth c ls S hr hlk hnm hZ hG hS hl
  obtain ⟨hx, hb, hml, hown, hts⟩ := id S
  have hk : 0 ≤ mc ∧ 0 ≤ ms := ⟨Nat.zero_le _, Nat.zero_le _⟩
  refine lv_aload_n hx hb d_G_isLess_0 rfl (lv_at hl 0 rfl) ?_
  refine r_getR (f := 32) S hZ hG rfl h.1 (hts _ tw_704) (fun _ h9 => h9) d_G_isLess_1 (fun o11 e9 => ?_)
  replace h := h.2 o11 e9
  refine lv_aload_n hx hb d_G_isLess_4 rfl (lv_at hl 0 rfl) ?_
  refine r_getR (f := 35) S hZ hG rfl h.1 (hts _ tw_709) (fun _ h9 => h9) d_G_isLess_5 (fun o12 e9 => ?_)
  replace h := h.2 o12 e9
  refine lv_iload_n hx hb d_G_isLess_8 rfl (lv_at hl 1 rfl) ?_
  obtain ⟨a13, e9, h⟩ := h
  subst e9
  obtain ⟨j14, h9, h⟩ := h
  refine r_iald S hZ hG h9 d_G_isLess_9 (fun x15 e9 => ?_)
  replace h := h x15 e9
  obtain ⟨a16, e9, h⟩ := h
  subst e9
  obtain ⟨j17, h9, h⟩ := h
  refine r_iald S hZ hG h9 d_G_isLess_10 (fun x18 e9 => ?_)
  replace h := h x18 e9
  refine lv_aload_n hx hb d_G_isLess_11 rfl (lv_at hl 0 rfl) ?_
  refine r_getR (f := 32) S hZ hG rfl h.1 (hts _ tw_704) (fun _ h9 => h9) d_G_isLess_12 (fun o19 e9 => ?_)
  replace h := h.2 o19 e9
  refine lv_aload_n hx hb d_G_isLess_15 rfl (lv_at hl 0 rfl) ?_
  refine r_getR (f := 35) S hZ hG rfl h.1 (hts _ tw_709) (fun _ h9 => h9) d_G_isLess_16 (fun o20 e9 => ?_)
  replace h := h.2 o20 e9
  refine lv_iload_n hx hb d_G_isLess_19 rfl (lv_at hl 2 rfl) ?_
  obtain ⟨a21, e9, h⟩ := h
  subst e9
  obtain ⟨j22, h9, h⟩ := h
  refine r_iald S hZ hG h9 d_G_isLess_20 (fun x23 e9 => ?_)
  replace h := h x23 e9
  obtain ⟨a24, e9, h⟩ := h
  subst e9
  obtain ⟨j25, h9, h⟩ := h
  refine r_iald S hZ hG h9 d_G_isLess_21 (fun x26 e9 => ?_)
  replace h := h x26 e9
  refine lv_icmp_eq (tgt := 58) hx hb d_G_isLess_22 (by decide) (fun c9 => ?_) (fun c9 => ?_)
  · replace h := h.1 c9
    refine lv_aload_n hx hb d_G_isLess_58 rfl (lv_at hl 0 rfl) ?_
    refine r_getR (f := 36) S hZ hG rfl h.1 (hts _ tw_711) (fun _ h9 => h9) d_G_isLess_59 (fun o27 e9 => ?_)
    replace h := h.2 o27 e9
    refine lv_iload_n hx hb d_G_isLess_62 rfl (lv_at hl 1 rfl) ?_
    obtain ⟨a28, e9, h⟩ := h
    subst e9
    obtain ⟨j29, h9, h⟩ := h
    refine r_iald S hZ hG h9 d_G_isLess_63 (fun x30 e9 => ?_)
    replace h := h x30 e9
    refine lv_aload_n hx hb d_G_isLess_64 rfl (lv_at hl 0 rfl) ?_
    refine r_getR (f := 36) S hZ hG rfl h.1 (hts _ tw_711) (fun _ h9 => h9) d_G_isLess_65 (fun o31 e9 => ?_)
    replace h := h.2 o31 e9
    refine lv_iload_n hx hb d_G_isLess_68 rfl (lv_at hl 2 rfl) ?_
    obtain ⟨a32, e9, h⟩ := h
    subst e9
    obtain ⟨j33, h9, h⟩ := h
    refine r_iald S hZ hG h9 d_G_isLess_69 (fun x34 e9 => ?_)
    replace h := h x34 e9
    refine lv_icmp_ge (tgt := 77) hx hb d_G_isLess_70 (by decide) (fun c9 => ?_) (fun c9 => ?_)
    · replace h := h.1 c9
      refine lv_iconst (v := (0 : Int32)) hx hb d_G_isLess_77 (by decide) ?_
      exact r_zret (v := (0 : Int32)) S hr hlk rfl hG hS h hk.1 hk.2 d_G_isLess_78
    · replace h := h.2 c9
      refine lv_iconst (v := (1 : Int32)) hx hb d_G_isLess_73 (by decide) ?_
      refine lv_goto (tgt := 78) hx hb d_G_isLess_74 (by decide) ?_
      exact r_zret (v := (1 : Int32)) S hr hlk rfl hG hS h hk.1 hk.2 d_G_isLess_78
  · replace h := h.2 c9
    refine lv_aload_n hx hb d_G_isLess_25 rfl (lv_at hl 0 rfl) ?_
    refine r_getR (f := 32) S hZ hG rfl h.1 (hts _ tw_704) (fun _ h9 => h9) d_G_isLess_26 (fun o35 e9 => ?_)
    replace h := h.2 o35 e9
    refine lv_aload_n hx hb d_G_isLess_29 rfl (lv_at hl 0 rfl) ?_
    refine r_getR (f := 35) S hZ hG rfl h.1 (hts _ tw_709) (fun _ h9 => h9) d_G_isLess_30 (fun o36 e9 => ?_)
    replace h := h.2 o36 e9
    refine lv_iload_n hx hb d_G_isLess_33 rfl (lv_at hl 1 rfl) ?_
    obtain ⟨a37, e9, h⟩ := h
    subst e9
    obtain ⟨j38, h9, h⟩ := h
    refine r_iald S hZ hG h9 d_G_isLess_34 (fun x39 e9 => ?_)
    replace h := h x39 e9
    obtain ⟨a40, e9, h⟩ := h
    subst e9
    obtain ⟨j41, h9, h⟩ := h
    refine r_iald S hZ hG h9 d_G_isLess_35 (fun x42 e9 => ?_)
    replace h := h x42 e9
    refine lv_aload_n hx hb d_G_isLess_36 rfl (lv_at hl 0 rfl) ?_
    refine r_getR (f := 32) S hZ hG rfl h.1 (hts _ tw_704) (fun _ h9 => h9) d_G_isLess_37 (fun o43 e9 => ?_)
    replace h := h.2 o43 e9
    refine lv_aload_n hx hb d_G_isLess_40 rfl (lv_at hl 0 rfl) ?_
    refine r_getR (f := 35) S hZ hG rfl h.1 (hts _ tw_709) (fun _ h9 => h9) d_G_isLess_41 (fun o44 e9 => ?_)
    replace h := h.2 o44 e9
    refine lv_iload_n hx hb d_G_isLess_44 rfl (lv_at hl 2 rfl) ?_
    obtain ⟨a45, e9, h⟩ := h
    subst e9
    obtain ⟨j46, h9, h⟩ := h
    refine r_iald S hZ hG h9 d_G_isLess_45 (fun x47 e9 => ?_)
    replace h := h x47 e9
    obtain ⟨a48, e9, h⟩ := h
    subst e9
    obtain ⟨j49, h9, h⟩ := h
    refine r_iald S hZ hG h9 d_G_isLess_46 (fun x50 e9 => ?_)
    replace h := h x50 e9
    refine lv_icmp_ge (tgt := 54) hx hb d_G_isLess_47 (by decide) (fun c9 => ?_) (fun c9 => ?_)
    · replace h := h.1 c9
      refine lv_iconst (v := (0 : Int32)) hx hb d_G_isLess_54 (by decide) ?_
      refine lv_goto (tgt := 78) hx hb d_G_isLess_55 (by decide) ?_
      exact r_zret (v := (0 : Int32)) S hr hlk rfl hG hS h hk.1 hk.2 d_G_isLess_78
    · replace h := h.2 c9
      refine lv_iconst (v := (1 : Int32)) hx hb d_G_isLess_50 (by decide) ?_
      refine lv_goto (tgt := 78) hx hb d_G_isLess_51 (by decide) ?_
      exact r_zret (v := (1 : Int32)) S hr hlk rfl hG hS h hk.1 hk.2 d_G_isLess_78
def w_G_tops_104 (z mi mc ms : Nat) (post : Int32 → Sg → Prop) (k_6 : Nat → Nat → Sg → Nat → Option Nat → Int32 → Option Nat → Int32 → Int32 → Prop) : Nat → Nat → Nat → Sg → Nat → Option Nat → Int32 → Option Nat → Int32 → Int32 → Int32 → Int32 → Prop
  | 0 => fun _ _ _ _ _ _ _ _ _ _ _ => False
  | n + 1 => fun kc ks g this v1 v2 v3 v4 v5 v6 v8 => (v8 ≤ 0 → ∃ a23, v3 = some a23 ∧ (∃ j25 : Nat, inA g a23 100 v8 j25 ∧ ∀ g26 : Sg, g26 = sI g a23 j25 v6 → k_6 kc ks g26 this v1 v2 (some a23) (v4 + (1 : Int32)) (v5 + (1 : Int32)))) ∧ (¬ v8 ≤ 0 → ∃ a29, v3 = some a29 ∧ (∃ j31 : Nat, inA g a29 100 (v8 - (1 : Int32)) j31 ∧ ∀ x32 : Int32, x32 = aI g a29 j31 → (isK g this [5] ∧ ∃ c33 c34 : Nat, kc + c33 ≤ mc ∧ ks + c34 ≤ ms ∧ w_G_isLess z mi c33 c34 (fun (x36 : Int32) (g35 : Sg) => (x36 = 0 → (∃ j37 : Nat, inA g35 a29 100 v8 j37 ∧ ∀ g38 : Sg, g38 = sI g35 a29 j37 v6 → k_6 (kc + c33) (ks + c34) g38 this v1 v2 (some a29) (v4 + (1 : Int32)) (v5 + (1 : Int32)))) ∧ (¬ x36 = 0 → (∃ j41 : Nat, inA g35 a29 100 (v8 - (1 : Int32)) j41 ∧ ∀ x42 : Int32, x42 = aI g35 a29 j41 → (∃ j43 : Nat, inA g35 a29 100 v8 j43 ∧ ∀ g44 : Sg, g44 = sI g35 a29 j43 x42 → w_G_tops_104 z mi mc ms post k_6 n (kc + c33) (ks + c34) g44 this v1 v2 (some a29) v4 v5 v6 (v8 + (-1 : Int32)))))) g this v6 x32)))
set_option maxHeartbeats 4000000 in
set_option maxRecDepth 100000 in
theorem s_G_tops_104 {p : Program} {l : Launch} {e : Env} {s : State} {m : MethodId} {args : Array Value} {below : List Frame} {meth : Method} {c : Code} {D : va_G} {cA : Nat → ClassId} {sz z mi mc ms : Nat} {post : Int32 → Sg → Prop}  {k_6 : Nat → Nat → Sg → Nat → Option Nat → Int32 → Option Nat → Int32 → Int32 → Prop} (S : CallFix p m c b_G_tops 9 s args TBL "WeaveCoreModel$Graph") (hZ : Ws D cA sz z mi s) (hr : meth.sig.returnType = (some FieldType.int)) (hlk : meth.locks = false) (hk_6 : ∀ (kc ks : Nat) (g : Sg) (this : Nat) (v1 : Option Nat) (v2 : Int32) (v3 : Option Nat) (v4 : Int32) (v5 : Int32) (H : Heap) (locs : List Loc) (ls : Array Slot), kc ≤ mc ∧ ks ≤ ms → k_6 kc ks g this v1 v2 v3 v4 v5 → WP D cA sz g H → va_S (oA sz) s.heap H locs → lv_has ls 9 [(0, .ref this), (1, va_rf v1), (2, .int v2), (3, va_rf v3), (4, .int v4), (5, .int v5)] → W p l e ({ frames := 1, cells := mc, slots := ms, locals := 23 } : Room) s m args below meth c H locs kc ks (MQ below (Qg D cA sz (pI post)) args s mc ms (oA sz)) (F0 m 6 ls [])) :
    ∀ n : Nat, ∀ (kc ks : Nat) (g : Sg) (this : Nat) (v1 : Option Nat) (v2 : Int32) (v3 : Option Nat) (v4 : Int32) (v5 : Int32) (v6 : Int32) (v8 : Int32) (H : Heap) (locs : List Loc) (ls : Array Slot), kc ≤ mc ∧ ks ≤ ms → w_G_tops_104 z mi mc ms post k_6 n kc ks g this v1 v2 v3 v4 v5 v6 v8 → WP D cA sz g H → va_S (oA sz) s.heap H locs → lv_has ls 9 [(0, .ref this), (1, va_rf v1), (2, .int v2), (3, va_rf v3), (4, .int v4), (5, .int v5), (6, .int v6), (8, .int v8)] → W p l e ({ frames := 1, cells := mc, slots := ms, locals := 23 } : Room) s m args below meth c H locs kc ks (MQ below (Qg D cA sz (pI post)) args s mc ms (oA sz)) (F0 m 104 ls []) := by
  obtain ⟨hx, hb, hml, hown, hts⟩ := id S
  intro n
  induction n with
  | zero =>
    intro kc ks g this v1 v2 v3 v4 v5 v6 v8 H locs ls hk h hG hS hl
    exact h.elim
  | succ n ih =>
    intro kc ks g this v1 v2 v3 v4 v5 v6 v8 H locs ls hk h hG hS hl
    refine lv_iload hx hb d_G_tops_104 (lv_at hl 7 rfl) ?_
    refine lv_if_le (tgt := 140) hx hb d_G_tops_106 (by decide) (fun c9 => ?_) (fun c9 => ?_)
    · replace h := h.1 c9
      refine q_aload_n hx hb d_G_tops_140 rfl (lv_at hl 3 rfl) ?_
      refine lv_iload hx hb d_G_tops_141 (lv_at hl 7 rfl) ?_
      refine lv_iload hx hb d_G_tops_143 (lv_at hl 6 rfl) ?_
      obtain ⟨a23, e9, h⟩ := h
      subst e9
      have hl24 : lv_has ls 9 [(0, .ref this), (1, va_rf v1), (2, .int v2), (3, .ref a23), (4, .int v4), (5, .int v5), (6, .int v6), (8, .int v8)] := hl
      obtain ⟨j25, h9, h⟩ := h
      refine r_iast S hZ hG hS h9 d_G_tops_145 (fun g26 H locs e9 hG hS => ?_)
      replace h := h g26 e9
      refine q_iinc (k := 4) (v := v4 + (1 : Int32)) (lv' := [(4, .int (v4 + (1 : Int32))), (0, .ref this), (1, va_rf v1), (2, .int v2), (3, .ref a23), (5, .int v5), (6, .int v6), (8, .int v8)]) hx hb d_G_tops_146 hl24 rfl rfl (by decide) (.n (.k 0 rfl (by decide) (by decide) (.k 1 rfl (by decide) (by decide) (.k 2 rfl (by decide) (by decide) (.c 3 rfl (by decide) rfl (.k 5 rfl (by decide) (by decide) (.k 6 rfl (by decide) (by decide) (.k 7 rfl (by decide) (by decide) .e)))))))) (fun ls27 hl27 => ?_)
      refine q_iinc (k := 5) (v := v5 + (1 : Int32)) (lv' := [(5, .int (v5 + (1 : Int32))), (4, .int (v4 + (1 : Int32))), (0, .ref this), (1, va_rf v1), (2, .int v2), (3, .ref a23), (6, .int v6), (8, .int v8)]) hx hb d_G_tops_149 hl27 rfl rfl (by decide) (.n (.c 0 rfl (by decide) rfl (.k 1 rfl (by decide) (by decide) (.k 2 rfl (by decide) (by decide) (.k 3 rfl (by decide) (by decide) (.k 4 rfl (by decide) (by decide) (.k 6 rfl (by decide) (by decide) (.k 7 rfl (by decide) (by decide) .e)))))))) (fun ls28 hl28 => ?_)
      refine lv_goto (tgt := 6) hx hb d_G_tops_152 (by decide) ?_
      exact hk_6 _ _ _ _ _ _ _ _ _ _ _ _ hk h hG hS (lv_sub hl28 [2, 3, 4, 5, 1, 0] rfl)
    · replace h := h.2 c9
      refine lv_aload_n hx hb d_G_tops_109 rfl (lv_at hl 0 rfl) ?_
      refine lv_iload hx hb d_G_tops_110 (lv_at hl 6 rfl) ?_
      refine q_aload_n hx hb d_G_tops_112 rfl (lv_at hl 3 rfl) ?_
      refine lv_iload hx hb d_G_tops_113 (lv_at hl 7 rfl) ?_
      refine lv_iconst (v := (1 : Int32)) hx hb d_G_tops_115 (by decide) ?_
      refine lv_isub hx hb d_G_tops_116 ?_
      obtain ⟨a29, e9, h⟩ := h
      subst e9
      have hl30 : lv_has ls 9 [(0, .ref this), (1, va_rf v1), (2, .int v2), (3, .ref a29), (4, .int v4), (5, .int v5), (6, .int v6), (8, .int v8)] := hl
      obtain ⟨j31, h9, h⟩ := h
      refine r_iald S hZ hG h9 d_G_tops_117 (fun x32 e9 => ?_)
      replace h := h x32 e9
      obtain ⟨h9, h⟩ := h
      obtain ⟨c33, c34, k1, k2, h⟩ := h
      obtain ⟨n9, h9⟩ := isK1 h9
      refine q_callI (run_V (As := [.int v6, .int x32]) (rest := []) S hZ hG hS (s_G_isLess h) tw_852 tw_849 tw_850 tw_851 tw_9 nk_G_isLess h9 (by decide) rfl ⟨Nat.le_of_ble_eq_true rfl, Nat.le_of_ble_eq_true rfl⟩ rfl hl30.1 rfl (by decide) d_G_tops_118 ⟨k1, k2⟩) hS (fun x36 g35 H locs h46 hG hS => ?_)
      have hk := And.intro k1 k2
      replace h := h46
      refine lv_if_eq (tgt := 140) hx hb d_G_tops_121 (by decide) (fun c9 => ?_) (fun c9 => ?_)
      · replace h := h.1 c9
        refine lv_aload_n hx hb d_G_tops_140 rfl (lv_at hl30 3 rfl) ?_
        refine lv_iload hx hb d_G_tops_141 (lv_at hl30 7 rfl) ?_
        refine lv_iload hx hb d_G_tops_143 (lv_at hl30 6 rfl) ?_
        obtain ⟨j37, h9, h⟩ := h
        refine r_iast S hZ hG hS h9 d_G_tops_145 (fun g38 H locs e9 hG hS => ?_)
        replace h := h g38 e9
        refine q_iinc (k := 4) (v := v4 + (1 : Int32)) (lv' := [(4, .int (v4 + (1 : Int32))), (0, .ref this), (1, va_rf v1), (2, .int v2), (3, .ref a29), (5, .int v5), (6, .int v6), (8, .int v8)]) hx hb d_G_tops_146 hl30 rfl rfl (by decide) (.n (.k 0 rfl (by decide) (by decide) (.k 1 rfl (by decide) (by decide) (.k 2 rfl (by decide) (by decide) (.c 3 rfl (by decide) rfl (.k 5 rfl (by decide) (by decide) (.k 6 rfl (by decide) (by decide) (.k 7 rfl (by decide) (by decide) .e)))))))) (fun ls39 hl39 => ?_)
        refine q_iinc (k := 5) (v := v5 + (1 : Int32)) (lv' := [(5, .int (v5 + (1 : Int32))), (4, .int (v4 + (1 : Int32))), (0, .ref this), (1, va_rf v1), (2, .int v2), (3, .ref a29), (6, .int v6), (8, .int v8)]) hx hb d_G_tops_149 hl39 rfl rfl (by decide) (.n (.c 0 rfl (by decide) rfl (.k 1 rfl (by decide) (by decide) (.k 2 rfl (by decide) (by decide) (.k 3 rfl (by decide) (by decide) (.k 4 rfl (by decide) (by decide) (.k 6 rfl (by decide) (by decide) (.k 7 rfl (by decide) (by decide) .e)))))))) (fun ls40 hl40 => ?_)
        refine lv_goto (tgt := 6) hx hb d_G_tops_152 (by decide) ?_
        exact hk_6 _ _ _ _ _ _ _ _ _ _ _ _ hk h hG hS (lv_sub hl40 [2, 3, 4, 5, 1, 0] rfl)
      · replace h := h.2 c9
        refine lv_aload_n hx hb d_G_tops_124 rfl (lv_at hl30 3 rfl) ?_
        refine lv_iload hx hb d_G_tops_125 (lv_at hl30 7 rfl) ?_
        refine lv_aload_n hx hb d_G_tops_127 rfl (lv_at hl30 3 rfl) ?_
        refine lv_iload hx hb d_G_tops_128 (lv_at hl30 7 rfl) ?_
        refine lv_iconst (v := (1 : Int32)) hx hb d_G_tops_130 (by decide) ?_
        refine lv_isub hx hb d_G_tops_131 ?_
        obtain ⟨j41, h9, h⟩ := h
        refine r_iald S hZ hG h9 d_G_tops_132 (fun x42 e9 => ?_)
        replace h := h x42 e9
        obtain ⟨j43, h9, h⟩ := h
        refine r_iast S hZ hG hS h9 d_G_tops_133 (fun g44 H locs e9 hG hS => ?_)
        replace h := h g44 e9
        refine q_iinc (k := 7) (v := v8 + (-1 : Int32)) (lv' := [(8, .int (v8 + (-1 : Int32))), (0, .ref this), (1, va_rf v1), (2, .int v2), (3, .ref a29), (4, .int v4), (5, .int v5), (6, .int v6)]) hx hb d_G_tops_134 hl30 rfl rfl (by decide) (.n (.k 0 rfl (by decide) (by decide) (.k 1 rfl (by decide) (by decide) (.k 2 rfl (by decide) (by decide) (.k 3 rfl (by decide) (by decide) (.k 4 rfl (by decide) (by decide) (.k 5 rfl (by decide) (by decide) (.k 6 rfl (by decide) (by decide) .e)))))))) (fun ls45 hl45 => ?_)
        refine lv_goto (tgt := 104) hx hb d_G_tops_137 (by decide) ?_
        exact ih _ _ _ _ _ _ _ _ _ _ _ _ _ _ hk h hG hS (lv_sub hl45 [1, 2, 3, 4, 5, 6, 7, 0] rfl)
def w_G_tops_39 (z mi mc ms : Nat) (post : Int32 → Sg → Prop) (k_6 : Nat → Nat → Sg → Nat → Option Nat → Int32 → Option Nat → Int32 → Int32 → Prop) : Nat → Nat → Nat → Sg → Nat → Option Nat → Int32 → Option Nat → Int32 → Int32 → Int32 → Int32 → Int32 → Prop
  | 0 => fun _ _ _ _ _ _ _ _ _ _ _ _ => False
  | n + 1 => fun kc ks g this v1 v2 v3 v4 v5 v6 v7 v8 => (hasI g this 30 ∧ ∀ x21 : Int32, x21 = fI g 30 this → (x21 ≤ v8 → (¬ v7 = 0 → (∃ n47 : Nat, w_G_tops_104 z mi mc ms post k_6 n47 kc ks g this v1 v2 v3 v4 v5 v6 v4)) ∧ (v7 = 0 → k_6 kc ks g this v1 v2 v3 v4 (v5 + (1 : Int32)))) ∧ (¬ x21 ≤ v8 → (isK g this [5] ∧ ∃ c49 c50 : Nat, kc + c49 ≤ mc ∧ ks + c50 ≤ ms ∧ w_G_lastIn z mi c49 c50 (fun (x52 : Int32) (g51 : Sg) => (x52 < 0 → w_G_tops_39 z mi mc ms post k_6 n (kc + c49) (ks + c50) g51 this v1 v2 v3 v4 v5 v6 v7 (v8 + (1 : Int32))) ∧ (¬ x52 < 0 → (isK g51 this [5] ∧ ∃ c54 c55 : Nat, (kc + c49) + c54 ≤ mc ∧ (ks + c50) + c55 ≤ ms ∧ w_G_lastIn z mi c54 c55 (fun (x57 : Int32) (g56 : Sg) => (isK g56 this [5] ∧ ∃ c58 c59 : Nat, ((kc + c49) + c54) + c58 ≤ mc ∧ ((ks + c50) + c55) + c59 ≤ ms ∧ w_G_isBefore z mi c58 c59 (fun (x61 : Int32) (g60 : Sg) => (¬ x61 = 0 → w_G_tops_39 z mi mc ms post k_6 n (((kc + c49) + c54) + c58) (((ks + c50) + c55) + c59) g60 this v1 v2 v3 v4 v5 v6 (v7 &&& (0 : Int32)) (v8 + (1 : Int32))) ∧ (x61 = 0 → w_G_tops_39 z mi mc ms post k_6 n (((kc + c49) + c54) + c58) (((ks + c50) + c55) + c59) g60 this v1 v2 v3 v4 v5 v6 (v7 &&& (1 : Int32)) (v8 + (1 : Int32)))) g56 this v6 x57)) g51 this v1 v2 v8))) g this v1 v2 v8)))
set_option maxHeartbeats 4000000 in
set_option maxRecDepth 100000 in
theorem s_G_tops_39 {p : Program} {l : Launch} {e : Env} {s : State} {m : MethodId} {args : Array Value} {below : List Frame} {meth : Method} {c : Code} {D : va_G} {cA : Nat → ClassId} {sz z mi mc ms : Nat} {post : Int32 → Sg → Prop}  {k_6 : Nat → Nat → Sg → Nat → Option Nat → Int32 → Option Nat → Int32 → Int32 → Prop} (S : CallFix p m c b_G_tops 9 s args TBL "WeaveCoreModel$Graph") (hZ : Ws D cA sz z mi s) (hr : meth.sig.returnType = (some FieldType.int)) (hlk : meth.locks = false) (hk_6 : ∀ (kc ks : Nat) (g : Sg) (this : Nat) (v1 : Option Nat) (v2 : Int32) (v3 : Option Nat) (v4 : Int32) (v5 : Int32) (H : Heap) (locs : List Loc) (ls : Array Slot), kc ≤ mc ∧ ks ≤ ms → k_6 kc ks g this v1 v2 v3 v4 v5 → WP D cA sz g H → va_S (oA sz) s.heap H locs → lv_has ls 9 [(0, .ref this), (1, va_rf v1), (2, .int v2), (3, va_rf v3), (4, .int v4), (5, .int v5)] → W p l e ({ frames := 1, cells := mc, slots := ms, locals := 23 } : Room) s m args below meth c H locs kc ks (MQ below (Qg D cA sz (pI post)) args s mc ms (oA sz)) (F0 m 6 ls [])) :
    ∀ n : Nat, ∀ (kc ks : Nat) (g : Sg) (this : Nat) (v1 : Option Nat) (v2 : Int32) (v3 : Option Nat) (v4 : Int32) (v5 : Int32) (v6 : Int32) (v7 : Int32) (v8 : Int32) (H : Heap) (locs : List Loc) (ls : Array Slot), kc ≤ mc ∧ ks ≤ ms → w_G_tops_39 z mi mc ms post k_6 n kc ks g this v1 v2 v3 v4 v5 v6 v7 v8 → WP D cA sz g H → va_S (oA sz) s.heap H locs → lv_has ls 9 [(0, .ref this), (1, va_rf v1), (2, .int v2), (3, va_rf v3), (4, .int v4), (5, .int v5), (6, .int v6), (7, .int v7), (8, .int v8)] → W p l e ({ frames := 1, cells := mc, slots := ms, locals := 23 } : Room) s m args below meth c H locs kc ks (MQ below (Qg D cA sz (pI post)) args s mc ms (oA sz)) (F0 m 39 ls []) := by
  obtain ⟨hx, hb, hml, hown, hts⟩ := id S
  intro n
  induction n with
  | zero =>
    intro kc ks g this v1 v2 v3 v4 v5 v6 v7 v8 H locs ls hk h hG hS hl
    exact h.elim
  | succ n ih =>
    intro kc ks g this v1 v2 v3 v4 v5 v6 v7 v8 H locs ls hk h hG hS hl
    refine lv_iload hx hb d_G_tops_39 (lv_at hl 8 rfl) ?_
    refine lv_aload_n hx hb d_G_tops_41 rfl (lv_at hl 0 rfl) ?_
    refine r_getI (f := 30) S hZ hG rfl h.1 (hts _ tw_700) (fun _ h9 => h9) d_G_tops_42 (fun x21 e9 => ?_)
    replace h := h.2 x21 e9
    refine lv_icmp_ge (tgt := 92) hx hb d_G_tops_45 (by decide) (fun c9 => ?_) (fun c9 => ?_)
    · replace h := h.1 c9
      refine lv_iload hx hb d_G_tops_92 (lv_at hl 7 rfl) ?_
      refine lv_if_ne (tgt := 100) hx hb d_G_tops_94 (by decide) (fun c9 => ?_) (fun c9 => ?_)
      · replace h := h.1 c9
        refine lv_iload hx hb d_G_tops_100 (lv_at hl 4 rfl) ?_
        refine q_istore (lv' := [(8, .int v4), (0, .ref this), (1, va_rf v1), (2, .int v2), (3, va_rf v3), (4, .int v4), (5, .int v5), (6, .int v6), (7, .int v7)]) hx hb d_G_tops_102 hl (by decide) (.n (.k 0 rfl (by decide) (by decide) (.k 1 rfl (by decide) (by decide) (.k 2 rfl (by decide) (by decide) (.k 3 rfl (by decide) (by decide) (.k 4 rfl (by decide) (by decide) (.k 5 rfl (by decide) (by decide) (.k 6 rfl (by decide) (by decide) (.c 7 rfl (by decide) rfl .e))))))))) (fun ls22 hl22 => ?_)
        obtain ⟨n47, h⟩ := h
        exact s_G_tops_104 S hZ hr hlk hk_6 n47 _ _ _ _ _ _ _ _ _ _ _ _ _ _ hk h hG hS (lv_sub hl22 [1, 2, 3, 4, 5, 6, 7, 0] rfl)
      · replace h := h.2 c9
        refine lv_goto (tgt := 149) hx hb d_G_tops_97 (by decide) ?_
        refine q_iinc (k := 5) (v := v5 + (1 : Int32)) (lv' := [(5, .int (v5 + (1 : Int32))), (0, .ref this), (1, va_rf v1), (2, .int v2), (3, va_rf v3), (4, .int v4), (6, .int v6), (7, .int v7), (8, .int v8)]) hx hb d_G_tops_149 hl rfl rfl (by decide) (.n (.k 0 rfl (by decide) (by decide) (.k 1 rfl (by decide) (by decide) (.k 2 rfl (by decide) (by decide) (.k 3 rfl (by decide) (by decide) (.c 4 rfl (by decide) rfl (.k 6 rfl (by decide) (by decide) (.k 7 rfl (by decide) (by decide) (.k 8 rfl (by decide) (by decide) .e))))))))) (fun ls48 hl48 => ?_)
        refine lv_goto (tgt := 6) hx hb d_G_tops_152 (by decide) ?_
        exact hk_6 _ _ _ _ _ _ _ _ _ _ _ _ hk h hG hS (lv_sub hl48 [1, 2, 3, 4, 5, 0] rfl)
    · replace h := h.2 c9
      refine lv_aload_n hx hb d_G_tops_48 rfl (lv_at hl 0 rfl) ?_
      refine q_aload_n hx hb d_G_tops_49 rfl (lv_at hl 1 rfl) ?_
      refine lv_iload_n hx hb d_G_tops_50 rfl (lv_at hl 2 rfl) ?_
      refine lv_iload hx hb d_G_tops_51 (lv_at hl 8 rfl) ?_
      obtain ⟨h9, h⟩ := h
      obtain ⟨c49, c50, k1, k2, h⟩ := h
      obtain ⟨n9, h9⟩ := isK1 h9
      refine q_callI (run_V (As := [va_rf v1, .int v2, .int v8]) (rest := []) S hZ hG hS (s_G_lastIn h) tw_844 tw_841 tw_843 tp_35 tw_9 nk_G_lastIn h9 (by decide) rfl ⟨Nat.le_of_ble_eq_true rfl, Nat.le_of_ble_eq_true rfl⟩ rfl hl.1 rfl (by decide) d_G_tops_53 ⟨k1, k2⟩) hS (fun x52 g51 H locs h68 hG hS => ?_)
      have hk := And.intro k1 k2
      replace h := h68
      refine lv_if_lt (tgt := 86) hx hb d_G_tops_56 (by decide) (fun c9 => ?_) (fun c9 => ?_)
      · replace h := h.1 c9
        refine q_iinc (k := 8) (v := v8 + (1 : Int32)) (lv' := [(8, .int (v8 + (1 : Int32))), (0, .ref this), (1, va_rf v1), (2, .int v2), (3, va_rf v3), (4, .int v4), (5, .int v5), (6, .int v6), (7, .int v7)]) hx hb d_G_tops_86 hl rfl rfl (by decide) (.n (.k 0 rfl (by decide) (by decide) (.k 1 rfl (by decide) (by decide) (.k 2 rfl (by decide) (by decide) (.k 3 rfl (by decide) (by decide) (.k 4 rfl (by decide) (by decide) (.k 5 rfl (by decide) (by decide) (.k 6 rfl (by decide) (by decide) (.c 7 rfl (by decide) rfl .e))))))))) (fun ls53 hl53 => ?_)
        refine lv_goto (tgt := 39) hx hb d_G_tops_89 (by decide) ?_
        exact ih _ _ _ _ _ _ _ _ _ _ _ _ _ _ _ hk h hG hS (lv_sub hl53 [1, 2, 3, 4, 5, 6, 7, 8, 0] rfl)
      · replace h := h.2 c9
        refine lv_iload hx hb d_G_tops_59 (lv_at hl 7 rfl) ?_
        refine lv_aload_n hx hb d_G_tops_61 rfl (lv_at hl 0 rfl) ?_
        refine lv_iload hx hb d_G_tops_62 (lv_at hl 6 rfl) ?_
        refine lv_aload_n hx hb d_G_tops_64 rfl (lv_at hl 0 rfl) ?_
        refine q_aload_n hx hb d_G_tops_65 rfl (lv_at hl 1 rfl) ?_
        refine lv_iload_n hx hb d_G_tops_66 rfl (lv_at hl 2 rfl) ?_
        refine lv_iload hx hb d_G_tops_67 (lv_at hl 8 rfl) ?_
        obtain ⟨h9, h⟩ := h
        obtain ⟨c54, c55, k1, k2, h⟩ := h
        obtain ⟨n9, h9⟩ := isK1 h9
        refine q_callI (run_V (As := [va_rf v1, .int v2, .int v8]) (rest := [.int v6, .ref this, .int v7]) S hZ hG hS (s_G_lastIn h) tw_844 tw_841 tw_843 tp_35 tw_9 nk_G_lastIn h9 (by decide) rfl ⟨Nat.le_of_ble_eq_true rfl, Nat.le_of_ble_eq_true rfl⟩ rfl hl.1 rfl (Nat.le_of_ble_eq_true rfl) d_G_tops_69 ⟨k1, k2⟩) hS (fun x57 g56 H locs h67 hG hS => ?_)
        have hk := And.intro k1 k2
        replace h := h67
        obtain ⟨h9, h⟩ := h
        obtain ⟨c58, c59, k1, k2, h⟩ := h
        obtain ⟨n9, h9⟩ := isK1 h9
        refine q_callI (run_V (As := [.int v6, .int x57]) (rest := [.int v7]) S hZ hG hS (s_G_isBefore h) tw_848 tw_845 tw_846 tw_847 tw_9 nk_G_isBefore h9 (by decide) rfl ⟨Nat.le_of_ble_eq_true rfl, Nat.le_of_ble_eq_true rfl⟩ rfl hl.1 rfl (Nat.le_of_ble_eq_true rfl) d_G_tops_72 ⟨k1, k2⟩) hS (fun x61 g60 H locs h66 hG hS => ?_)
        have hk := And.intro k1 k2
        replace h := h66
        refine lv_if_ne (tgt := 82) hx hb d_G_tops_75 (by decide) (fun c9 => ?_) (fun c9 => ?_)
        · replace h := h.1 c9
          refine lv_iconst (v := (0 : Int32)) hx hb d_G_tops_82 (by decide) ?_
          refine lv_iand hx hb d_G_tops_83 ?_
          refine q_istore (lv' := [(7, .int (v7 &&& (0 : Int32))), (0, .ref this), (1, va_rf v1), (2, .int v2), (3, va_rf v3), (4, .int v4), (5, .int v5), (6, .int v6), (8, .int v8)]) hx hb d_G_tops_84 hl (by decide) (.n (.k 0 rfl (by decide) (by decide) (.k 1 rfl (by decide) (by decide) (.k 2 rfl (by decide) (by decide) (.k 3 rfl (by decide) (by decide) (.k 4 rfl (by decide) (by decide) (.k 5 rfl (by decide) (by decide) (.c 6 rfl (by decide) rfl (.k 8 rfl (by decide) (by decide) .e))))))))) (fun ls62 hl62 => ?_)
          refine q_iinc (k := 8) (v := v8 + (1 : Int32)) (lv' := [(8, .int (v8 + (1 : Int32))), (7, .int (v7 &&& (0 : Int32))), (0, .ref this), (1, va_rf v1), (2, .int v2), (3, va_rf v3), (4, .int v4), (5, .int v5), (6, .int v6)]) hx hb d_G_tops_86 hl62 rfl rfl (by decide) (.n (.c 0 rfl (by decide) rfl (.k 1 rfl (by decide) (by decide) (.k 2 rfl (by decide) (by decide) (.k 3 rfl (by decide) (by decide) (.k 4 rfl (by decide) (by decide) (.k 5 rfl (by decide) (by decide) (.k 6 rfl (by decide) (by decide) (.k 7 rfl (by decide) (by decide) .e))))))))) (fun ls63 hl63 => ?_)
          refine lv_goto (tgt := 39) hx hb d_G_tops_89 (by decide) ?_
          exact ih _ _ _ _ _ _ _ _ _ _ _ _ _ _ _ hk h hG hS (lv_sub hl63 [2, 3, 4, 5, 6, 7, 8, 1, 0] rfl)
        · replace h := h.2 c9
          refine lv_iconst (v := (1 : Int32)) hx hb d_G_tops_78 (by decide) ?_
          refine lv_goto (tgt := 83) hx hb d_G_tops_79 (by decide) ?_
          refine lv_iand hx hb d_G_tops_83 ?_
          refine q_istore (lv' := [(7, .int (v7 &&& (1 : Int32))), (0, .ref this), (1, va_rf v1), (2, .int v2), (3, va_rf v3), (4, .int v4), (5, .int v5), (6, .int v6), (8, .int v8)]) hx hb d_G_tops_84 hl (by decide) (.n (.k 0 rfl (by decide) (by decide) (.k 1 rfl (by decide) (by decide) (.k 2 rfl (by decide) (by decide) (.k 3 rfl (by decide) (by decide) (.k 4 rfl (by decide) (by decide) (.k 5 rfl (by decide) (by decide) (.c 6 rfl (by decide) rfl (.k 8 rfl (by decide) (by decide) .e))))))))) (fun ls64 hl64 => ?_)
          refine q_iinc (k := 8) (v := v8 + (1 : Int32)) (lv' := [(8, .int (v8 + (1 : Int32))), (7, .int (v7 &&& (1 : Int32))), (0, .ref this), (1, va_rf v1), (2, .int v2), (3, va_rf v3), (4, .int v4), (5, .int v5), (6, .int v6)]) hx hb d_G_tops_86 hl64 rfl rfl (by decide) (.n (.c 0 rfl (by decide) rfl (.k 1 rfl (by decide) (by decide) (.k 2 rfl (by decide) (by decide) (.k 3 rfl (by decide) (by decide) (.k 4 rfl (by decide) (by decide) (.k 5 rfl (by decide) (by decide) (.k 6 rfl (by decide) (by decide) (.k 7 rfl (by decide) (by decide) .e))))))))) (fun ls65 hl65 => ?_)
          refine lv_goto (tgt := 39) hx hb d_G_tops_89 (by decide) ?_
          exact ih _ _ _ _ _ _ _ _ _ _ _ _ _ _ _ hk h hG hS (lv_sub hl65 [2, 3, 4, 5, 6, 7, 8, 1, 0] rfl)
def w_G_tops_6 (z mi mc ms : Nat) (post : Int32 → Sg → Prop) : Nat → Nat → Nat → Sg → Nat → Option Nat → Int32 → Option Nat → Int32 → Int32 → Prop
  | 0 => fun _ _ _ _ _ _ _ _ _ => False
  | n + 1 => fun kc ks g this v1 v2 v3 v4 v5 => (hasI g this 30 ∧ ∀ x13 : Int32, x13 = fI g 30 this → (x13 ≤ v5 → post v4 g) ∧ (¬ x13 ≤ v5 → (isK g this [5] ∧ ∃ c14 c15 : Nat, kc + c14 ≤ mc ∧ ks + c15 ≤ ms ∧ w_G_lastIn z mi c14 c15 (fun (x17 : Int32) (g16 : Sg) => (0 ≤ x17 → (∃ n69 : Nat, w_G_tops_39 z mi mc ms post (w_G_tops_6 z mi mc ms post n) n69 (kc + c14) (ks + c15) g16 this v1 v2 v3 v4 v5 x17 (1 : Int32) (0 : Int32))) ∧ (¬ 0 ≤ x17 → w_G_tops_6 z mi mc ms post n (kc + c14) (ks + c15) g16 this v1 v2 v3 v4 (v5 + (1 : Int32)))) g this v1 v2 v5)))
set_option maxHeartbeats 4000000 in
set_option maxRecDepth 100000 in
theorem s_G_tops_6 {p : Program} {l : Launch} {e : Env} {s : State} {m : MethodId} {args : Array Value} {below : List Frame} {meth : Method} {c : Code} {D : va_G} {cA : Nat → ClassId} {sz z mi mc ms : Nat} {post : Int32 → Sg → Prop} (S : CallFix p m c b_G_tops 9 s args TBL "WeaveCoreModel$Graph") (hZ : Ws D cA sz z mi s) (hr : meth.sig.returnType = (some FieldType.int)) (hlk : meth.locks = false) :
    ∀ n : Nat, ∀ (kc ks : Nat) (g : Sg) (this : Nat) (v1 : Option Nat) (v2 : Int32) (v3 : Option Nat) (v4 : Int32) (v5 : Int32) (H : Heap) (locs : List Loc) (ls : Array Slot), kc ≤ mc ∧ ks ≤ ms → w_G_tops_6 z mi mc ms post n kc ks g this v1 v2 v3 v4 v5 → WP D cA sz g H → va_S (oA sz) s.heap H locs → lv_has ls 9 [(0, .ref this), (1, va_rf v1), (2, .int v2), (3, va_rf v3), (4, .int v4), (5, .int v5)] → W p l e ({ frames := 1, cells := mc, slots := ms, locals := 23 } : Room) s m args below meth c H locs kc ks (MQ below (Qg D cA sz (pI post)) args s mc ms (oA sz)) (F0 m 6 ls []) := by
  obtain ⟨hx, hb, hml, hown, hts⟩ := id S
  intro n
  induction n with
  | zero =>
    intro kc ks g this v1 v2 v3 v4 v5 H locs ls hk h hG hS hl
    exact h.elim
  | succ n ih =>
    intro kc ks g this v1 v2 v3 v4 v5 H locs ls hk h hG hS hl
    refine lv_iload hx hb d_G_tops_6 (lv_at hl 5 rfl) ?_
    refine lv_aload_n hx hb d_G_tops_8 rfl (lv_at hl 0 rfl) ?_
    refine r_getI (f := 30) S hZ hG rfl h.1 (hts _ tw_700) (fun _ h9 => h9) d_G_tops_9 (fun x13 e9 => ?_)
    replace h := h.2 x13 e9
    refine lv_icmp_ge (tgt := 155) hx hb d_G_tops_12 (by decide) (fun c9 => ?_) (fun c9 => ?_)
    · replace h := h.1 c9
      refine lv_iload hx hb d_G_tops_155 (lv_at hl 4 rfl) ?_
      exact r_iret (v := v4) S hr hlk hG hS h hk.1 hk.2 d_G_tops_157
    · replace h := h.2 c9
      refine lv_aload_n hx hb d_G_tops_15 rfl (lv_at hl 0 rfl) ?_
      refine q_aload_n hx hb d_G_tops_16 rfl (lv_at hl 1 rfl) ?_
      refine lv_iload_n hx hb d_G_tops_17 rfl (lv_at hl 2 rfl) ?_
      refine lv_iload hx hb d_G_tops_18 (lv_at hl 5 rfl) ?_
      obtain ⟨h9, h⟩ := h
      obtain ⟨c14, c15, k1, k2, h⟩ := h
      obtain ⟨n9, h9⟩ := isK1 h9
      refine q_callI (run_V (As := [va_rf v1, .int v2, .int v5]) (rest := []) S hZ hG hS (s_G_lastIn h) tw_844 tw_841 tw_843 tp_35 tw_9 nk_G_lastIn h9 (by decide) rfl ⟨Nat.le_of_ble_eq_true rfl, Nat.le_of_ble_eq_true rfl⟩ rfl hl.1 rfl (by decide) d_G_tops_20 ⟨k1, k2⟩) hS (fun x17 g16 H locs h71 hG hS => ?_)
      have hk := And.intro k1 k2
      replace h := h71
      refine q_istore (lv' := [(6, .int x17), (0, .ref this), (1, va_rf v1), (2, .int v2), (3, va_rf v3), (4, .int v4), (5, .int v5)]) hx hb d_G_tops_23 hl (by decide) (.n (.k 0 rfl (by decide) (by decide) (.k 1 rfl (by decide) (by decide) (.k 2 rfl (by decide) (by decide) (.k 3 rfl (by decide) (by decide) (.k 4 rfl (by decide) (by decide) (.c 5 rfl (by decide) rfl .e))))))) (fun ls18 hl18 => ?_)
      refine lv_iload hx hb d_G_tops_25 (lv_at hl18 0 rfl) ?_
      refine lv_if_ge (tgt := 33) hx hb d_G_tops_27 (by decide) (fun c9 => ?_) (fun c9 => ?_)
      · replace h := h.1 c9
        refine lv_iconst (v := (1 : Int32)) hx hb d_G_tops_33 (by decide) ?_
        refine q_istore (lv' := [(7, .int ((1 : Int32))), (6, .int x17), (0, .ref this), (1, va_rf v1), (2, .int v2), (3, va_rf v3), (4, .int v4), (5, .int v5)]) hx hb d_G_tops_34 hl18 (by decide) (.n (.c 0 rfl (by decide) rfl (.k 1 rfl (by decide) (by decide) (.k 2 rfl (by decide) (by decide) (.k 3 rfl (by decide) (by decide) (.k 4 rfl (by decide) (by decide) (.k 5 rfl (by decide) (by decide) (.k 6 rfl (by decide) (by decide) .e)))))))) (fun ls19 hl19 => ?_)
        refine lv_iconst (v := (0 : Int32)) hx hb d_G_tops_36 (by decide) ?_
        refine q_istore (lv' := [(8, .int ((0 : Int32))), (7, .int ((1 : Int32))), (6, .int x17), (0, .ref this), (1, va_rf v1), (2, .int v2), (3, va_rf v3), (4, .int v4), (5, .int v5)]) hx hb d_G_tops_37 hl19 (by decide) (.n (.c 0 rfl (by decide) rfl (.k 1 rfl (by decide) (by decide) (.k 2 rfl (by decide) (by decide) (.k 3 rfl (by decide) (by decide) (.k 4 rfl (by decide) (by decide) (.k 5 rfl (by decide) (by decide) (.k 6 rfl (by decide) (by decide) (.k 7 rfl (by decide) (by decide) .e))))))))) (fun ls20 hl20 => ?_)
        obtain ⟨n69, h⟩ := h
        exact s_G_tops_39 S hZ hr hlk ih n69 _ _ _ _ _ _ _ _ _ _ _ _ _ _ _ hk h hG hS (lv_sub hl20 [3, 4, 5, 6, 7, 8, 2, 1, 0] rfl)
      · replace h := h.2 c9
        refine lv_goto (tgt := 149) hx hb d_G_tops_30 (by decide) ?_
        refine q_iinc (k := 6) (v := v5 + (1 : Int32)) (lv' := [(5, .int (v5 + (1 : Int32))), (6, .int x17), (0, .ref this), (1, va_rf v1), (2, .int v2), (3, va_rf v3), (4, .int v4)]) hx hb d_G_tops_149 hl18 rfl rfl (by decide) (.n (.k 0 rfl (by decide) (by decide) (.k 1 rfl (by decide) (by decide) (.k 2 rfl (by decide) (by decide) (.k 3 rfl (by decide) (by decide) (.k 4 rfl (by decide) (by decide) (.c 5 rfl (by decide) rfl .e))))))) (fun ls70 hl70 => ?_)
        refine lv_goto (tgt := 6) hx hb d_G_tops_152 (by decide) ?_
        exact ih _ _ _ _ _ _ _ _ _ _ _ _ hk h hG hS (lv_sub hl70 [2, 3, 4, 5, 6, 0] rfl)
def w_G_tops (z mi mc ms : Nat) (post : Int32 → Sg → Prop) (g : Sg) (this : Nat) (p0 : Option Nat) (p1 : Int32) (p2 : Option Nat) : Prop := (∃ n72 : Nat, w_G_tops_6 z mi mc ms post n72 0 0 g this p0 p1 p2 (0 : Int32) (0 : Int32))
set_option maxHeartbeats 4000000 in
set_option maxRecDepth 100000 in
theorem s_G_tops {l : Launch} {D : va_G} {cA : Nat → ClassId} {sz z mi mc ms : Nat} {g : Sg} {post : Int32 → Sg → Prop} {this : Nat} {p0 : Option Nat} {p1 : Int32} {p2 : Option Nat} (h : w_G_tops z mi mc ms post g this p0 p1 p2) : Met l y_G_tops (Cond.code y_G_tops b_G_tops 9 (some FieldType.int) :: TBL) ({ frames := 1, cells := mc, slots := ms, locals := 23 } : Room) (Pg D cA sz z mi [.ref this, va_rf p0, .int p1, va_rf p2] g) (Qg D cA sz (pI post)) mc ms (oA sz) := by
  refine m_code (lv := [(0, .ref this), (1, va_rf p0), (2, .int p1), (3, va_rf p2)]) (by decide +kernel) (by simp [lg_sl, rf_cat, cat_i, cat_r, cat_l]) (by simp [lv_args, rf_cat, cat_i, cat_r, cat_l]) ?_
  intro p e s m below meth c ls S hr hlk hnm hZ hG hS hl
  obtain ⟨hx, hb, hml, hown, hts⟩ := id S
  have hk : 0 ≤ mc ∧ 0 ≤ ms := ⟨Nat.zero_le _, Nat.zero_le _⟩
  refine lv_iconst (v := (0 : Int32)) hx hb d_G_tops_0 (by decide) ?_
  refine q_istore (lv' := [(4, .int ((0 : Int32))), (0, .ref this), (1, va_rf p0), (2, .int p1), (3, va_rf p2)]) hx hb d_G_tops_1 hl (by decide) (.n (.k 0 rfl (by decide) (by decide) (.k 1 rfl (by decide) (by decide) (.k 2 rfl (by decide) (by decide) (.c 3 rfl (by decide) (rf_cat _) .e))))) (fun ls11 hl11 => ?_)
  refine lv_iconst (v := (0 : Int32)) hx hb d_G_tops_3 (by decide) ?_
  refine q_istore (lv' := [(5, .int ((0 : Int32))), (4, .int ((0 : Int32))), (0, .ref this), (1, va_rf p0), (2, .int p1), (3, va_rf p2)]) hx hb d_G_tops_4 hl11 (by decide) (.n (.c 0 rfl (by decide) rfl (.k 1 rfl (by decide) (by decide) (.k 2 rfl (by decide) (by decide) (.k 3 rfl (by decide) (by decide) (.k 4 rfl (by decide) (by decide) .e)))))) (fun ls12 hl12 => ?_)
  obtain ⟨n72, h⟩ := h
  exact s_G_tops_6 S hZ hr hlk n72 _ _ _ _ _ _ _ _ _ _ _ _ hk h hG hS (lv_sub hl12 [2, 3, 4, 5, 1, 0] rfl)
def w_M_heads0 (z mi mc ms : Nat) (post : Int32 → Sg → Prop) (g : Sg) (this : Nat) : Prop := (hasR g this 51 ∧ ∀ o11 : Option Nat, o11 = fR g 51 this → (hasR g this 55 ∧ ∀ o12 : Option Nat, o12 = fR g 55 this → ∃ a13, o11 = some a13 ∧ (isK g a13 [5] ∧ ∃ c14 c15 : Nat, 0 + c14 ≤ mc ∧ 0 + c15 ≤ ms ∧ w_G_all z mi c14 c15 (fun (g16 : Sg) => (hasR g16 this 51 ∧ ∀ o17 : Option Nat, o17 = fR g16 51 this → (hasR g16 this 55 ∧ ∀ o18 : Option Nat, o18 = fR g16 55 this → (hasR g16 this 52 ∧ ∀ o19 : Option Nat, o19 = fR g16 52 this → ∃ a20, o17 = some a20 ∧ (isK g16 a20 [5] ∧ ∃ c21 c22 : Nat, (0 + c14) + c21 ≤ mc ∧ (0 + c15) + c22 ≤ ms ∧ w_G_tops z mi c21 c22 (fun (x24 : Int32) (g23 : Sg) => (hasI g23 this 54 ∧ ∀ g25 : Sg, g25 = wI g23 54 this x24 → (hasI g25 this 54 ∧ ∀ x26 : Int32, x26 = fI g25 54 this → post x26 g25))) g16 a20 o18 (0 : Int32) o19))))) g a13 o12)))
set_option maxHeartbeats 4000000 in
set_option maxRecDepth 100000 in
theorem s_M_heads0 {l : Launch} {D : va_G} {cA : Nat → ClassId} {sz z mi mc ms : Nat} {g : Sg} {post : Int32 → Sg → Prop} {this : Nat} (h : w_M_heads0 z mi mc ms post g this) : Met l y_M_heads0 (Cond.code y_M_heads0 b_M_heads0 1 (some FieldType.int) :: TBL) ({ frames := 2, cells := mc, slots := ms, locals := 51 } : Room) (Pg D cA sz z mi [.ref this] g) (Qg D cA sz (pI post)) mc ms (oA sz) := by
  refine m_code (lv := [(0, .ref this)]) (by decide +kernel) (Nat.le_of_ble_eq_true rfl) rfl ?_
  intro p e s m below meth c ls S hr hlk hnm hZ hG hS hl
  obtain ⟨hx, hb, hml, hown, hts⟩ := id S
  have hk : 0 ≤ mc ∧ 0 ≤ ms := ⟨Nat.zero_le _, Nat.zero_le _⟩
  refine lv_aload_n hx hb d_M_heads0_0 rfl (lv_at hl 0 rfl) ?_
  refine r_getR (f := 51) S hZ hG rfl h.1 (hts _ tw_780) (fun _ h9 => h9) d_M_heads0_1 (fun o11 e9 => ?_)
  replace h := h.2 o11 e9
  refine lv_aload_n hx hb d_M_heads0_4 rfl (lv_at hl 0 rfl) ?_
  refine r_getR (f := 55) S hZ hG rfl h.1 (hts _ tw_784) (fun _ h9 => h9) d_M_heads0_5 (fun o12 e9 => ?_)
  replace h := h.2 o12 e9
  obtain ⟨a13, e9, h⟩ := h
  subst e9
  obtain ⟨h9, h⟩ := h
  obtain ⟨c14, c15, k1, k2, h⟩ := h
  obtain ⟨n9, h9⟩ := isK1 h9
  refine q_callV (run_V (As := [va_rf o12]) (rest := []) S hZ hG hS (s_G_all h) tw_836 tw_833 tw_834 tw_835 tw_9 nk_G_all h9 (by decide) rfl ⟨Nat.le_of_ble_eq_true rfl, Nat.le_of_ble_eq_true rfl⟩ rfl hl.1 rfl (by decide) d_M_heads0_8 ⟨k1, k2⟩) hS (fun g16 H locs h28 hG hS => ?_)
  have hk := And.intro k1 k2
  replace h := h28
  refine lv_aload_n hx hb d_M_heads0_11 rfl (lv_at hl 0 rfl) ?_
  refine lv_aload_n hx hb d_M_heads0_12 rfl (lv_at hl 0 rfl) ?_
  refine r_getR (f := 51) S hZ hG rfl h.1 (hts _ tw_780) (fun _ h9 => h9) d_M_heads0_13 (fun o17 e9 => ?_)
  replace h := h.2 o17 e9
  refine lv_aload_n hx hb d_M_heads0_16 rfl (lv_at hl 0 rfl) ?_
  refine r_getR (f := 55) S hZ hG rfl h.1 (hts _ tw_784) (fun _ h9 => h9) d_M_heads0_17 (fun o18 e9 => ?_)
  replace h := h.2 o18 e9
  refine lv_iconst (v := (0 : Int32)) hx hb d_M_heads0_20 (by decide) ?_
  refine lv_aload_n hx hb d_M_heads0_21 rfl (lv_at hl 0 rfl) ?_
  refine r_getR (f := 52) S hZ hG rfl h.1 (hts _ tw_781) (fun _ h9 => h9) d_M_heads0_22 (fun o19 e9 => ?_)
  replace h := h.2 o19 e9
  obtain ⟨a20, e9, h⟩ := h
  subst e9
  obtain ⟨h9, h⟩ := h
  obtain ⟨c21, c22, k1, k2, h⟩ := h
  obtain ⟨n9, h9⟩ := isK1 h9
  refine q_callI (run_V (As := [va_rf o18, .int ((0 : Int32)), va_rf o19]) (rest := [.ref this]) S hZ hG hS (s_G_tops h) tw_840 tw_837 tw_838 tw_839 tw_9 nk_G_tops h9 (by decide) rfl ⟨Nat.le_of_ble_eq_true rfl, Nat.le_of_ble_eq_true rfl⟩ rfl hl.1 rfl (Nat.le_of_ble_eq_true rfl) d_M_heads0_25 ⟨k1, k2⟩) hS (fun x24 g23 H locs h27 hG hS => ?_)
  have hk := And.intro k1 k2
  replace h := h27
  refine r_putI (f := 54) S hZ hG hS rfl h.1 (hts _ tw_783) (fun _ h9 => h9) (Or.inl rfl) d_M_heads0_28 (fun g25 H locs e9 hG hS => ?_)
  replace h := h.2 g25 e9
  refine lv_aload_n hx hb d_M_heads0_31 rfl (lv_at hl 0 rfl) ?_
  refine r_getI (f := 54) S hZ hG rfl h.1 (hts _ tw_783) (fun _ h9 => h9) d_M_heads0_32 (fun x26 e9 => ?_)
  replace h := h.2 x26 e9
  exact r_iret (v := x26) S hr hlk hG hS h hk.1 hk.2 d_M_heads0_35
def w_M_heads (z mi mc ms : Nat) (post : Int32 → Sg → Prop) (g : Sg) (this : Nat) : Prop := (hasI g this 56 ∧ ∀ g11 : Sg, g11 = wI g 56 this (0 : Int32) → (isK g11 this [6] ∧ ∃ c12 c13 : Nat, 0 + c12 ≤ mc ∧ 0 + c13 ≤ ms ∧ w_M_heads0 z mi c12 c13 (fun (x15 : Int32) (g14 : Sg) => post x15 g14) g11 this))
set_option maxHeartbeats 4000000 in
set_option maxRecDepth 100000 in
theorem s_M_heads {l : Launch} {D : va_G} {cA : Nat → ClassId} {sz z mi mc ms : Nat} {g : Sg} {post : Int32 → Sg → Prop} {this : Nat} (h : w_M_heads z mi mc ms post g this) : Met l y_M_heads (Cond.code y_M_heads b_M_heads 1 (some FieldType.int) :: TBL) ({ frames := 3, cells := mc, slots := ms, locals := 71 } : Room) (Pg D cA sz z mi [.ref this] g) (Qg D cA sz (pI post)) mc ms (oA sz) := by
  refine m_code (lv := [(0, .ref this)]) (by decide +kernel) (Nat.le_of_ble_eq_true rfl) rfl ?_
  intro p e s m below meth c ls S hr hlk hnm hZ hG hS hl
  obtain ⟨hx, hb, hml, hown, hts⟩ := id S
  have hk : 0 ≤ mc ∧ 0 ≤ ms := ⟨Nat.zero_le _, Nat.zero_le _⟩
  refine lv_aload_n hx hb d_M_heads_0 rfl (lv_at hl 0 rfl) ?_
  refine lv_iconst (v := (0 : Int32)) hx hb d_M_heads_1 (by decide) ?_
  refine r_putI (f := 56) S hZ hG hS rfl h.1 (hts _ tw_785) (fun _ h9 => h9) (Or.inl rfl) d_M_heads_2 (fun g11 H locs e9 hG hS => ?_)
  replace h := h.2 g11 e9
  refine lv_aload_n hx hb d_M_heads_5 rfl (lv_at hl 0 rfl) ?_
  obtain ⟨h9, h⟩ := h
  obtain ⟨c12, c13, k1, k2, h⟩ := h
  obtain ⟨n9, h9⟩ := isK1 h9
  refine q_callI (run_V (As := []) (rest := []) S hZ hG hS (s_M_heads0 h) tw_832 tw_829 tw_831 tp_34 tw_8 nk_M_heads0 h9 (by decide) rfl ⟨Nat.le_of_ble_eq_true rfl, Nat.le_of_ble_eq_true rfl⟩ rfl hl.1 rfl (by decide) d_M_heads_6 ⟨k1, k2⟩) hS (fun x15 g14 H locs h16 hG hS => ?_)
  have hk := And.intro k1 k2
  replace h := h16
  exact r_iret (v := x15) S hr hlk hG hS h hk.1 hk.2 d_M_heads_9
def w_AR_fillS_5 (z mi mc ms : Nat) (post : Sg → Prop) : Nat → Nat → Nat → Sg → Option Nat → Int32 → Int32 → Int32 → Prop
  | 0 => fun _ _ _ _ _ _ _ => False
  | n + 1 => fun kc ks g v0 v1 v2 v3 => (v3 ≤ v2 → post g) ∧ (¬ v3 ≤ v2 → ∃ a17, v0 = some a17 ∧ (∃ j19 : Nat, inA g a17 101 v2 j19 ∧ ∀ g20 : Sg, g20 = sI g a17 j19 (vp_nar .short v1) → w_AR_fillS_5 z mi mc ms post n kc ks g20 (some a17) v1 (v2 + (1 : Int32)) v3))
set_option maxHeartbeats 4000000 in
set_option maxRecDepth 100000 in
theorem s_AR_fillS_5 {p : Program} {l : Launch} {e : Env} {s : State} {m : MethodId} {args : Array Value} {below : List Frame} {meth : Method} {c : Code} {D : va_G} {cA : Nat → ClassId} {sz z mi mc ms : Nat} {post : Sg → Prop} (S : CallFix p m c b_AR_fillS 4 s args TBL "java/util/Arrays") (hZ : Ws D cA sz z mi s) (hr : meth.sig.returnType = none) (hlk : meth.locks = false) :
    ∀ n : Nat, ∀ (kc ks : Nat) (g : Sg) (v0 : Option Nat) (v1 : Int32) (v2 : Int32) (v3 : Int32) (H : Heap) (locs : List Loc) (ls : Array Slot), kc ≤ mc ∧ ks ≤ ms → w_AR_fillS_5 z mi mc ms post n kc ks g v0 v1 v2 v3 → WP D cA sz g H → va_S (oA sz) s.heap H locs → lv_has ls 4 [(0, va_rf v0), (1, .int v1), (2, .int v2), (3, .int v3)] → W p l e ({ frames := 0, cells := mc, slots := ms, locals := 0 } : Room) s m args below meth c H locs kc ks (MQ below (Qg D cA sz (pV post)) args s mc ms (oA sz)) (F0 m 5 ls []) := by
  obtain ⟨hx, hb, hml, hown, hts⟩ := id S
  intro n
  induction n with
  | zero =>
    intro kc ks g v0 v1 v2 v3 H locs ls hk h hG hS hl
    exact h.elim
  | succ n ih =>
    intro kc ks g v0 v1 v2 v3 H locs ls hk h hG hS hl
    refine lv_iload_n hx hb d_AR_fillS_5 rfl (lv_at hl 2 rfl) ?_
    refine lv_iload_n hx hb d_AR_fillS_6 rfl (lv_at hl 3 rfl) ?_
    refine lv_icmp_ge (tgt := 20) hx hb d_AR_fillS_7 (by decide) (fun c9 => ?_) (fun c9 => ?_)
    · replace h := h.1 c9
      exact r_vret S hr hlk hG hS h hk.1 hk.2 d_AR_fillS_20
    · replace h := h.2 c9
      refine q_aload_n hx hb d_AR_fillS_10 rfl (lv_at hl 0 rfl) ?_
      refine lv_iload_n hx hb d_AR_fillS_11 rfl (lv_at hl 2 rfl) ?_
      refine lv_iload_n hx hb d_AR_fillS_12 rfl (lv_at hl 1 rfl) ?_
      obtain ⟨a17, e9, h⟩ := h
      subst e9
      have hl18 : lv_has ls 4 [(0, .ref a17), (1, .int v1), (2, .int v2), (3, .int v3)] := hl
      obtain ⟨j19, h9, h⟩ := h
      refine r_sast S hZ hG hS h9 d_AR_fillS_13 (fun g20 H locs e9 hG hS => ?_)
      replace h := h g20 e9
      refine q_iinc (k := 2) (v := v2 + (1 : Int32)) (lv' := [(2, .int (v2 + (1 : Int32))), (0, .ref a17), (1, .int v1), (3, .int v3)]) hx hb d_AR_fillS_14 hl18 rfl rfl (by decide) (.n (.k 0 rfl (by decide) (by decide) (.c 1 rfl (by decide) rfl (.k 3 rfl (by decide) (by decide) .e)))) (fun ls21 hl21 => ?_)
      refine lv_goto (tgt := 5) hx hb d_AR_fillS_17 (by decide) ?_
      exact ih _ _ _ _ _ _ _ _ _ _ hk h hG hS (lv_sub hl21 [1, 2, 0, 3] rfl)
def w_AR_fillS (z mi mc ms : Nat) (post : Sg → Prop) (g : Sg) (p0 : Option Nat) (p1 : Int32) : Prop := ∃ a12, p0 = some a12 ∧ (∃ n14 : Nat, lenA g z a12 n14 ∧ ∀ x15 : Int32, x15 = nI n14 → (∃ n22 : Nat, w_AR_fillS_5 z mi mc ms post n22 0 0 g (some a12) p1 (0 : Int32) x15))
set_option maxHeartbeats 4000000 in
set_option maxRecDepth 100000 in
theorem s_AR_fillS {l : Launch} {D : va_G} {cA : Nat → ClassId} {sz z mi mc ms : Nat} {g : Sg} {post : Sg → Prop} {p0 : Option Nat} {p1 : Int32} (h : w_AR_fillS z mi mc ms post g p0 p1) : Met l y_AR_fillS (Cond.code y_AR_fillS b_AR_fillS 4 none :: TBL) ({ frames := 0, cells := mc, slots := ms, locals := 0 } : Room) (Pg D cA sz z mi [va_rf p0, .int p1] g) (Qg D cA sz (pV post)) mc ms (oA sz) := by
  refine m_code (lv := [(0, va_rf p0), (1, .int p1)]) (by decide +kernel) (by simp [lg_sl, rf_cat, cat_i, cat_r, cat_l]) (by simp [lv_args, rf_cat, cat_i, cat_r, cat_l]) ?_
  intro p e s m below meth c ls S hr hlk hnm hZ hG hS hl
  obtain ⟨hx, hb, hml, hown, hts⟩ := id S
  have hk : 0 ≤ mc ∧ 0 ≤ ms := ⟨Nat.zero_le _, Nat.zero_le _⟩
  refine lv_iconst (v := (0 : Int32)) hx hb d_AR_fillS_0 (by decide) ?_
  refine q_istore_n (lv' := [(2, .int ((0 : Int32))), (0, va_rf p0), (1, .int p1)]) hx hb d_AR_fillS_1 rfl hl (by decide) (.n (.k 0 rfl (by decide) (by decide) (.c 1 rfl (by decide) rfl .e))) (fun ls11 hl11 => ?_)
  refine q_aload_n hx hb d_AR_fillS_2 rfl (lv_at hl11 1 rfl) ?_
  obtain ⟨a12, e9, h⟩ := h
  subst e9
  have hl13 : lv_has ls11 4 [(2, .int ((0 : Int32))), (0, .ref a12), (1, .int p1)] := hl11
  obtain ⟨n14, h9, h⟩ := h
  refine r_alen S hZ hG hS h9 d_AR_fillS_3 (fun x15 e9 => ?_)
  replace h := h x15 e9
  refine q_istore_n (lv' := [(3, .int x15), (2, .int ((0 : Int32))), (0, .ref a12), (1, .int p1)]) hx hb d_AR_fillS_4 rfl hl13 (by decide) (.n (.c 0 rfl (by decide) rfl (.k 1 rfl (by decide) (by decide) (.k 2 rfl (by decide) (by decide) .e)))) (fun ls16 hl16 => ?_)
  obtain ⟨n22, h⟩ := h
  exact s_AR_fillS_5 S hZ hr hlk n22 _ _ _ _ _ _ _ _ _ _ hk h hG hS (lv_sub hl16 [2, 3, 1, 0] rfl)
def w_M_gather_122 (z mi mc ms : Nat) (post : Sg → Prop) (px : Nat → Sg → Prop) (k_72 : Nat → Nat → Sg → Nat → Int32 → Int32 → Int32 → Int32 → Prop) : Nat → Nat → Sg → Nat → Int32 → Int32 → Int32 → Int32 → Int32 → Prop := fun kc ks g this v1 v2 v3 v4 s0 => (hasR g this 55 ∧ ∀ o37 : Option Nat, o37 = fR g 55 this → ∃ a38, o37 = some a38 ∧ (∃ j39 : Nat, inA g a38 101 v4 j39 ∧ ∀ x40 : Int32, x40 = aI g a38 j39 → (s0 ≤ x40 → k_72 kc ks g this v1 v2 v3 (v4 + (1 : Int32))) ∧ (¬ s0 ≤ x40 → (hasR g this 55 ∧ ∀ o42 : Option Nat, o42 = fR g 55 this → ∃ a43, o42 = some a43 ∧ (∃ j44 : Nat, inA g a43 101 v4 j44 ∧ ∀ g45 : Sg, g45 = sI g a43 j44 (vp_nar .short (s0.toInt16.toInt32)) → k_72 kc ks g45 this v1 v2 v3 (v4 + (1 : Int32)))))))
set_option maxHeartbeats 4000000 in
set_option maxRecDepth 100000 in
theorem s_M_gather_122 {p : Program} {l : Launch} {e : Env} {s : State} {m : MethodId} {args : Array Value} {below : List Frame} {meth : Method} {c : Code} {D : va_G} {cA : Nat → ClassId} {sz z mi mc ms : Nat} {post : Sg → Prop} {px : Nat → Sg → Prop}  {k_72 : Nat → Nat → Sg → Nat → Int32 → Int32 → Int32 → Int32 → Prop} (S : CallFix p m c b_M_gather 6 s args TBL "WeaveCoreModel") (hst : l.stackTraces = false) (hZ : Ws D cA sz z mi s) (hr : meth.sig.returnType = none) (hlk : meth.locks = false) (hxt : ∀ x ∈ c.exceptionTable.toList, False) (hk_72 : ∀ (kc ks : Nat) (g : Sg) (this : Nat) (v1 : Int32) (v2 : Int32) (v3 : Int32) (v4 : Int32) (H : Heap) (locs : List Loc) (ls : Array Slot), kc ≤ mc ∧ ks ≤ ms → k_72 kc ks g this v1 v2 v3 v4 → WP D cA sz g H → va_S (oA sz) s.heap H locs → lv_has ls 6 [(0, .ref this), (1, .int v1), (2, .int v2), (3, .int v3), (4, .int v4)] → W p l e ({ frames := 6, cells := mc, slots := ms, locals := 90 } : Room) s m args below meth c H locs kc ks (vx_MQ below (Qg D cA sz (pV post)) (Xg D cA sz px) args s mc ms (oA sz)) (F0 m 72 ls [])) :
    ∀ (kc ks : Nat) (g : Sg) (this : Nat) (v1 : Int32) (v2 : Int32) (v3 : Int32) (v4 : Int32) (s0 : Int32) (H : Heap) (locs : List Loc) (ls : Array Slot), kc ≤ mc ∧ ks ≤ ms → w_M_gather_122 z mi mc ms post px k_72 kc ks g this v1 v2 v3 v4 s0 → WP D cA sz g H → va_S (oA sz) s.heap H locs → lv_has ls 6 [(0, .ref this), (1, .int v1), (2, .int v2), (3, .int v3), (4, .int v4)] → W p l e ({ frames := 6, cells := mc, slots := ms, locals := 90 } : Room) s m args below meth c H locs kc ks (vx_MQ below (Qg D cA sz (pV post)) (Xg D cA sz px) args s mc ms (oA sz)) (F0 m 122 ls [.int s0]) := by
  obtain ⟨hx, hb, hml, hown, hts⟩ := id S
  intro kc ks g this v1 v2 v3 v4 s0 H locs ls hk h hG hS hl
  refine q_istore (lv' := [(5, .int s0), (0, .ref this), (1, .int v1), (2, .int v2), (3, .int v3), (4, .int v4)]) hx hb d_M_gather_122 hl (by decide) (.n (.k 0 rfl (by decide) (by decide) (.k 1 rfl (by decide) (by decide) (.k 2 rfl (by decide) (by decide) (.k 3 rfl (by decide) (by decide) (.c 4 rfl (by decide) rfl .e)))))) (fun ls36 hl36 => ?_)
  refine lv_iload hx hb d_M_gather_124 (lv_at hl36 0 rfl) ?_
  refine lv_aload_n hx hb d_M_gather_126 rfl (lv_at hl36 1 rfl) ?_
  refine r_getR (f := 55) S hZ hG rfl h.1 (hts _ tw_784) (fun _ h9 => h9) d_M_gather_127 (fun o37 e9 => ?_)
  replace h := h.2 o37 e9
  refine lv_iload hx hb d_M_gather_130 (lv_at hl36 5 rfl) ?_
  obtain ⟨a38, e9, h⟩ := h
  subst e9
  obtain ⟨j39, h9, h⟩ := h
  refine r_sald S hZ hG h9 d_M_gather_132 (fun x40 e9 => ?_)
  replace h := h x40 e9
  refine lv_icmp_le (tgt := 146) hx hb d_M_gather_133 (by decide) (fun c9 => ?_) (fun c9 => ?_)
  · replace h := h.1 c9
    refine q_iinc (k := 5) (v := v4 + (1 : Int32)) (lv' := [(4, .int (v4 + (1 : Int32))), (5, .int s0), (0, .ref this), (1, .int v1), (2, .int v2), (3, .int v3)]) hx hb d_M_gather_146 hl36 rfl rfl (by decide) (.n (.k 0 rfl (by decide) (by decide) (.k 1 rfl (by decide) (by decide) (.k 2 rfl (by decide) (by decide) (.k 3 rfl (by decide) (by decide) (.c 4 rfl (by decide) rfl .e)))))) (fun ls41 hl41 => ?_)
    refine lv_goto (tgt := 72) hx hb d_M_gather_149 (by decide) ?_
    exact hk_72 _ _ _ _ _ _ _ _ _ _ _ hk h hG hS (lv_sub hl41 [2, 3, 4, 5, 0] rfl)
  · replace h := h.2 c9
    refine lv_aload_n hx hb d_M_gather_136 rfl (lv_at hl36 1 rfl) ?_
    refine r_getR (f := 55) S hZ hG rfl h.1 (hts _ tw_784) (fun _ h9 => h9) d_M_gather_137 (fun o42 e9 => ?_)
    replace h := h.2 o42 e9
    refine lv_iload hx hb d_M_gather_140 (lv_at hl36 5 rfl) ?_
    refine lv_iload hx hb d_M_gather_142 (lv_at hl36 0 rfl) ?_
    refine lv_i2s hx hb d_M_gather_144 rfl ?_
    obtain ⟨a43, e9, h⟩ := h
    subst e9
    obtain ⟨j44, h9, h⟩ := h
    refine r_sast S hZ hG hS h9 d_M_gather_145 (fun g45 H locs e9 hG hS => ?_)
    replace h := h g45 e9
    refine q_iinc (k := 5) (v := v4 + (1 : Int32)) (lv' := [(4, .int (v4 + (1 : Int32))), (5, .int s0), (0, .ref this), (1, .int v1), (2, .int v2), (3, .int v3)]) hx hb d_M_gather_146 hl36 rfl rfl (by decide) (.n (.k 0 rfl (by decide) (by decide) (.k 1 rfl (by decide) (by decide) (.k 2 rfl (by decide) (by decide) (.k 3 rfl (by decide) (by decide) (.c 4 rfl (by decide) rfl .e)))))) (fun ls46 hl46 => ?_)
    refine lv_goto (tgt := 72) hx hb d_M_gather_149 (by decide) ?_
    exact hk_72 _ _ _ _ _ _ _ _ _ _ _ hk h hG hS (lv_sub hl46 [2, 3, 4, 5, 0] rfl)
def w_M_gather_72 (z mi mc ms : Nat) (post : Sg → Prop) (px : Nat → Sg → Prop) (k_10 : Nat → Nat → Sg → Nat → Int32 → Int32 → Prop) : Nat → Nat → Nat → Sg → Nat → Int32 → Int32 → Int32 → Int32 → Prop
  | 0 => fun _ _ _ _ _ _ _ _ => False
  | n + 1 => fun kc ks g this v1 v2 v3 v4 => ((16 : Int32) ≤ v4 → k_10 kc ks g this v1 (v2 + (1 : Int32))) ∧ (¬ (16 : Int32) ≤ v4 → (hasR g this 51 ∧ ∀ o24 : Option Nat, o24 = fR g 51 this → ∃ a25, o24 = some a25 ∧ (hasR g a25 35 ∧ ∀ o26 : Option Nat, o26 = fR g 35 a25 → ∃ a27, o26 = some a27 ∧ (∃ j28 : Nat, inA g a27 100 v3 j28 ∧ ∀ x29 : Int32, x29 = aI g a27 j28 → (¬ v4 = x29 → (hasR g this 51 ∧ ∀ o30 : Option Nat, o30 = fR g 51 this → ∃ a31, o30 = some a31 ∧ (hasR g a31 37 ∧ ∀ o32 : Option Nat, o32 = fR g 37 a31 → ∃ a33, o32 = some a33 ∧ (∃ j34 : Nat, inA g a33 101 (((16 : Int32) * v3) + v4) j34 ∧ ∀ x35 : Int32, x35 = aI g a33 j34 → w_M_gather_122 z mi mc ms post px (w_M_gather_72 z mi mc ms post px k_10 n) kc ks g this v1 v2 v3 v4 x35)))) ∧ (v4 = x29 → (hasR g this 51 ∧ ∀ o47 : Option Nat, o47 = fR g 51 this → ∃ a48, o47 = some a48 ∧ (hasR g a48 36 ∧ ∀ o49 : Option Nat, o49 = fR g 36 a48 → ∃ a50, o49 = some a50 ∧ (∃ j51 : Nat, inA g a50 100 v3 j51 ∧ ∀ x52 : Int32, x52 = aI g a50 j51 → w_M_gather_122 z mi mc ms post px (w_M_gather_72 z mi mc ms post px k_10 n) kc ks g this v1 v2 v3 v4 (x52 + (1 : Int32))))))))))
set_option maxHeartbeats 4000000 in
set_option maxRecDepth 100000 in
theorem s_M_gather_72 {p : Program} {l : Launch} {e : Env} {s : State} {m : MethodId} {args : Array Value} {below : List Frame} {meth : Method} {c : Code} {D : va_G} {cA : Nat → ClassId} {sz z mi mc ms : Nat} {post : Sg → Prop} {px : Nat → Sg → Prop}  {k_10 : Nat → Nat → Sg → Nat → Int32 → Int32 → Prop} (S : CallFix p m c b_M_gather 6 s args TBL "WeaveCoreModel") (hst : l.stackTraces = false) (hZ : Ws D cA sz z mi s) (hr : meth.sig.returnType = none) (hlk : meth.locks = false) (hxt : ∀ x ∈ c.exceptionTable.toList, False) (hk_10 : ∀ (kc ks : Nat) (g : Sg) (this : Nat) (v1 : Int32) (v2 : Int32) (H : Heap) (locs : List Loc) (ls : Array Slot), kc ≤ mc ∧ ks ≤ ms → k_10 kc ks g this v1 v2 → WP D cA sz g H → va_S (oA sz) s.heap H locs → lv_has ls 6 [(0, .ref this), (1, .int v1), (2, .int v2)] → W p l e ({ frames := 6, cells := mc, slots := ms, locals := 90 } : Room) s m args below meth c H locs kc ks (vx_MQ below (Qg D cA sz (pV post)) (Xg D cA sz px) args s mc ms (oA sz)) (F0 m 10 ls [])) :
    ∀ n : Nat, ∀ (kc ks : Nat) (g : Sg) (this : Nat) (v1 : Int32) (v2 : Int32) (v3 : Int32) (v4 : Int32) (H : Heap) (locs : List Loc) (ls : Array Slot), kc ≤ mc ∧ ks ≤ ms → w_M_gather_72 z mi mc ms post px k_10 n kc ks g this v1 v2 v3 v4 → WP D cA sz g H → va_S (oA sz) s.heap H locs → lv_has ls 6 [(0, .ref this), (1, .int v1), (2, .int v2), (3, .int v3), (4, .int v4)] → W p l e ({ frames := 6, cells := mc, slots := ms, locals := 90 } : Room) s m args below meth c H locs kc ks (vx_MQ below (Qg D cA sz (pV post)) (Xg D cA sz px) args s mc ms (oA sz)) (F0 m 72 ls []) := by
  obtain ⟨hx, hb, hml, hown, hts⟩ := id S
  intro n
  induction n with
  | zero =>
    intro kc ks g this v1 v2 v3 v4 H locs ls hk h hG hS hl
    exact h.elim
  | succ n ih =>
    intro kc ks g this v1 v2 v3 v4 H locs ls hk h hG hS hl
    refine lv_iload hx hb d_M_gather_72 (lv_at hl 4 rfl) ?_
    refine lv_bipush (v := (16 : Int32)) hx hb d_M_gather_74 (by decide) ?_
    refine lv_icmp_ge (tgt := 152) hx hb d_M_gather_76 (by decide) (fun c9 => ?_) (fun c9 => ?_)
    · replace h := h.1 c9
      refine q_iinc (k := 2) (v := v2 + (1 : Int32)) (lv' := [(2, .int (v2 + (1 : Int32))), (0, .ref this), (1, .int v1), (3, .int v3), (4, .int v4)]) hx hb d_M_gather_152 hl rfl rfl (by decide) (.n (.k 0 rfl (by decide) (by decide) (.c 1 rfl (by decide) rfl (.k 3 rfl (by decide) (by decide) (.k 4 rfl (by decide) (by decide) .e))))) (fun ls23 hl23 => ?_)
      refine lv_goto (tgt := 10) hx hb d_M_gather_155 (by decide) ?_
      exact hk_10 _ _ _ _ _ _ _ _ _ hk h hG hS (lv_sub hl23 [1, 2, 0] rfl)
    · replace h := h.2 c9
      refine lv_iload hx hb d_M_gather_79 (lv_at hl 4 rfl) ?_
      refine lv_aload_n hx hb d_M_gather_81 rfl (lv_at hl 0 rfl) ?_
      refine r_getR (f := 51) S hZ hG rfl h.1 (hts _ tw_780) (fun _ h9 => h9) d_M_gather_82 (fun o24 e9 => ?_)
      replace h := h.2 o24 e9
      obtain ⟨a25, e9, h⟩ := h
      subst e9
      refine r_getR (f := 35) S hZ hG rfl h.1 (hts _ tw_710) (fun _ h9 => h9) d_M_gather_85 (fun o26 e9 => ?_)
      replace h := h.2 o26 e9
      refine lv_iload_n hx hb d_M_gather_88 rfl (lv_at hl 3 rfl) ?_
      obtain ⟨a27, e9, h⟩ := h
      subst e9
      obtain ⟨j28, h9, h⟩ := h
      refine r_iald S hZ hG h9 d_M_gather_89 (fun x29 e9 => ?_)
      replace h := h x29 e9
      refine lv_icmp_ne (tgt := 107) hx hb d_M_gather_90 (by decide) (fun c9 => ?_) (fun c9 => ?_)
      · replace h := h.1 c9
        refine lv_aload_n hx hb d_M_gather_107 rfl (lv_at hl 0 rfl) ?_
        refine r_getR (f := 51) S hZ hG rfl h.1 (hts _ tw_780) (fun _ h9 => h9) d_M_gather_108 (fun o30 e9 => ?_)
        replace h := h.2 o30 e9
        obtain ⟨a31, e9, h⟩ := h
        subst e9
        refine r_getR (f := 37) S hZ hG rfl h.1 (hts _ tw_714) (fun _ h9 => h9) d_M_gather_111 (fun o32 e9 => ?_)
        replace h := h.2 o32 e9
        refine lv_bipush (v := (16 : Int32)) hx hb d_M_gather_114 (by decide) ?_
        refine lv_iload_n hx hb d_M_gather_116 rfl (lv_at hl 3 rfl) ?_
        refine lv_imul hx hb d_M_gather_117 ?_
        refine lv_iload hx hb d_M_gather_118 (lv_at hl 4 rfl) ?_
        refine lv_iadd hx hb d_M_gather_120 ?_
        obtain ⟨a33, e9, h⟩ := h
        subst e9
        obtain ⟨j34, h9, h⟩ := h
        refine r_sald S hZ hG h9 d_M_gather_121 (fun x35 e9 => ?_)
        replace h := h x35 e9
        exact s_M_gather_122 S hst hZ hr hlk hxt ih _ _ _ _ _ _ _ _ _ _ _ _ hk h hG hS (lv_sub hl [0, 1, 2, 3, 4] rfl)
      · replace h := h.2 c9
        refine lv_aload_n hx hb d_M_gather_93 rfl (lv_at hl 0 rfl) ?_
        refine r_getR (f := 51) S hZ hG rfl h.1 (hts _ tw_780) (fun _ h9 => h9) d_M_gather_94 (fun o47 e9 => ?_)
        replace h := h.2 o47 e9
        obtain ⟨a48, e9, h⟩ := h
        subst e9
        refine r_getR (f := 36) S hZ hG rfl h.1 (hts _ tw_712) (fun _ h9 => h9) d_M_gather_97 (fun o49 e9 => ?_)
        replace h := h.2 o49 e9
        refine lv_iload_n hx hb d_M_gather_100 rfl (lv_at hl 3 rfl) ?_
        obtain ⟨a50, e9, h⟩ := h
        subst e9
        obtain ⟨j51, h9, h⟩ := h
        refine r_iald S hZ hG h9 d_M_gather_101 (fun x52 e9 => ?_)
        replace h := h x52 e9
        refine lv_iconst (v := (1 : Int32)) hx hb d_M_gather_102 (by decide) ?_
        refine lv_iadd hx hb d_M_gather_103 ?_
        refine lv_goto (tgt := 122) hx hb d_M_gather_104 (by decide) ?_
        exact s_M_gather_122 S hst hZ hr hlk hxt ih _ _ _ _ _ _ _ _ _ _ _ _ hk h hG hS (lv_sub hl [0, 1, 2, 3, 4] rfl)
def w_M_gather_25 (z mi mc ms : Nat) (post : Sg → Prop) (px : Nat → Sg → Prop) (k_10 : Nat → Nat → Sg → Nat → Int32 → Int32 → Prop) : Nat → Nat → Nat → Sg → Nat → Int32 → Int32 → Int32 → Int32 → Prop
  | 0 => fun _ _ _ _ _ _ _ _ => False
  | n + 1 => fun kc ks g this v1 v2 v3 v4 => (v1 ≤ v4 → (∃ n53 : Nat, w_M_gather_72 z mi mc ms post px k_10 n53 kc ks g this v1 v2 v3 (0 : Int32))) ∧ (¬ v1 ≤ v4 → (v2 = v4 → w_M_gather_25 z mi mc ms post px k_10 n kc ks g this v1 v2 v3 (v4 + (1 : Int32))) ∧ (¬ v2 = v4 → (hasR g this 51 ∧ ∀ o55 : Option Nat, o55 = fR g 51 this → (hasR g this 52 ∧ ∀ o56 : Option Nat, o56 = fR g 52 this → ∃ a57, o56 = some a57 ∧ (∃ j58 : Nat, inA g a57 100 v4 j58 ∧ ∀ x59 : Int32, x59 = aI g a57 j58 → ∃ a60, o55 = some a60 ∧ (isK g a60 [5] ∧ ∃ c61 c62 : Nat, kc + c61 ≤ mc ∧ ks + c62 ≤ ms ∧ w_G_isBefore z mi c61 c62 (fun (x64 : Int32) (g63 : Sg) => (x64 = 0 → w_M_gather_25 z mi mc ms post px k_10 n (kc + c61) (ks + c62) g63 this v1 v2 v3 (v4 + (1 : Int32))) ∧ (¬ x64 = 0 → (kc + c61) + 1 ≤ mc ∧ (ks + c62) + 6 ≤ ms ∧ px 1 g63)) g a60 v3 x59))))))
set_option maxHeartbeats 4000000 in
set_option maxRecDepth 100000 in
theorem s_M_gather_25 {p : Program} {l : Launch} {e : Env} {s : State} {m : MethodId} {args : Array Value} {below : List Frame} {meth : Method} {c : Code} {D : va_G} {cA : Nat → ClassId} {sz z mi mc ms : Nat} {post : Sg → Prop} {px : Nat → Sg → Prop}  {k_10 : Nat → Nat → Sg → Nat → Int32 → Int32 → Prop} (S : CallFix p m c b_M_gather 6 s args TBL "WeaveCoreModel") (hst : l.stackTraces = false) (hZ : Ws D cA sz z mi s) (hr : meth.sig.returnType = none) (hlk : meth.locks = false) (hxt : ∀ x ∈ c.exceptionTable.toList, False) (hk_10 : ∀ (kc ks : Nat) (g : Sg) (this : Nat) (v1 : Int32) (v2 : Int32) (H : Heap) (locs : List Loc) (ls : Array Slot), kc ≤ mc ∧ ks ≤ ms → k_10 kc ks g this v1 v2 → WP D cA sz g H → va_S (oA sz) s.heap H locs → lv_has ls 6 [(0, .ref this), (1, .int v1), (2, .int v2)] → W p l e ({ frames := 6, cells := mc, slots := ms, locals := 90 } : Room) s m args below meth c H locs kc ks (vx_MQ below (Qg D cA sz (pV post)) (Xg D cA sz px) args s mc ms (oA sz)) (F0 m 10 ls [])) :
    ∀ n : Nat, ∀ (kc ks : Nat) (g : Sg) (this : Nat) (v1 : Int32) (v2 : Int32) (v3 : Int32) (v4 : Int32) (H : Heap) (locs : List Loc) (ls : Array Slot), kc ≤ mc ∧ ks ≤ ms → w_M_gather_25 z mi mc ms post px k_10 n kc ks g this v1 v2 v3 v4 → WP D cA sz g H → va_S (oA sz) s.heap H locs → lv_has ls 6 [(0, .ref this), (1, .int v1), (2, .int v2), (3, .int v3), (4, .int v4)] → W p l e ({ frames := 6, cells := mc, slots := ms, locals := 90 } : Room) s m args below meth c H locs kc ks (vx_MQ below (Qg D cA sz (pV post)) (Xg D cA sz px) args s mc ms (oA sz)) (F0 m 25 ls []) := by
  obtain ⟨hx, hb, hml, hown, hts⟩ := id S
  intro n
  induction n with
  | zero =>
    intro kc ks g this v1 v2 v3 v4 H locs ls hk h hG hS hl
    exact h.elim
  | succ n ih =>
    intro kc ks g this v1 v2 v3 v4 H locs ls hk h hG hS hl
    refine lv_iload hx hb d_M_gather_25 (lv_at hl 4 rfl) ?_
    refine lv_iload_n hx hb d_M_gather_27 rfl (lv_at hl 1 rfl) ?_
    refine lv_icmp_ge (tgt := 69) hx hb d_M_gather_28 (by decide) (fun c9 => ?_) (fun c9 => ?_)
    · replace h := h.1 c9
      refine lv_iconst (v := (0 : Int32)) hx hb d_M_gather_69 (by decide) ?_
      refine q_istore (lv' := [(4, .int ((0 : Int32))), (0, .ref this), (1, .int v1), (2, .int v2), (3, .int v3)]) hx hb d_M_gather_70 hl (by decide) (.n (.k 0 rfl (by decide) (by decide) (.k 1 rfl (by decide) (by decide) (.k 2 rfl (by decide) (by decide) (.c 3 rfl (by decide) rfl .e))))) (fun ls22 hl22 => ?_)
      obtain ⟨n53, h⟩ := h
      exact s_M_gather_72 S hst hZ hr hlk hxt hk_10 n53 _ _ _ _ _ _ _ _ _ _ _ hk h hG hS (lv_sub hl22 [1, 2, 3, 4, 0] rfl)
    · replace h := h.2 c9
      refine lv_iload_n hx hb d_M_gather_31 rfl (lv_at hl 2 rfl) ?_
      refine lv_iload hx hb d_M_gather_32 (lv_at hl 4 rfl) ?_
      refine lv_icmp_eq (tgt := 63) hx hb d_M_gather_34 (by decide) (fun c9 => ?_) (fun c9 => ?_)
      · replace h := h.1 c9
        refine q_iinc (k := 4) (v := v4 + (1 : Int32)) (lv' := [(4, .int (v4 + (1 : Int32))), (0, .ref this), (1, .int v1), (2, .int v2), (3, .int v3)]) hx hb d_M_gather_63 hl rfl rfl (by decide) (.n (.k 0 rfl (by decide) (by decide) (.k 1 rfl (by decide) (by decide) (.k 2 rfl (by decide) (by decide) (.c 3 rfl (by decide) rfl .e))))) (fun ls54 hl54 => ?_)
        refine lv_goto (tgt := 25) hx hb d_M_gather_66 (by decide) ?_
        exact ih _ _ _ _ _ _ _ _ _ _ _ hk h hG hS (lv_sub hl54 [1, 2, 3, 4, 0] rfl)
      · replace h := h.2 c9
        refine lv_aload_n hx hb d_M_gather_37 rfl (lv_at hl 0 rfl) ?_
        refine r_getR (f := 51) S hZ hG rfl h.1 (hts _ tw_780) (fun _ h9 => h9) d_M_gather_38 (fun o55 e9 => ?_)
        replace h := h.2 o55 e9
        refine lv_iload_n hx hb d_M_gather_41 rfl (lv_at hl 3 rfl) ?_
        refine lv_aload_n hx hb d_M_gather_42 rfl (lv_at hl 0 rfl) ?_
        refine r_getR (f := 52) S hZ hG rfl h.1 (hts _ tw_781) (fun _ h9 => h9) d_M_gather_43 (fun o56 e9 => ?_)
        replace h := h.2 o56 e9
        refine lv_iload hx hb d_M_gather_46 (lv_at hl 4 rfl) ?_
        obtain ⟨a57, e9, h⟩ := h
        subst e9
        obtain ⟨j58, h9, h⟩ := h
        refine r_iald S hZ hG h9 d_M_gather_48 (fun x59 e9 => ?_)
        replace h := h x59 e9
        obtain ⟨a60, e9, h⟩ := h
        subst e9
        obtain ⟨h9, h⟩ := h
        obtain ⟨c61, c62, k1, k2, h⟩ := h
        obtain ⟨n9, h9⟩ := isK1 h9
        refine q_callI (run_V (As := [.int v3, .int x59]) (rest := []) S hZ hG hS (s_G_isBefore h) tw_848 tw_868 tw_846 tw_847 tw_9 nk_G_isBefore h9 (by decide) rfl ⟨Nat.le_of_ble_eq_true rfl, Nat.le_of_ble_eq_true rfl⟩ rfl hl.1 rfl (by decide) d_M_gather_49 ⟨k1, k2⟩) hS (fun x64 g63 H locs h66 hG hS => ?_)
        have hk := And.intro k1 k2
        replace h := h66
        refine lv_if_eq (tgt := 63) hx hb d_M_gather_52 (by decide) (fun c9 => ?_) (fun c9 => ?_)
        · replace h := h.1 c9
          refine q_iinc (k := 4) (v := v4 + (1 : Int32)) (lv' := [(4, .int (v4 + (1 : Int32))), (0, .ref this), (1, .int v1), (2, .int v2), (3, .int v3)]) hx hb d_M_gather_63 hl rfl rfl (by decide) (.n (.k 0 rfl (by decide) (by decide) (.k 1 rfl (by decide) (by decide) (.k 2 rfl (by decide) (by decide) (.c 3 rfl (by decide) rfl .e))))) (fun ls65 hl65 => ?_)
          refine lv_goto (tgt := 25) hx hb d_M_gather_66 (by decide) ?_
          exact ih _ _ _ _ _ _ _ _ _ _ _ hk h hG hS (lv_sub hl65 [1, 2, 3, 4, 0] rfl)
        · replace h := h.2 c9
          exact r_throw (i := 1) S hst hZ hG hS (by decide) tw_808 tw_16 xa_M_41_43 xb_M_41_43 xo_M_41_43 hl.1 d_M_gather_55 d_M_gather_58 d_M_gather_59 d_M_gather_62 (fun x hx => (hxt x hx).elim) (Nat.le_of_ble_eq_true rfl) (Nat.le_of_ble_eq_true rfl) rfl rfl hlk h.2.2 h.1 h.2.1
def w_M_gather_10 (z mi mc ms : Nat) (post : Sg → Prop) (px : Nat → Sg → Prop) : Nat → Nat → Nat → Sg → Nat → Int32 → Int32 → Prop
  | 0 => fun _ _ _ _ _ _ => False
  | n + 1 => fun kc ks g this v1 v2 => (v1 ≤ v2 → post g) ∧ (¬ v1 ≤ v2 → (hasR g this 52 ∧ ∀ o16 : Option Nat, o16 = fR g 52 this → ∃ a17, o16 = some a17 ∧ (∃ j18 : Nat, inA g a17 100 v2 j18 ∧ ∀ x19 : Int32, x19 = aI g a17 j18 → (∃ n67 : Nat, w_M_gather_25 z mi mc ms post px (w_M_gather_10 z mi mc ms post px n) n67 kc ks g this v1 v2 x19 (0 : Int32)))))
set_option maxHeartbeats 4000000 in
set_option maxRecDepth 100000 in
theorem s_M_gather_10 {p : Program} {l : Launch} {e : Env} {s : State} {m : MethodId} {args : Array Value} {below : List Frame} {meth : Method} {c : Code} {D : va_G} {cA : Nat → ClassId} {sz z mi mc ms : Nat} {post : Sg → Prop} {px : Nat → Sg → Prop} (S : CallFix p m c b_M_gather 6 s args TBL "WeaveCoreModel") (hst : l.stackTraces = false) (hZ : Ws D cA sz z mi s) (hr : meth.sig.returnType = none) (hlk : meth.locks = false) (hxt : ∀ x ∈ c.exceptionTable.toList, False) :
    ∀ n : Nat, ∀ (kc ks : Nat) (g : Sg) (this : Nat) (v1 : Int32) (v2 : Int32) (H : Heap) (locs : List Loc) (ls : Array Slot), kc ≤ mc ∧ ks ≤ ms → w_M_gather_10 z mi mc ms post px n kc ks g this v1 v2 → WP D cA sz g H → va_S (oA sz) s.heap H locs → lv_has ls 6 [(0, .ref this), (1, .int v1), (2, .int v2)] → W p l e ({ frames := 6, cells := mc, slots := ms, locals := 90 } : Room) s m args below meth c H locs kc ks (vx_MQ below (Qg D cA sz (pV post)) (Xg D cA sz px) args s mc ms (oA sz)) (F0 m 10 ls []) := by
  obtain ⟨hx, hb, hml, hown, hts⟩ := id S
  intro n
  induction n with
  | zero =>
    intro kc ks g this v1 v2 H locs ls hk h hG hS hl
    exact h.elim
  | succ n ih =>
    intro kc ks g this v1 v2 H locs ls hk h hG hS hl
    refine lv_iload_n hx hb d_M_gather_10 rfl (lv_at hl 2 rfl) ?_
    refine lv_iload_n hx hb d_M_gather_11 rfl (lv_at hl 1 rfl) ?_
    refine lv_icmp_ge (tgt := 158) hx hb d_M_gather_12 (by decide) (fun c9 => ?_) (fun c9 => ?_)
    · replace h := h.1 c9
      exact vx_ret (r_vret S hr hlk hG hS h hk.1 hk.2 d_M_gather_158)
    · replace h := h.2 c9
      refine lv_aload_n hx hb d_M_gather_15 rfl (lv_at hl 0 rfl) ?_
      refine r_getR (f := 52) S hZ hG rfl h.1 (hts _ tw_781) (fun _ h9 => h9) d_M_gather_16 (fun o16 e9 => ?_)
      replace h := h.2 o16 e9
      refine lv_iload_n hx hb d_M_gather_19 rfl (lv_at hl 2 rfl) ?_
      obtain ⟨a17, e9, h⟩ := h
      subst e9
      obtain ⟨j18, h9, h⟩ := h
      refine r_iald S hZ hG h9 d_M_gather_20 (fun x19 e9 => ?_)
      replace h := h x19 e9
      refine q_istore_n (lv' := [(3, .int x19), (0, .ref this), (1, .int v1), (2, .int v2)]) hx hb d_M_gather_21 rfl hl (by decide) (.n (.k 0 rfl (by decide) (by decide) (.k 1 rfl (by decide) (by decide) (.c 2 rfl (by decide) rfl .e)))) (fun ls20 hl20 => ?_)
      refine lv_iconst (v := (0 : Int32)) hx hb d_M_gather_22 (by decide) ?_
      refine q_istore (lv' := [(4, .int ((0 : Int32))), (3, .int x19), (0, .ref this), (1, .int v1), (2, .int v2)]) hx hb d_M_gather_23 hl20 (by decide) (.n (.c 0 rfl (by decide) rfl (.k 1 rfl (by decide) (by decide) (.k 2 rfl (by decide) (by decide) (.k 3 rfl (by decide) (by decide) .e))))) (fun ls21 hl21 => ?_)
      obtain ⟨n67, h⟩ := h
      exact s_M_gather_25 S hst hZ hr hlk hxt ih n67 _ _ _ _ _ _ _ _ _ _ _ hk h hG hS (lv_sub hl21 [2, 3, 4, 1, 0] rfl)
def w_M_gather (z mi mc ms : Nat) (post : Sg → Prop) (px : Nat → Sg → Prop) (g : Sg) (this : Nat) (p0 : Int32) : Prop := (hasR g this 55 ∧ ∀ o11 : Option Nat, o11 = fR g 55 this → (∃ c12 c13 : Nat, 0 + c12 ≤ mc ∧ 0 + c13 ≤ ms ∧ w_AR_fillS z mi c12 c13 (fun (g14 : Sg) => (∃ n68 : Nat, w_M_gather_10 z mi mc ms post px n68 (0 + c12) (0 + c13) g14 this p0 (0 : Int32))) g o11 (0 : Int32)))
set_option maxHeartbeats 4000000 in
set_option maxRecDepth 100000 in
theorem s_M_gather {l : Launch} {D : va_G} {cA : Nat → ClassId} {sz z mi mc ms : Nat} {g : Sg} {post : Sg → Prop} {px : Nat → Sg → Prop} {this : Nat} {p0 : Int32} (hst : l.stackTraces = false) (h : w_M_gather z mi mc ms post px g this p0) : vx_Met l y_M_gather (Cond.code y_M_gather b_M_gather 6 none :: TBL) ({ frames := 6, cells := mc, slots := ms, locals := 90 } : Room) (Pg D cA sz z mi [.ref this, .int p0] g) (Qg D cA sz (pV post)) (Xg D cA sz px) mc ms (oA sz) := by
  refine m_codeX (lv := [(0, .ref this), (1, .int p0)]) (by decide +kernel) (Nat.le_of_ble_eq_true rfl) rfl ?_
  intro p e s m below meth c ls hxt S hr hlk hnm hZ hG hS hl
  obtain ⟨hx, hb, hml, hown, hts⟩ := id S
  have hk : 0 ≤ mc ∧ 0 ≤ ms := ⟨Nat.zero_le _, Nat.zero_le _⟩
  refine lv_aload_n hx hb d_M_gather_0 rfl (lv_at hl 0 rfl) ?_
  refine r_getR (f := 55) S hZ hG rfl h.1 (hts _ tw_784) (fun _ h9 => h9) d_M_gather_1 (fun o11 e9 => ?_)
  replace h := h.2 o11 e9
  refine lv_iconst (v := (0 : Int32)) hx hb d_M_gather_4 (by decide) ?_
  obtain ⟨c12, c13, k1, k2, h⟩ := h
  refine q_callV (run_S (As := [va_rf o11, .int ((0 : Int32))]) (rest := []) S hZ hG hS (s_AR_fillS h) tw_867 tw_865 tw_866 tw_18 nk_AR_fillS ⟨Nat.le_of_ble_eq_true rfl, Nat.le_of_ble_eq_true rfl⟩ rfl hl.1 rfl (by decide) d_M_gather_5 ⟨k1, k2⟩) hS (fun g14 H locs h69 hG hS => ?_)
  have hk := And.intro k1 k2
  replace h := h69
  refine lv_iconst (v := (0 : Int32)) hx hb d_M_gather_8 (by decide) ?_
  refine q_istore_n (lv' := [(2, .int ((0 : Int32))), (0, .ref this), (1, .int p0)]) hx hb d_M_gather_9 rfl hl (by decide) (.n (.k 0 rfl (by decide) (by decide) (.c 1 rfl (by decide) rfl .e))) (fun ls15 hl15 => ?_)
  obtain ⟨n68, h⟩ := h
  exact s_M_gather_10 S hst hZ hr hlk hxt n68 _ _ _ _ _ _ _ _ _ hk h hG hS (lv_sub hl15 [1, 2, 0] rfl)
