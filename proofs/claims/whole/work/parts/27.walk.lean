def w_G_firstOf_2 (z mi mc ms : Nat) (post : Int32 → Sg → Prop) : Nat → Nat → Nat → Sg → Nat → Int32 → Prop
  | 0 => fun _ _ _ _ _ => False
  | n + 1 => fun kc ks g this v2 => (hasR g this 43 ∧ ∀ o12 : Option Nat, o12 = fR g 43 this → ∃ a13, o12 = some a13 ∧ (∃ j14 : Nat, inA g a13 100 v2 j14 ∧ ∀ x15 : Int32, x15 = aI g a13 j14 → (x15 < 0 → post v2 g) ∧ (¬ x15 < 0 → (hasR g this 43 ∧ ∀ o16 : Option Nat, o16 = fR g 43 this → ∃ a17, o16 = some a17 ∧ (∃ j18 : Nat, inA g a17 100 v2 j18 ∧ ∀ x19 : Int32, x19 = aI g a17 j18 → w_G_firstOf_2 z mi mc ms post n kc ks g this x19)))))
set_option maxHeartbeats 4000000 in
set_option maxRecDepth 100000 in
theorem s_G_firstOf_2 {p : Program} {l : Launch} {e : Env} {s : State} {m : MethodId} {args : Array Value} {below : List Frame} {meth : Method} {c : Code} {D : va_G} {cA : Nat → ClassId} {sz z mi mc ms : Nat} {post : Int32 → Sg → Prop} (S : CallFix p m c b_G_firstOf 3 s args TBL "WeaveCoreModel$Graph") (hZ : Ws D cA sz z mi s) (hr : meth.sig.returnType = (some FieldType.int)) (hlk : meth.locks = false) :
    ∀ n : Nat, ∀ (kc ks : Nat) (g : Sg) (this : Nat) (v2 : Int32) (H : Heap) (locs : List Loc) (ls : Array Slot), kc ≤ mc ∧ ks ≤ ms → w_G_firstOf_2 z mi mc ms post n kc ks g this v2 → WP D cA sz g H → va_S (oA sz) s.heap H locs → lv_has ls 3 [(0, .ref this), (2, .int v2)] → W p l e ({ frames := 0, cells := mc, slots := ms, locals := 0 } : Room) s m args below meth c H locs kc ks (MQ below (Qg D cA sz (pI post)) args s mc ms (oA sz)) (F0 m 2 ls []) := by
  obtain ⟨hx, hb, hml, hown, hts⟩ := id S
  intro n
  induction n with
  | zero =>
    intro kc ks g this v2 H locs ls hk h hG hS hl
    exact h.elim
  | succ n ih =>
    intro kc ks g this v2 H locs ls hk h hG hS hl
    refine lv_aload_n hx hb d_G_firstOf_2 rfl (lv_at hl 0 rfl) ?_
    refine r_getR (f := 43) S hZ hG rfl h.1 (hts _ tw_722) (fun _ h9 => h9) d_G_firstOf_3 (fun o12 e9 => ?_)
    replace h := h.2 o12 e9
    refine lv_iload_n hx hb d_G_firstOf_6 rfl (lv_at hl 1 rfl) ?_
    obtain ⟨a13, e9, h⟩ := h
    subst e9
    obtain ⟨j14, h9, h⟩ := h
    refine r_iald S hZ hG h9 d_G_firstOf_7 (fun x15 e9 => ?_)
    replace h := h x15 e9
    refine lv_if_lt (tgt := 21) hx hb d_G_firstOf_8 (by decide) (fun c9 => ?_) (fun c9 => ?_)
    · replace h := h.1 c9
      refine lv_iload_n hx hb d_G_firstOf_21 rfl (lv_at hl 1 rfl) ?_
      exact r_iret (v := v2) S hr hlk hG hS h hk.1 hk.2 d_G_firstOf_22
    · replace h := h.2 c9
      refine lv_aload_n hx hb d_G_firstOf_11 rfl (lv_at hl 0 rfl) ?_
      refine r_getR (f := 43) S hZ hG rfl h.1 (hts _ tw_722) (fun _ h9 => h9) d_G_firstOf_12 (fun o16 e9 => ?_)
      replace h := h.2 o16 e9
      refine lv_iload_n hx hb d_G_firstOf_15 rfl (lv_at hl 1 rfl) ?_
      obtain ⟨a17, e9, h⟩ := h
      subst e9
      obtain ⟨j18, h9, h⟩ := h
      refine r_iald S hZ hG h9 d_G_firstOf_16 (fun x19 e9 => ?_)
      replace h := h x19 e9
      refine q_istore_n (lv' := [(2, .int x19), (0, .ref this)]) hx hb d_G_firstOf_17 rfl hl (by decide) (.n (.k 0 rfl (by decide) (by decide) .e)) (fun ls20 hl20 => ?_)
      refine lv_goto (tgt := 2) hx hb d_G_firstOf_18 (by decide) ?_
      exact ih _ _ _ _ _ _ _ _ hk h hG hS (lv_sub hl20 [1, 0] rfl)
def w_G_firstOf (z mi mc ms : Nat) (post : Int32 → Sg → Prop) (g : Sg) (this : Nat) (p0 : Int32) : Prop := (∃ n21 : Nat, w_G_firstOf_2 z mi mc ms post n21 0 0 g this p0)
set_option maxHeartbeats 4000000 in
set_option maxRecDepth 100000 in
theorem s_G_firstOf {l : Launch} {D : va_G} {cA : Nat → ClassId} {sz z mi mc ms : Nat} {g : Sg} {post : Int32 → Sg → Prop} {this : Nat} {p0 : Int32} (h : w_G_firstOf z mi mc ms post g this p0) : Met l y_G_firstOf (Cond.code y_G_firstOf b_G_firstOf 3 (some FieldType.int) :: TBL) ({ frames := 0, cells := mc, slots := ms, locals := 0 } : Room) (Pg D cA sz z mi [.ref this, .int p0] g) (Qg D cA sz (pI post)) mc ms (oA sz) := by
  refine m_code (lv := [(0, .ref this), (1, .int p0)]) (by decide +kernel) (Nat.le_of_ble_eq_true rfl) rfl ?_
  intro p e s m below meth c ls S hr hlk hnm hZ hG hS hl
  obtain ⟨hx, hb, hml, hown, hts⟩ := id S
  have hk : 0 ≤ mc ∧ 0 ≤ ms := ⟨Nat.zero_le _, Nat.zero_le _⟩
  refine lv_iload_n hx hb d_G_firstOf_0 rfl (lv_at hl 1 rfl) ?_
  refine q_istore_n (lv' := [(2, .int p0), (0, .ref this), (1, .int p0)]) hx hb d_G_firstOf_1 rfl hl (by decide) (.n (.k 0 rfl (by decide) (by decide) (.c 1 rfl (by decide) rfl .e))) (fun ls11 hl11 => ?_)
  obtain ⟨n21, h⟩ := h
  exact s_G_firstOf_2 S hZ hr hlk n21 _ _ _ _ _ _ _ _ hk h hG hS (lv_sub hl11 [1, 0] rfl)
def w_G_inRow_2 (z mi mc ms : Nat) (post : Int32 → Sg → Prop) : Nat → Nat → Nat → Sg → Nat → Int32 → Int32 → Prop
  | 0 => fun _ _ _ _ _ _ => False
  | n + 1 => fun kc ks g this v1 v2 => (hasR g this 50 ∧ ∀ o12 : Option Nat, o12 = fR g 50 this → ∃ a13, o12 = some a13 ∧ (∃ j14 : Nat, inA g a13 100 v2 j14 ∧ ∀ x15 : Int32, x15 = aI g a13 j14 → (x15 = v1 → post v2 g) ∧ (¬ x15 = v1 → w_G_inRow_2 z mi mc ms post n kc ks g this v1 (v2 + (1 : Int32)))))
set_option maxHeartbeats 4000000 in
set_option maxRecDepth 100000 in
theorem s_G_inRow_2 {p : Program} {l : Launch} {e : Env} {s : State} {m : MethodId} {args : Array Value} {below : List Frame} {meth : Method} {c : Code} {D : va_G} {cA : Nat → ClassId} {sz z mi mc ms : Nat} {post : Int32 → Sg → Prop} (S : CallFix p m c b_G_inRow 3 s args TBL "WeaveCoreModel$Graph") (hZ : Ws D cA sz z mi s) (hr : meth.sig.returnType = (some FieldType.int)) (hlk : meth.locks = false) :
    ∀ n : Nat, ∀ (kc ks : Nat) (g : Sg) (this : Nat) (v1 : Int32) (v2 : Int32) (H : Heap) (locs : List Loc) (ls : Array Slot), kc ≤ mc ∧ ks ≤ ms → w_G_inRow_2 z mi mc ms post n kc ks g this v1 v2 → WP D cA sz g H → va_S (oA sz) s.heap H locs → lv_has ls 3 [(0, .ref this), (1, .int v1), (2, .int v2)] → W p l e ({ frames := 0, cells := mc, slots := ms, locals := 0 } : Room) s m args below meth c H locs kc ks (MQ below (Qg D cA sz (pI post)) args s mc ms (oA sz)) (F0 m 2 ls []) := by
  obtain ⟨hx, hb, hml, hown, hts⟩ := id S
  intro n
  induction n with
  | zero =>
    intro kc ks g this v1 v2 H locs ls hk h hG hS hl
    exact h.elim
  | succ n ih =>
    intro kc ks g this v1 v2 H locs ls hk h hG hS hl
    refine lv_aload_n hx hb d_G_inRow_2 rfl (lv_at hl 0 rfl) ?_
    refine r_getR (f := 50) S hZ hG rfl h.1 (hts _ tw_731) (fun _ h9 => h9) d_G_inRow_3 (fun o12 e9 => ?_)
    replace h := h.2 o12 e9
    refine lv_iload_n hx hb d_G_inRow_6 rfl (lv_at hl 2 rfl) ?_
    obtain ⟨a13, e9, h⟩ := h
    subst e9
    obtain ⟨j14, h9, h⟩ := h
    refine r_iald S hZ hG h9 d_G_inRow_7 (fun x15 e9 => ?_)
    replace h := h x15 e9
    refine lv_iload_n hx hb d_G_inRow_8 rfl (lv_at hl 1 rfl) ?_
    refine lv_icmp_eq (tgt := 18) hx hb d_G_inRow_9 (by decide) (fun c9 => ?_) (fun c9 => ?_)
    · replace h := h.1 c9
      refine lv_iload_n hx hb d_G_inRow_18 rfl (lv_at hl 2 rfl) ?_
      exact r_iret (v := v2) S hr hlk hG hS h hk.1 hk.2 d_G_inRow_19
    · replace h := h.2 c9
      refine q_iinc (k := 2) (v := v2 + (1 : Int32)) (lv' := [(2, .int (v2 + (1 : Int32))), (0, .ref this), (1, .int v1)]) hx hb d_G_inRow_12 hl rfl rfl (by decide) (.n (.k 0 rfl (by decide) (by decide) (.c 1 rfl (by decide) rfl .e))) (fun ls16 hl16 => ?_)
      refine lv_goto (tgt := 2) hx hb d_G_inRow_15 (by decide) ?_
      exact ih _ _ _ _ _ _ _ _ _ hk h hG hS (lv_sub hl16 [1, 2, 0] rfl)
def w_G_inRow (z mi mc ms : Nat) (post : Int32 → Sg → Prop) (g : Sg) (this : Nat) (p0 : Int32) : Prop := (∃ n17 : Nat, w_G_inRow_2 z mi mc ms post n17 0 0 g this p0 (0 : Int32))
set_option maxHeartbeats 4000000 in
set_option maxRecDepth 100000 in
theorem s_G_inRow {l : Launch} {D : va_G} {cA : Nat → ClassId} {sz z mi mc ms : Nat} {g : Sg} {post : Int32 → Sg → Prop} {this : Nat} {p0 : Int32} (h : w_G_inRow z mi mc ms post g this p0) : Met l y_G_inRow (Cond.code y_G_inRow b_G_inRow 3 (some FieldType.int) :: TBL) ({ frames := 0, cells := mc, slots := ms, locals := 0 } : Room) (Pg D cA sz z mi [.ref this, .int p0] g) (Qg D cA sz (pI post)) mc ms (oA sz) := by
  refine m_code (lv := [(0, .ref this), (1, .int p0)]) (by decide +kernel) (Nat.le_of_ble_eq_true rfl) rfl ?_
  intro p e s m below meth c ls S hr hlk hnm hZ hG hS hl
  obtain ⟨hx, hb, hml, hown, hts⟩ := id S
  have hk : 0 ≤ mc ∧ 0 ≤ ms := ⟨Nat.zero_le _, Nat.zero_le _⟩
  refine lv_iconst (v := (0 : Int32)) hx hb d_G_inRow_0 (by decide) ?_
  refine q_istore_n (lv' := [(2, .int ((0 : Int32))), (0, .ref this), (1, .int p0)]) hx hb d_G_inRow_1 rfl hl (by decide) (.n (.k 0 rfl (by decide) (by decide) (.c 1 rfl (by decide) rfl .e))) (fun ls11 hl11 => ?_)
  obtain ⟨n17, h⟩ := h
  exact s_G_inRow_2 S hZ hr hlk n17 _ _ _ _ _ _ _ _ _ hk h hG hS (lv_sub hl11 [1, 2, 0] rfl)
def w_G_lastOf_18 (z mi mc ms : Nat) (post : Int32 → Sg → Prop) (k_2 : Nat → Nat → Sg → Nat → Int32 → Prop) : Nat → Nat → Nat → Sg → Nat → Int32 → Prop
  | 0 => fun _ _ _ _ _ => False
  | n + 1 => fun kc ks g this v2 => (hasR g this 42 ∧ ∀ o21 : Option Nat, o21 = fR g 42 this → ∃ a22, o21 = some a22 ∧ (∃ j23 : Nat, inA g a22 100 v2 j23 ∧ ∀ x24 : Int32, x24 = aI g a22 j23 → (x24 < 0 → k_2 kc ks g this v2) ∧ (¬ x24 < 0 → (hasR g this 42 ∧ ∀ o25 : Option Nat, o25 = fR g 42 this → ∃ a26, o25 = some a26 ∧ (∃ j27 : Nat, inA g a26 100 v2 j27 ∧ ∀ x28 : Int32, x28 = aI g a26 j27 → w_G_lastOf_18 z mi mc ms post k_2 n kc ks g this x28)))))
set_option maxHeartbeats 4000000 in
set_option maxRecDepth 100000 in
theorem s_G_lastOf_18 {p : Program} {l : Launch} {e : Env} {s : State} {m : MethodId} {args : Array Value} {below : List Frame} {meth : Method} {c : Code} {D : va_G} {cA : Nat → ClassId} {sz z mi mc ms : Nat} {post : Int32 → Sg → Prop}  {k_2 : Nat → Nat → Sg → Nat → Int32 → Prop} (S : CallFix p m c b_G_lastOf 3 s args TBL "WeaveCoreModel$Graph") (hZ : Ws D cA sz z mi s) (hr : meth.sig.returnType = (some FieldType.int)) (hlk : meth.locks = false) (hk_2 : ∀ (kc ks : Nat) (g : Sg) (this : Nat) (v2 : Int32) (H : Heap) (locs : List Loc) (ls : Array Slot), kc ≤ mc ∧ ks ≤ ms → k_2 kc ks g this v2 → WP D cA sz g H → va_S (oA sz) s.heap H locs → lv_has ls 3 [(0, .ref this), (2, .int v2)] → W p l e ({ frames := 0, cells := mc, slots := ms, locals := 0 } : Room) s m args below meth c H locs kc ks (MQ below (Qg D cA sz (pI post)) args s mc ms (oA sz)) (F0 m 2 ls [])) :
    ∀ n : Nat, ∀ (kc ks : Nat) (g : Sg) (this : Nat) (v2 : Int32) (H : Heap) (locs : List Loc) (ls : Array Slot), kc ≤ mc ∧ ks ≤ ms → w_G_lastOf_18 z mi mc ms post k_2 n kc ks g this v2 → WP D cA sz g H → va_S (oA sz) s.heap H locs → lv_has ls 3 [(0, .ref this), (2, .int v2)] → W p l e ({ frames := 0, cells := mc, slots := ms, locals := 0 } : Room) s m args below meth c H locs kc ks (MQ below (Qg D cA sz (pI post)) args s mc ms (oA sz)) (F0 m 18 ls []) := by
  obtain ⟨hx, hb, hml, hown, hts⟩ := id S
  intro n
  induction n with
  | zero =>
    intro kc ks g this v2 H locs ls hk h hG hS hl
    exact h.elim
  | succ n ih =>
    intro kc ks g this v2 H locs ls hk h hG hS hl
    refine lv_aload_n hx hb d_G_lastOf_18 rfl (lv_at hl 0 rfl) ?_
    refine r_getR (f := 42) S hZ hG rfl h.1 (hts _ tw_721) (fun _ h9 => h9) d_G_lastOf_19 (fun o21 e9 => ?_)
    replace h := h.2 o21 e9
    refine lv_iload_n hx hb d_G_lastOf_22 rfl (lv_at hl 1 rfl) ?_
    obtain ⟨a22, e9, h⟩ := h
    subst e9
    obtain ⟨j23, h9, h⟩ := h
    refine r_iald S hZ hG h9 d_G_lastOf_23 (fun x24 e9 => ?_)
    replace h := h x24 e9
    refine lv_if_lt (tgt := 2) hx hb d_G_lastOf_24 (by decide) (fun c9 => ?_) (fun c9 => ?_)
    · replace h := h.1 c9
      exact hk_2 _ _ _ _ _ _ _ _ hk h hG hS (lv_sub hl [0, 1] rfl)
    · replace h := h.2 c9
      refine lv_aload_n hx hb d_G_lastOf_27 rfl (lv_at hl 0 rfl) ?_
      refine r_getR (f := 42) S hZ hG rfl h.1 (hts _ tw_721) (fun _ h9 => h9) d_G_lastOf_28 (fun o25 e9 => ?_)
      replace h := h.2 o25 e9
      refine lv_iload_n hx hb d_G_lastOf_31 rfl (lv_at hl 1 rfl) ?_
      obtain ⟨a26, e9, h⟩ := h
      subst e9
      obtain ⟨j27, h9, h⟩ := h
      refine r_iald S hZ hG h9 d_G_lastOf_32 (fun x28 e9 => ?_)
      replace h := h x28 e9
      refine q_istore_n (lv' := [(2, .int x28), (0, .ref this)]) hx hb d_G_lastOf_33 rfl hl (by decide) (.n (.k 0 rfl (by decide) (by decide) .e)) (fun ls29 hl29 => ?_)
      refine lv_goto (tgt := 18) hx hb d_G_lastOf_34 (by decide) ?_
      exact ih _ _ _ _ _ _ _ _ hk h hG hS (lv_sub hl29 [1, 0] rfl)
def w_G_lastOf_2 (z mi mc ms : Nat) (post : Int32 → Sg → Prop) : Nat → Nat → Nat → Sg → Nat → Int32 → Prop
  | 0 => fun _ _ _ _ _ => False
  | n + 1 => fun kc ks g this v2 => (hasR g this 44 ∧ ∀ o12 : Option Nat, o12 = fR g 44 this → ∃ a13, o12 = some a13 ∧ (∃ j14 : Nat, inA g a13 100 v2 j14 ∧ ∀ x15 : Int32, x15 = aI g a13 j14 → (x15 < 0 → post v2 g) ∧ (¬ x15 < 0 → (hasR g this 44 ∧ ∀ o16 : Option Nat, o16 = fR g 44 this → ∃ a17, o16 = some a17 ∧ (∃ j18 : Nat, inA g a17 100 v2 j18 ∧ ∀ x19 : Int32, x19 = aI g a17 j18 → (∃ n30 : Nat, w_G_lastOf_18 z mi mc ms post (w_G_lastOf_2 z mi mc ms post n) n30 kc ks g this x19))))))
set_option maxHeartbeats 4000000 in
set_option maxRecDepth 100000 in
theorem s_G_lastOf_2 {p : Program} {l : Launch} {e : Env} {s : State} {m : MethodId} {args : Array Value} {below : List Frame} {meth : Method} {c : Code} {D : va_G} {cA : Nat → ClassId} {sz z mi mc ms : Nat} {post : Int32 → Sg → Prop} (S : CallFix p m c b_G_lastOf 3 s args TBL "WeaveCoreModel$Graph") (hZ : Ws D cA sz z mi s) (hr : meth.sig.returnType = (some FieldType.int)) (hlk : meth.locks = false) :
    ∀ n : Nat, ∀ (kc ks : Nat) (g : Sg) (this : Nat) (v2 : Int32) (H : Heap) (locs : List Loc) (ls : Array Slot), kc ≤ mc ∧ ks ≤ ms → w_G_lastOf_2 z mi mc ms post n kc ks g this v2 → WP D cA sz g H → va_S (oA sz) s.heap H locs → lv_has ls 3 [(0, .ref this), (2, .int v2)] → W p l e ({ frames := 0, cells := mc, slots := ms, locals := 0 } : Room) s m args below meth c H locs kc ks (MQ below (Qg D cA sz (pI post)) args s mc ms (oA sz)) (F0 m 2 ls []) := by
  obtain ⟨hx, hb, hml, hown, hts⟩ := id S
  intro n
  induction n with
  | zero =>
    intro kc ks g this v2 H locs ls hk h hG hS hl
    exact h.elim
  | succ n ih =>
    intro kc ks g this v2 H locs ls hk h hG hS hl
    refine lv_aload_n hx hb d_G_lastOf_2 rfl (lv_at hl 0 rfl) ?_
    refine r_getR (f := 44) S hZ hG rfl h.1 (hts _ tw_723) (fun _ h9 => h9) d_G_lastOf_3 (fun o12 e9 => ?_)
    replace h := h.2 o12 e9
    refine lv_iload_n hx hb d_G_lastOf_6 rfl (lv_at hl 1 rfl) ?_
    obtain ⟨a13, e9, h⟩ := h
    subst e9
    obtain ⟨j14, h9, h⟩ := h
    refine r_iald S hZ hG h9 d_G_lastOf_7 (fun x15 e9 => ?_)
    replace h := h x15 e9
    refine lv_if_lt (tgt := 37) hx hb d_G_lastOf_8 (by decide) (fun c9 => ?_) (fun c9 => ?_)
    · replace h := h.1 c9
      refine lv_iload_n hx hb d_G_lastOf_37 rfl (lv_at hl 1 rfl) ?_
      exact r_iret (v := v2) S hr hlk hG hS h hk.1 hk.2 d_G_lastOf_38
    · replace h := h.2 c9
      refine lv_aload_n hx hb d_G_lastOf_11 rfl (lv_at hl 0 rfl) ?_
      refine r_getR (f := 44) S hZ hG rfl h.1 (hts _ tw_723) (fun _ h9 => h9) d_G_lastOf_12 (fun o16 e9 => ?_)
      replace h := h.2 o16 e9
      refine lv_iload_n hx hb d_G_lastOf_15 rfl (lv_at hl 1 rfl) ?_
      obtain ⟨a17, e9, h⟩ := h
      subst e9
      obtain ⟨j18, h9, h⟩ := h
      refine r_iald S hZ hG h9 d_G_lastOf_16 (fun x19 e9 => ?_)
      replace h := h x19 e9
      refine q_istore_n (lv' := [(2, .int x19), (0, .ref this)]) hx hb d_G_lastOf_17 rfl hl (by decide) (.n (.k 0 rfl (by decide) (by decide) .e)) (fun ls20 hl20 => ?_)
      obtain ⟨n30, h⟩ := h
      exact s_G_lastOf_18 S hZ hr hlk ih n30 _ _ _ _ _ _ _ _ hk h hG hS (lv_sub hl20 [1, 0] rfl)
def w_G_lastOf (z mi mc ms : Nat) (post : Int32 → Sg → Prop) (g : Sg) (this : Nat) (p0 : Int32) : Prop := (∃ n31 : Nat, w_G_lastOf_2 z mi mc ms post n31 0 0 g this p0)
set_option maxHeartbeats 4000000 in
set_option maxRecDepth 100000 in
theorem s_G_lastOf {l : Launch} {D : va_G} {cA : Nat → ClassId} {sz z mi mc ms : Nat} {g : Sg} {post : Int32 → Sg → Prop} {this : Nat} {p0 : Int32} (h : w_G_lastOf z mi mc ms post g this p0) : Met l y_G_lastOf (Cond.code y_G_lastOf b_G_lastOf 3 (some FieldType.int) :: TBL) ({ frames := 0, cells := mc, slots := ms, locals := 0 } : Room) (Pg D cA sz z mi [.ref this, .int p0] g) (Qg D cA sz (pI post)) mc ms (oA sz) := by
  refine m_code (lv := [(0, .ref this), (1, .int p0)]) (by decide +kernel) (Nat.le_of_ble_eq_true rfl) rfl ?_
  intro p e s m below meth c ls S hr hlk hnm hZ hG hS hl
  obtain ⟨hx, hb, hml, hown, hts⟩ := id S
  have hk : 0 ≤ mc ∧ 0 ≤ ms := ⟨Nat.zero_le _, Nat.zero_le _⟩
  refine lv_iload_n hx hb d_G_lastOf_0 rfl (lv_at hl 1 rfl) ?_
  refine q_istore_n (lv' := [(2, .int p0), (0, .ref this), (1, .int p0)]) hx hb d_G_lastOf_1 rfl hl (by decide) (.n (.k 0 rfl (by decide) (by decide) (.c 1 rfl (by decide) rfl .e))) (fun ls11 hl11 => ?_)
  obtain ⟨n31, h⟩ := h
  exact s_G_lastOf_2 S hZ hr hlk n31 _ _ _ _ _ _ _ _ hk h hG hS (lv_sub hl11 [1, 0] rfl)
def w_G_placeOf_58 (z mi mc ms : Nat) (post : Int32 → Sg → Prop) : Nat → Nat → Nat → Sg → Nat → Int32 → Int32 → Int32 → Int32 → Prop
  | 0 => fun _ _ _ _ _ _ _ _ => False
  | n + 1 => fun kc ks g this v1 v2 v3 v4 => (v4 = v1 → (v3 < 0 → (0 ≤ v2 → (isK g this [5] ∧ ∃ c26 c27 : Nat, kc + c26 ≤ mc ∧ ks + c27 ≤ ms ∧ w_G_inRow z mi c26 c27 (fun (x29 : Int32) (g28 : Sg) => post (x29 + (1 : Int32)) g28) g this v2)) ∧ (¬ 0 ≤ v2 → post (0 : Int32) g)) ∧ (¬ v3 < 0 → (isK g this [5] ∧ ∃ c31 c32 : Nat, kc + c31 ≤ mc ∧ ks + c32 ≤ ms ∧ w_G_lastOf z mi c31 c32 (fun (x34 : Int32) (g33 : Sg) => (isK g33 this [5] ∧ ∃ c35 c36 : Nat, (kc + c31) + c35 ≤ mc ∧ (ks + c32) + c36 ≤ ms ∧ w_G_inRow z mi c35 c36 (fun (x38 : Int32) (g37 : Sg) => post (x38 + (1 : Int32)) g37) g33 this x34)) g this v3))) ∧ (¬ v4 = v1 → (hasR g this 42 ∧ ∀ o42 : Option Nat, o42 = fR g 42 this → ∃ a43, o42 = some a43 ∧ (∃ j44 : Nat, inA g a43 100 v4 j44 ∧ ∀ x45 : Int32, x45 = aI g a43 j44 → w_G_placeOf_58 z mi mc ms post n kc ks g this v1 v2 v4 x45)))
set_option maxHeartbeats 4000000 in
set_option maxRecDepth 100000 in
theorem s_G_placeOf_58 {p : Program} {l : Launch} {e : Env} {s : State} {m : MethodId} {args : Array Value} {below : List Frame} {meth : Method} {c : Code} {D : va_G} {cA : Nat → ClassId} {sz z mi mc ms : Nat} {post : Int32 → Sg → Prop} (S : CallFix p m c b_G_placeOf 5 s args TBL "WeaveCoreModel$Graph") (hZ : Ws D cA sz z mi s) (hr : meth.sig.returnType = (some FieldType.int)) (hlk : meth.locks = false) :
    ∀ n : Nat, ∀ (kc ks : Nat) (g : Sg) (this : Nat) (v1 : Int32) (v2 : Int32) (v3 : Int32) (v4 : Int32) (H : Heap) (locs : List Loc) (ls : Array Slot), kc ≤ mc ∧ ks ≤ ms → w_G_placeOf_58 z mi mc ms post n kc ks g this v1 v2 v3 v4 → WP D cA sz g H → va_S (oA sz) s.heap H locs → lv_has ls 5 [(0, .ref this), (1, .int v1), (2, .int v2), (3, .int v3), (4, .int v4)] → W p l e ({ frames := 1, cells := mc, slots := ms, locals := 22 } : Room) s m args below meth c H locs kc ks (MQ below (Qg D cA sz (pI post)) args s mc ms (oA sz)) (F0 m 58 ls []) := by
  obtain ⟨hx, hb, hml, hown, hts⟩ := id S
  intro n
  induction n with
  | zero =>
    intro kc ks g this v1 v2 v3 v4 H locs ls hk h hG hS hl
    exact h.elim
  | succ n ih =>
    intro kc ks g this v1 v2 v3 v4 H locs ls hk h hG hS hl
    refine lv_iload hx hb d_G_placeOf_58 (lv_at hl 4 rfl) ?_
    refine lv_iload_n hx hb d_G_placeOf_60 rfl (lv_at hl 1 rfl) ?_
    refine lv_icmp_eq (tgt := 79) hx hb d_G_placeOf_61 (by decide) (fun c9 => ?_) (fun c9 => ?_)
    · replace h := h.1 c9
      refine lv_iload_n hx hb d_G_placeOf_79 rfl (lv_at hl 3 rfl) ?_
      refine lv_if_lt (tgt := 95) hx hb d_G_placeOf_80 (by decide) (fun c9 => ?_) (fun c9 => ?_)
      · replace h := h.1 c9
        refine lv_iload_n hx hb d_G_placeOf_95 rfl (lv_at hl 2 rfl) ?_
        refine lv_if_ge (tgt := 103) hx hb d_G_placeOf_96 (by decide) (fun c9 => ?_) (fun c9 => ?_)
        · replace h := h.1 c9
          refine lv_aload_n hx hb d_G_placeOf_103 rfl (lv_at hl 0 rfl) ?_
          refine lv_iload_n hx hb d_G_placeOf_104 rfl (lv_at hl 2 rfl) ?_
          obtain ⟨h9, h⟩ := h
          obtain ⟨c26, c27, k1, k2, h⟩ := h
          obtain ⟨n9, h9⟩ := isK1 h9
          refine q_callI (run_V (As := [.int v2]) (rest := []) S hZ hG hS (s_G_inRow h) tw_949 tw_946 tw_948 tp_46 tw_9 nk_G_inRow h9 (by decide) rfl ⟨Nat.le_of_ble_eq_true rfl, Nat.le_of_ble_eq_true rfl⟩ rfl hl.1 rfl (by decide) d_G_placeOf_105 ⟨k1, k2⟩) hS (fun x29 g28 H locs h30 hG hS => ?_)
          have hk := And.intro k1 k2
          replace h := h30
          refine lv_iconst (v := (1 : Int32)) hx hb d_G_placeOf_108 (by decide) ?_
          refine lv_iadd hx hb d_G_placeOf_109 ?_
          exact r_iret (v := (x29 + (1 : Int32))) S hr hlk hG hS h hk.1 hk.2 d_G_placeOf_110
        · replace h := h.2 c9
          refine lv_iconst (v := (0 : Int32)) hx hb d_G_placeOf_99 (by decide) ?_
          refine lv_goto (tgt := 110) hx hb d_G_placeOf_100 (by decide) ?_
          exact r_iret (v := (0 : Int32)) S hr hlk hG hS h hk.1 hk.2 d_G_placeOf_110
      · replace h := h.2 c9
        refine lv_aload_n hx hb d_G_placeOf_83 rfl (lv_at hl 0 rfl) ?_
        refine lv_aload_n hx hb d_G_placeOf_84 rfl (lv_at hl 0 rfl) ?_
        refine lv_iload_n hx hb d_G_placeOf_85 rfl (lv_at hl 3 rfl) ?_
        obtain ⟨h9, h⟩ := h
        obtain ⟨c31, c32, k1, k2, h⟩ := h
        obtain ⟨n9, h9⟩ := isK1 h9
        refine q_callI (run_V (As := [.int v3]) (rest := [.ref this]) S hZ hG hS (s_G_lastOf h) tw_953 tw_950 tw_952 tp_47 tw_9 nk_G_lastOf h9 (by decide) rfl ⟨Nat.le_of_ble_eq_true rfl, Nat.le_of_ble_eq_true rfl⟩ rfl hl.1 rfl (Nat.le_of_ble_eq_true rfl) d_G_placeOf_86 ⟨k1, k2⟩) hS (fun x34 g33 H locs h40 hG hS => ?_)
        have hk := And.intro k1 k2
        replace h := h40
        obtain ⟨h9, h⟩ := h
        obtain ⟨c35, c36, k1, k2, h⟩ := h
        obtain ⟨n9, h9⟩ := isK1 h9
        refine q_callI (run_V (As := [.int x34]) (rest := []) S hZ hG hS (s_G_inRow h) tw_949 tw_946 tw_948 tp_46 tw_9 nk_G_inRow h9 (by decide) rfl ⟨Nat.le_of_ble_eq_true rfl, Nat.le_of_ble_eq_true rfl⟩ rfl hl.1 rfl (by decide) d_G_placeOf_89 ⟨k1, k2⟩) hS (fun x38 g37 H locs h39 hG hS => ?_)
        have hk := And.intro k1 k2
        replace h := h39
        refine lv_iconst (v := (1 : Int32)) hx hb d_G_placeOf_92 (by decide) ?_
        refine lv_iadd hx hb d_G_placeOf_93 ?_
        exact r_iret (v := (x38 + (1 : Int32))) S hr hlk hG hS h hk.1 hk.2 d_G_placeOf_94
    · replace h := h.2 c9
      refine lv_iload hx hb d_G_placeOf_64 (lv_at hl 4 rfl) ?_
      refine q_istore_n (lv' := [(3, .int v4), (0, .ref this), (1, .int v1), (2, .int v2), (4, .int v4)]) hx hb d_G_placeOf_66 rfl hl (by decide) (.n (.k 0 rfl (by decide) (by decide) (.k 1 rfl (by decide) (by decide) (.c 2 rfl (by decide) rfl (.k 4 rfl (by decide) (by decide) .e))))) (fun ls41 hl41 => ?_)
      refine lv_aload_n hx hb d_G_placeOf_67 rfl (lv_at hl41 1 rfl) ?_
      refine r_getR (f := 42) S hZ hG rfl h.1 (hts _ tw_721) (fun _ h9 => h9) d_G_placeOf_68 (fun o42 e9 => ?_)
      replace h := h.2 o42 e9
      refine lv_iload hx hb d_G_placeOf_71 (lv_at hl41 4 rfl) ?_
      obtain ⟨a43, e9, h⟩ := h
      subst e9
      obtain ⟨j44, h9, h⟩ := h
      refine r_iald S hZ hG h9 d_G_placeOf_73 (fun x45 e9 => ?_)
      replace h := h x45 e9
      refine q_istore (lv' := [(4, .int x45), (3, .int v4), (0, .ref this), (1, .int v1), (2, .int v2)]) hx hb d_G_placeOf_74 hl41 (by decide) (.n (.c 0 rfl (by decide) rfl (.k 1 rfl (by decide) (by decide) (.k 2 rfl (by decide) (by decide) (.k 3 rfl (by decide) (by decide) .e))))) (fun ls46 hl46 => ?_)
      refine lv_goto (tgt := 58) hx hb d_G_placeOf_76 (by decide) ?_
      exact ih _ _ _ _ _ _ _ _ _ _ _ hk h hG hS (lv_sub hl46 [2, 3, 4, 1, 0] rfl)
def w_G_placeOf (z mi mc ms : Nat) (post : Int32 → Sg → Prop) (g : Sg) (this : Nat) (p0 : Int32) : Prop := (hasR g this 41 ∧ ∀ o11 : Option Nat, o11 = fR g 41 this → ∃ a12, o11 = some a12 ∧ (∃ j13 : Nat, inA g a12 100 p0 j13 ∧ ∀ x14 : Int32, x14 = aI g a12 j13 → (hasR g this 45 ∧ ∀ o16 : Option Nat, o16 = fR g 45 this → ∃ a17, o16 = some a17 ∧ (∃ j18 : Nat, inA g a17 102 p0 j18 ∧ ∀ x19 : Int32, x19 = aI g a17 j18 → (¬ x19 = 0 → (isK g this [5] ∧ ∃ c21 c22 : Nat, 0 + c21 ≤ mc ∧ 0 + c22 ≤ ms ∧ w_G_childrenOf z mi c21 c22 (fun (x24 : Int32) (g23 : Sg) => (∃ n47 : Nat, w_G_placeOf_58 z mi mc ms post n47 (0 + c21) (0 + c22) g23 this p0 x14 (-1 : Int32) x24)) g this x14 (1 : Int32))) ∧ (x19 = 0 → (hasR g this 42 ∧ ∀ o49 : Option Nat, o49 = fR g 42 this → ∃ a50, o49 = some a50 ∧ (∃ j51 : Nat, inA g a50 100 p0 j51 ∧ ∀ x52 : Int32, x52 = aI g a50 j51 → (x52 < 0 → (isK g this [5] ∧ ∃ c53 c54 : Nat, 0 + c53 ≤ mc ∧ 0 + c54 ≤ ms ∧ w_G_inRow z mi c53 c54 (fun (x56 : Int32) (g55 : Sg) => post x56 g55) g this x14)) ∧ (¬ x52 < 0 → (hasR g this 42 ∧ ∀ o58 : Option Nat, o58 = fR g 42 this → ∃ a59, o58 = some a59 ∧ (∃ j60 : Nat, inA g a59 100 p0 j60 ∧ ∀ x61 : Int32, x61 = aI g a59 j60 → (isK g this [5] ∧ ∃ c62 c63 : Nat, 0 + c62 ≤ mc ∧ 0 + c63 ≤ ms ∧ w_G_firstOf z mi c62 c63 (fun (x65 : Int32) (g64 : Sg) => (isK g64 this [5] ∧ ∃ c66 c67 : Nat, (0 + c62) + c66 ≤ mc ∧ (0 + c63) + c67 ≤ ms ∧ w_G_inRow z mi c66 c67 (fun (x69 : Int32) (g68 : Sg) => post x69 g68) g64 this x65)) g this x61)))))))))))
set_option maxHeartbeats 4000000 in
set_option maxRecDepth 100000 in
theorem s_G_placeOf {l : Launch} {D : va_G} {cA : Nat → ClassId} {sz z mi mc ms : Nat} {g : Sg} {post : Int32 → Sg → Prop} {this : Nat} {p0 : Int32} (h : w_G_placeOf z mi mc ms post g this p0) : Met l y_G_placeOf (Cond.code y_G_placeOf b_G_placeOf 5 (some FieldType.int) :: TBL) ({ frames := 1, cells := mc, slots := ms, locals := 22 } : Room) (Pg D cA sz z mi [.ref this, .int p0] g) (Qg D cA sz (pI post)) mc ms (oA sz) := by
  refine m_code (lv := [(0, .ref this), (1, .int p0)]) (by decide +kernel) (Nat.le_of_ble_eq_true rfl) rfl ?_
  intro p e s m below meth c ls S hr hlk hnm hZ hG hS hl
  obtain ⟨hx, hb, hml, hown, hts⟩ := id S
  have hk : 0 ≤ mc ∧ 0 ≤ ms := ⟨Nat.zero_le _, Nat.zero_le _⟩
  refine lv_aload_n hx hb d_G_placeOf_0 rfl (lv_at hl 0 rfl) ?_
  refine r_getR (f := 41) S hZ hG rfl h.1 (hts _ tw_720) (fun _ h9 => h9) d_G_placeOf_1 (fun o11 e9 => ?_)
  replace h := h.2 o11 e9
  refine lv_iload_n hx hb d_G_placeOf_4 rfl (lv_at hl 1 rfl) ?_
  obtain ⟨a12, e9, h⟩ := h
  subst e9
  obtain ⟨j13, h9, h⟩ := h
  refine r_iald S hZ hG h9 d_G_placeOf_5 (fun x14 e9 => ?_)
  replace h := h x14 e9
  refine q_istore_n (lv' := [(2, .int x14), (0, .ref this), (1, .int p0)]) hx hb d_G_placeOf_6 rfl hl (by decide) (.n (.k 0 rfl (by decide) (by decide) (.c 1 rfl (by decide) rfl .e))) (fun ls15 hl15 => ?_)
  refine lv_aload_n hx hb d_G_placeOf_7 rfl (lv_at hl15 1 rfl) ?_
  refine r_getR (f := 45) S hZ hG rfl h.1 (hts _ tw_724) (fun _ h9 => h9) d_G_placeOf_8 (fun o16 e9 => ?_)
  replace h := h.2 o16 e9
  refine lv_iload_n hx hb d_G_placeOf_11 rfl (lv_at hl15 2 rfl) ?_
  obtain ⟨a17, e9, h⟩ := h
  subst e9
  obtain ⟨j18, h9, h⟩ := h
  refine r_zald S hZ hG h9 d_G_placeOf_12 (fun x19 e9 => ?_)
  replace h := h x19 e9
  refine lv_if_ne (tgt := 48) hx hb d_G_placeOf_13 (by decide) (fun c9 => ?_) (fun c9 => ?_)
  · replace h := h.1 c9
    refine lv_iconst (v := (-1 : Int32)) hx hb d_G_placeOf_48 (by decide) ?_
    refine q_istore_n (lv' := [(3, .int ((-1 : Int32))), (2, .int x14), (0, .ref this), (1, .int p0)]) hx hb d_G_placeOf_49 rfl hl15 (by decide) (.n (.c 0 rfl (by decide) rfl (.k 1 rfl (by decide) (by decide) (.k 2 rfl (by decide) (by decide) .e)))) (fun ls20 hl20 => ?_)
    refine lv_aload_n hx hb d_G_placeOf_50 rfl (lv_at hl20 2 rfl) ?_
    refine lv_iload_n hx hb d_G_placeOf_51 rfl (lv_at hl20 1 rfl) ?_
    refine lv_iconst (v := (1 : Int32)) hx hb d_G_placeOf_52 (by decide) ?_
    obtain ⟨h9, h⟩ := h
    obtain ⟨c21, c22, k1, k2, h⟩ := h
    obtain ⟨n9, h9⟩ := isK1 h9
    refine q_callI (run_V (As := [.int x14, .int ((1 : Int32))]) (rest := []) S hZ hG hS (s_G_childrenOf h) tw_937 tw_934 tw_936 tp_43 tw_9 nk_G_childrenOf h9 (by decide) rfl ⟨Nat.le_of_ble_eq_true rfl, Nat.le_of_ble_eq_true rfl⟩ rfl hl20.1 rfl (by decide) d_G_placeOf_53 ⟨k1, k2⟩) hS (fun x24 g23 H locs h48 hG hS => ?_)
    have hk := And.intro k1 k2
    replace h := h48
    refine q_istore (lv' := [(4, .int x24), (3, .int ((-1 : Int32))), (2, .int x14), (0, .ref this), (1, .int p0)]) hx hb d_G_placeOf_56 hl20 (by decide) (.n (.c 0 rfl (by decide) rfl (.k 1 rfl (by decide) (by decide) (.k 2 rfl (by decide) (by decide) (.k 3 rfl (by decide) (by decide) .e))))) (fun ls25 hl25 => ?_)
    obtain ⟨n47, h⟩ := h
    exact s_G_placeOf_58 S hZ hr hlk n47 _ _ _ _ _ _ _ _ _ _ _ hk h hG hS (lv_sub hl25 [3, 4, 2, 1, 0] rfl)
  · replace h := h.2 c9
    refine lv_aload_n hx hb d_G_placeOf_16 rfl (lv_at hl15 1 rfl) ?_
    refine r_getR (f := 42) S hZ hG rfl h.1 (hts _ tw_721) (fun _ h9 => h9) d_G_placeOf_17 (fun o49 e9 => ?_)
    replace h := h.2 o49 e9
    refine lv_iload_n hx hb d_G_placeOf_20 rfl (lv_at hl15 2 rfl) ?_
    obtain ⟨a50, e9, h⟩ := h
    subst e9
    obtain ⟨j51, h9, h⟩ := h
    refine r_iald S hZ hG h9 d_G_placeOf_21 (fun x52 e9 => ?_)
    replace h := h x52 e9
    refine lv_if_lt (tgt := 42) hx hb d_G_placeOf_22 (by decide) (fun c9 => ?_) (fun c9 => ?_)
    · replace h := h.1 c9
      refine lv_aload_n hx hb d_G_placeOf_42 rfl (lv_at hl15 1 rfl) ?_
      refine lv_iload_n hx hb d_G_placeOf_43 rfl (lv_at hl15 0 rfl) ?_
      obtain ⟨h9, h⟩ := h
      obtain ⟨c53, c54, k1, k2, h⟩ := h
      obtain ⟨n9, h9⟩ := isK1 h9
      refine q_callI (run_V (As := [.int x14]) (rest := []) S hZ hG hS (s_G_inRow h) tw_949 tw_946 tw_948 tp_46 tw_9 nk_G_inRow h9 (by decide) rfl ⟨Nat.le_of_ble_eq_true rfl, Nat.le_of_ble_eq_true rfl⟩ rfl hl15.1 rfl (by decide) d_G_placeOf_44 ⟨k1, k2⟩) hS (fun x56 g55 H locs h57 hG hS => ?_)
      have hk := And.intro k1 k2
      replace h := h57
      exact r_iret (v := x56) S hr hlk hG hS h hk.1 hk.2 d_G_placeOf_47
    · replace h := h.2 c9
      refine lv_aload_n hx hb d_G_placeOf_25 rfl (lv_at hl15 1 rfl) ?_
      refine lv_aload_n hx hb d_G_placeOf_26 rfl (lv_at hl15 1 rfl) ?_
      refine lv_aload_n hx hb d_G_placeOf_27 rfl (lv_at hl15 1 rfl) ?_
      refine r_getR (f := 42) S hZ hG rfl h.1 (hts _ tw_721) (fun _ h9 => h9) d_G_placeOf_28 (fun o58 e9 => ?_)
      replace h := h.2 o58 e9
      refine lv_iload_n hx hb d_G_placeOf_31 rfl (lv_at hl15 2 rfl) ?_
      obtain ⟨a59, e9, h⟩ := h
      subst e9
      obtain ⟨j60, h9, h⟩ := h
      refine r_iald S hZ hG h9 d_G_placeOf_32 (fun x61 e9 => ?_)
      replace h := h x61 e9
      obtain ⟨h9, h⟩ := h
      obtain ⟨c62, c63, k1, k2, h⟩ := h
      obtain ⟨n9, h9⟩ := isK1 h9
      refine q_callI (run_V (As := [.int x61]) (rest := [.ref this]) S hZ hG hS (s_G_firstOf h) tw_945 tw_942 tw_944 tp_45 tw_9 nk_G_firstOf h9 (by decide) rfl ⟨Nat.le_of_ble_eq_true rfl, Nat.le_of_ble_eq_true rfl⟩ rfl hl15.1 rfl (Nat.le_of_ble_eq_true rfl) d_G_placeOf_33 ⟨k1, k2⟩) hS (fun x65 g64 H locs h71 hG hS => ?_)
      have hk := And.intro k1 k2
      replace h := h71
      obtain ⟨h9, h⟩ := h
      obtain ⟨c66, c67, k1, k2, h⟩ := h
      obtain ⟨n9, h9⟩ := isK1 h9
      refine q_callI (run_V (As := [.int x65]) (rest := []) S hZ hG hS (s_G_inRow h) tw_949 tw_946 tw_948 tp_46 tw_9 nk_G_inRow h9 (by decide) rfl ⟨Nat.le_of_ble_eq_true rfl, Nat.le_of_ble_eq_true rfl⟩ rfl hl15.1 rfl (by decide) d_G_placeOf_36 ⟨k1, k2⟩) hS (fun x69 g68 H locs h70 hG hS => ?_)
      have hk := And.intro k1 k2
      replace h := h70
      refine lv_goto (tgt := 47) hx hb d_G_placeOf_39 (by decide) ?_
      exact r_iret (v := x69) S hr hlk hG hS h hk.1 hk.2 d_G_placeOf_47
def w_G_insert_218 (z mi mc ms : Nat) (post : Sg → Prop) : Nat → Nat → Nat → Sg → Nat → Int32 → Int32 → Int32 → Prop
  | 0 => fun _ _ _ _ _ _ _ => False
  | n + 1 => fun kc ks g this v1 v8 v9 => (v9 ≤ v8 → (hasR g this 50 ∧ ∀ o59 : Option Nat, o59 = fR g 50 this → ∃ a60, o59 = some a60 ∧ (∃ j61 : Nat, inA g a60 100 v8 j61 ∧ ∀ g62 : Sg, g62 = sI g a60 j61 v1 → (hasI g62 this 31 ∧ ∀ x63 : Int32, x63 = fI g62 31 this → (hasI g62 this 31 ∧ ∀ g64 : Sg, g64 = wI g62 31 this (x63 + (1 : Int32)) → post g64))))) ∧ (¬ v9 ≤ v8 → (hasR g this 50 ∧ ∀ o65 : Option Nat, o65 = fR g 50 this → (hasR g this 50 ∧ ∀ o66 : Option Nat, o66 = fR g 50 this → ∃ a67, o66 = some a67 ∧ (∃ j68 : Nat, inA g a67 100 (v9 - (1 : Int32)) j68 ∧ ∀ x69 : Int32, x69 = aI g a67 j68 → ∃ a70, o65 = some a70 ∧ (∃ j71 : Nat, inA g a70 100 v9 j71 ∧ ∀ g72 : Sg, g72 = sI g a70 j71 x69 → w_G_insert_218 z mi mc ms post n kc ks g72 this v1 v8 (v9 + (-1 : Int32)))))))
set_option maxHeartbeats 4000000 in
set_option maxRecDepth 100000 in
theorem s_G_insert_218 {p : Program} {l : Launch} {e : Env} {s : State} {m : MethodId} {args : Array Value} {below : List Frame} {meth : Method} {c : Code} {D : va_G} {cA : Nat → ClassId} {sz z mi mc ms : Nat} {post : Sg → Prop} (S : CallFix p m c b_G_insert 10 s args TBL "WeaveCoreModel$Graph") (hZ : Ws D cA sz z mi s) (hr : meth.sig.returnType = none) (hlk : meth.locks = false) :
    ∀ n : Nat, ∀ (kc ks : Nat) (g : Sg) (this : Nat) (v1 : Int32) (v8 : Int32) (v9 : Int32) (H : Heap) (locs : List Loc) (ls : Array Slot), kc ≤ mc ∧ ks ≤ ms → w_G_insert_218 z mi mc ms post n kc ks g this v1 v8 v9 → WP D cA sz g H → va_S (oA sz) s.heap H locs → lv_has ls 10 [(0, .ref this), (1, .int v1), (8, .int v8), (9, .int v9)] → W p l e ({ frames := 3, cells := mc, slots := ms, locals := 72 } : Room) s m args below meth c H locs kc ks (MQ below (Qg D cA sz (pV post)) args s mc ms (oA sz)) (F0 m 218 ls []) := by
  obtain ⟨hx, hb, hml, hown, hts⟩ := id S
  intro n
  induction n with
  | zero =>
    intro kc ks g this v1 v8 v9 H locs ls hk h hG hS hl
    exact h.elim
  | succ n ih =>
    intro kc ks g this v1 v8 v9 H locs ls hk h hG hS hl
    refine lv_iload hx hb d_G_insert_218 (lv_at hl 3 rfl) ?_
    refine lv_iload hx hb d_G_insert_220 (lv_at hl 2 rfl) ?_
    refine lv_icmp_le (tgt := 247) hx hb d_G_insert_222 (by decide) (fun c9 => ?_) (fun c9 => ?_)
    · replace h := h.1 c9
      refine lv_aload_n hx hb d_G_insert_247 rfl (lv_at hl 0 rfl) ?_
      refine r_getR (f := 50) S hZ hG rfl h.1 (hts _ tw_731) (fun _ h9 => h9) d_G_insert_248 (fun o59 e9 => ?_)
      replace h := h.2 o59 e9
      refine lv_iload hx hb d_G_insert_251 (lv_at hl 2 rfl) ?_
      refine lv_iload_n hx hb d_G_insert_253 rfl (lv_at hl 1 rfl) ?_
      obtain ⟨a60, e9, h⟩ := h
      subst e9
      obtain ⟨j61, h9, h⟩ := h
      refine r_iast S hZ hG hS h9 d_G_insert_254 (fun g62 H locs e9 hG hS => ?_)
      replace h := h g62 e9
      refine lv_aload_n hx hb d_G_insert_255 rfl (lv_at hl 0 rfl) ?_
      refine lv_dup hx hb d_G_insert_256 rfl ?_
      refine r_getI (f := 31) S hZ hG rfl h.1 (hts _ tw_702) (fun _ h9 => h9) d_G_insert_257 (fun x63 e9 => ?_)
      replace h := h.2 x63 e9
      refine lv_iconst (v := (1 : Int32)) hx hb d_G_insert_260 (by decide) ?_
      refine lv_iadd hx hb d_G_insert_261 ?_
      refine r_putI (f := 31) S hZ hG hS rfl h.1 (hts _ tw_702) (fun _ h9 => h9) (Or.inl rfl) d_G_insert_262 (fun g64 H locs e9 hG hS => ?_)
      replace h := h.2 g64 e9
      exact r_vret S hr hlk hG hS h hk.1 hk.2 d_G_insert_265
    · replace h := h.2 c9
      refine lv_aload_n hx hb d_G_insert_225 rfl (lv_at hl 0 rfl) ?_
      refine r_getR (f := 50) S hZ hG rfl h.1 (hts _ tw_731) (fun _ h9 => h9) d_G_insert_226 (fun o65 e9 => ?_)
      replace h := h.2 o65 e9
      refine lv_iload hx hb d_G_insert_229 (lv_at hl 3 rfl) ?_
      refine lv_aload_n hx hb d_G_insert_231 rfl (lv_at hl 0 rfl) ?_
      refine r_getR (f := 50) S hZ hG rfl h.1 (hts _ tw_731) (fun _ h9 => h9) d_G_insert_232 (fun o66 e9 => ?_)
      replace h := h.2 o66 e9
      refine lv_iload hx hb d_G_insert_235 (lv_at hl 3 rfl) ?_
      refine lv_iconst (v := (1 : Int32)) hx hb d_G_insert_237 (by decide) ?_
      refine lv_isub hx hb d_G_insert_238 ?_
      obtain ⟨a67, e9, h⟩ := h
      subst e9
      obtain ⟨j68, h9, h⟩ := h
      refine r_iald S hZ hG h9 d_G_insert_239 (fun x69 e9 => ?_)
      replace h := h x69 e9
      obtain ⟨a70, e9, h⟩ := h
      subst e9
      obtain ⟨j71, h9, h⟩ := h
      refine r_iast S hZ hG hS h9 d_G_insert_240 (fun g72 H locs e9 hG hS => ?_)
      replace h := h g72 e9
      refine q_iinc (k := 3) (v := v9 + (-1 : Int32)) (lv' := [(9, .int (v9 + (-1 : Int32))), (0, .ref this), (1, .int v1), (8, .int v8)]) hx hb d_G_insert_241 hl rfl rfl (by decide) (.n (.k 0 rfl (by decide) (by decide) (.k 1 rfl (by decide) (by decide) (.c 2 rfl (by decide) rfl .e)))) (fun ls73 hl73 => ?_)
      refine lv_goto (tgt := 218) hx hb d_G_insert_244 (by decide) ?_
      exact ih _ _ _ _ _ _ _ _ _ _ hk h hG hS (lv_sub hl73 [1, 2, 3, 0] rfl)
def w_G_insert_200 (z mi mc ms : Nat) (post : Sg → Prop) : Nat → Nat → Sg → Nat → Int32 → Prop := fun kc ks g this v1 => (isK g this [5] ∧ ∃ c49 c50 : Nat, kc + c49 ≤ mc ∧ ks + c50 ≤ ms ∧ w_G_hang z mi c49 c50 (fun (g51 : Sg) => (isK g51 this [5] ∧ ∃ c52 c53 : Nat, (kc + c49) + c52 ≤ mc ∧ (ks + c50) + c53 ≤ ms ∧ w_G_placeOf z mi c52 c53 (fun (x55 : Int32) (g54 : Sg) => (hasI g54 this 31 ∧ ∀ x57 : Int32, x57 = fI g54 31 this → (∃ n74 : Nat, w_G_insert_218 z mi mc ms post n74 ((kc + c49) + c52) ((ks + c50) + c53) g54 this v1 x55 x57))) g51 this v1)) g this v1)
set_option maxHeartbeats 4000000 in
set_option maxRecDepth 100000 in
theorem s_G_insert_200 {p : Program} {l : Launch} {e : Env} {s : State} {m : MethodId} {args : Array Value} {below : List Frame} {meth : Method} {c : Code} {D : va_G} {cA : Nat → ClassId} {sz z mi mc ms : Nat} {post : Sg → Prop} (S : CallFix p m c b_G_insert 10 s args TBL "WeaveCoreModel$Graph") (hZ : Ws D cA sz z mi s) (hr : meth.sig.returnType = none) (hlk : meth.locks = false) :
    ∀ (kc ks : Nat) (g : Sg) (this : Nat) (v1 : Int32) (H : Heap) (locs : List Loc) (ls : Array Slot), kc ≤ mc ∧ ks ≤ ms → w_G_insert_200 z mi mc ms post kc ks g this v1 → WP D cA sz g H → va_S (oA sz) s.heap H locs → lv_has ls 10 [(0, .ref this), (1, .int v1)] → W p l e ({ frames := 3, cells := mc, slots := ms, locals := 72 } : Room) s m args below meth c H locs kc ks (MQ below (Qg D cA sz (pV post)) args s mc ms (oA sz)) (F0 m 200 ls []) := by
  obtain ⟨hx, hb, hml, hown, hts⟩ := id S
  intro kc ks g this v1 H locs ls hk h hG hS hl
  refine lv_aload_n hx hb d_G_insert_200 rfl (lv_at hl 0 rfl) ?_
  refine lv_iload_n hx hb d_G_insert_201 rfl (lv_at hl 1 rfl) ?_
  obtain ⟨h9, h⟩ := h
  obtain ⟨c49, c50, k1, k2, h⟩ := h
  obtain ⟨n9, h9⟩ := isK1 h9
  refine q_callV (run_V (As := [.int v1]) (rest := []) S hZ hG hS (s_G_hang h) tw_933 tw_930 tw_932 tp_42 tw_9 nk_G_hang h9 (by decide) rfl ⟨Nat.le_of_ble_eq_true rfl, Nat.le_of_ble_eq_true rfl⟩ rfl hl.1 rfl (by decide) d_G_insert_202 ⟨k1, k2⟩) hS (fun g51 H locs h76 hG hS => ?_)
  have hk := And.intro k1 k2
  replace h := h76
  refine lv_aload_n hx hb d_G_insert_205 rfl (lv_at hl 0 rfl) ?_
  refine lv_iload_n hx hb d_G_insert_206 rfl (lv_at hl 1 rfl) ?_
  obtain ⟨h9, h⟩ := h
  obtain ⟨c52, c53, k1, k2, h⟩ := h
  obtain ⟨n9, h9⟩ := isK1 h9
  refine q_callI (run_V (As := [.int v1]) (rest := []) S hZ hG hS (s_G_placeOf h) tw_941 tw_938 tw_940 tp_44 tw_9 nk_G_placeOf h9 (by decide) rfl ⟨Nat.le_of_ble_eq_true rfl, Nat.le_of_ble_eq_true rfl⟩ rfl hl.1 rfl (by decide) d_G_insert_207 ⟨k1, k2⟩) hS (fun x55 g54 H locs h75 hG hS => ?_)
  have hk := And.intro k1 k2
  replace h := h75
  refine q_istore (lv' := [(8, .int x55), (0, .ref this), (1, .int v1)]) hx hb d_G_insert_210 hl (by decide) (.n (.k 0 rfl (by decide) (by decide) (.k 1 rfl (by decide) (by decide) .e))) (fun ls56 hl56 => ?_)
  refine lv_aload_n hx hb d_G_insert_212 rfl (lv_at hl56 1 rfl) ?_
  refine r_getI (f := 31) S hZ hG rfl h.1 (hts _ tw_702) (fun _ h9 => h9) d_G_insert_213 (fun x57 e9 => ?_)
  replace h := h.2 x57 e9
  refine q_istore (lv' := [(9, .int x57), (8, .int x55), (0, .ref this), (1, .int v1)]) hx hb d_G_insert_216 hl56 (by decide) (.n (.c 0 rfl (by decide) rfl (.k 1 rfl (by decide) (by decide) (.k 2 rfl (by decide) (by decide) .e)))) (fun ls58 hl58 => ?_)
  obtain ⟨n74, h⟩ := h
  exact s_G_insert_218 S hZ hr hlk n74 _ _ _ _ _ _ _ _ _ _ hk h hG hS (lv_sub hl58 [2, 3, 1, 0] rfl)
def w_G_insert_161 (z mi mc ms : Nat) (post : Sg → Prop) : Nat → Nat → Nat → Sg → Nat → Int32 → Int32 → Int32 → Prop
  | 0 => fun _ _ _ _ _ _ _ => False
  | n + 1 => fun kc ks g this v1 v4 v8 => (hasR g this 37 ∧ ∀ o78 : Option Nat, o78 = fR g 37 this → (hasR g this 50 ∧ ∀ o79 : Option Nat, o79 = fR g 50 this → ∃ a80, o79 = some a80 ∧ (∃ j81 : Nat, inA g a80 100 v8 j81 ∧ ∀ x82 : Int32, x82 = aI g a80 j81 → (isK g this [5] ∧ ∃ c83 c84 : Nat, kc + c83 ≤ mc ∧ ks + c84 ≤ ms ∧ w_G_has z mi c83 c84 (fun (x86 : Int32) (g85 : Sg) => (¬ x86 = 0 → (hasR g85 this 41 ∧ ∀ o87 : Option Nat, o87 = fR g85 41 this → (hasR g85 this 50 ∧ ∀ o88 : Option Nat, o88 = fR g85 50 this → ∃ a89, o88 = some a89 ∧ (∃ j90 : Nat, inA g85 a89 100 v8 j90 ∧ ∀ x91 : Int32, x91 = aI g85 a89 j90 → ∃ a92, o87 = some a92 ∧ (∃ j93 : Nat, inA g85 a92 100 v1 j93 ∧ ∀ g94 : Sg, g94 = sI g85 a92 j93 x91 → w_G_insert_200 z mi mc ms post (kc + c83) (ks + c84) g94 this v1))))) ∧ (x86 = 0 → w_G_insert_161 z mi mc ms post n (kc + c83) (ks + c84) g85 this v1 v4 (v8 + (1 : Int32)))) g this o78 v4 x82))))
set_option maxHeartbeats 4000000 in
set_option maxRecDepth 100000 in
theorem s_G_insert_161 {p : Program} {l : Launch} {e : Env} {s : State} {m : MethodId} {args : Array Value} {below : List Frame} {meth : Method} {c : Code} {D : va_G} {cA : Nat → ClassId} {sz z mi mc ms : Nat} {post : Sg → Prop} (S : CallFix p m c b_G_insert 10 s args TBL "WeaveCoreModel$Graph") (hZ : Ws D cA sz z mi s) (hr : meth.sig.returnType = none) (hlk : meth.locks = false) :
    ∀ n : Nat, ∀ (kc ks : Nat) (g : Sg) (this : Nat) (v1 : Int32) (v4 : Int32) (v8 : Int32) (H : Heap) (locs : List Loc) (ls : Array Slot), kc ≤ mc ∧ ks ≤ ms → w_G_insert_161 z mi mc ms post n kc ks g this v1 v4 v8 → WP D cA sz g H → va_S (oA sz) s.heap H locs → lv_has ls 10 [(0, .ref this), (1, .int v1), (4, .int v4), (8, .int v8)] → W p l e ({ frames := 3, cells := mc, slots := ms, locals := 72 } : Room) s m args below meth c H locs kc ks (MQ below (Qg D cA sz (pV post)) args s mc ms (oA sz)) (F0 m 161 ls []) := by
  obtain ⟨hx, hb, hml, hown, hts⟩ := id S
  intro n
  induction n with
  | zero =>
    intro kc ks g this v1 v4 v8 H locs ls hk h hG hS hl
    exact h.elim
  | succ n ih =>
    intro kc ks g this v1 v4 v8 H locs ls hk h hG hS hl
    refine lv_aload_n hx hb d_G_insert_161 rfl (lv_at hl 0 rfl) ?_
    refine lv_aload_n hx hb d_G_insert_162 rfl (lv_at hl 0 rfl) ?_
    refine r_getR (f := 37) S hZ hG rfl h.1 (hts _ tw_713) (fun _ h9 => h9) d_G_insert_163 (fun o78 e9 => ?_)
    replace h := h.2 o78 e9
    refine lv_iload hx hb d_G_insert_166 (lv_at hl 2 rfl) ?_
    refine lv_aload_n hx hb d_G_insert_168 rfl (lv_at hl 0 rfl) ?_
    refine r_getR (f := 50) S hZ hG rfl h.1 (hts _ tw_731) (fun _ h9 => h9) d_G_insert_169 (fun o79 e9 => ?_)
    replace h := h.2 o79 e9
    refine lv_iload hx hb d_G_insert_172 (lv_at hl 3 rfl) ?_
    obtain ⟨a80, e9, h⟩ := h
    subst e9
    obtain ⟨j81, h9, h⟩ := h
    refine r_iald S hZ hG h9 d_G_insert_174 (fun x82 e9 => ?_)
    replace h := h x82 e9
    obtain ⟨h9, h⟩ := h
    obtain ⟨c83, c84, k1, k2, h⟩ := h
    obtain ⟨n9, h9⟩ := isK1 h9
    refine q_callI (run_V (As := [va_rf o78, .int v4, .int x82]) (rest := []) S hZ hG hS (s_G_has h) tw_880 tw_877 tw_878 tw_879 tw_9 nk_G_has h9 (by decide) rfl ⟨Nat.le_of_ble_eq_true rfl, Nat.le_of_ble_eq_true rfl⟩ rfl hl.1 rfl (by decide) d_G_insert_175 ⟨k1, k2⟩) hS (fun x86 g85 H locs h96 hG hS => ?_)
    have hk := And.intro k1 k2
    replace h := h96
    refine lv_if_ne (tgt := 187) hx hb d_G_insert_178 (by decide) (fun c9 => ?_) (fun c9 => ?_)
    · replace h := h.1 c9
      refine lv_aload_n hx hb d_G_insert_187 rfl (lv_at hl 0 rfl) ?_
      refine r_getR (f := 41) S hZ hG rfl h.1 (hts _ tw_720) (fun _ h9 => h9) d_G_insert_188 (fun o87 e9 => ?_)
      replace h := h.2 o87 e9
      refine lv_iload_n hx hb d_G_insert_191 rfl (lv_at hl 1 rfl) ?_
      refine lv_aload_n hx hb d_G_insert_192 rfl (lv_at hl 0 rfl) ?_
      refine r_getR (f := 50) S hZ hG rfl h.1 (hts _ tw_731) (fun _ h9 => h9) d_G_insert_193 (fun o88 e9 => ?_)
      replace h := h.2 o88 e9
      refine lv_iload hx hb d_G_insert_196 (lv_at hl 3 rfl) ?_
      obtain ⟨a89, e9, h⟩ := h
      subst e9
      obtain ⟨j90, h9, h⟩ := h
      refine r_iald S hZ hG h9 d_G_insert_198 (fun x91 e9 => ?_)
      replace h := h x91 e9
      obtain ⟨a92, e9, h⟩ := h
      subst e9
      obtain ⟨j93, h9, h⟩ := h
      refine r_iast S hZ hG hS h9 d_G_insert_199 (fun g94 H locs e9 hG hS => ?_)
      replace h := h g94 e9
      exact s_G_insert_200 S hZ hr hlk _ _ _ _ _ _ _ _ hk h hG hS (lv_sub hl [0, 1] rfl)
    · replace h := h.2 c9
      refine q_iinc (k := 3) (v := v8 + (1 : Int32)) (lv' := [(8, .int (v8 + (1 : Int32))), (0, .ref this), (1, .int v1), (4, .int v4)]) hx hb d_G_insert_181 hl rfl rfl (by decide) (.n (.k 0 rfl (by decide) (by decide) (.k 1 rfl (by decide) (by decide) (.k 2 rfl (by decide) (by decide) .e)))) (fun ls95 hl95 => ?_)
      refine lv_goto (tgt := 161) hx hb d_G_insert_184 (by decide) ?_
      exact ih _ _ _ _ _ _ _ _ _ _ hk h hG hS (lv_sub hl95 [1, 2, 3, 0] rfl)
def w_G_insert_141 (z mi mc ms : Nat) (post : Sg → Prop) : Nat → Nat → Sg → Nat → Int32 → Int32 → Int32 → Int32 → Int32 → Int32 → Int32 → Option Nat → Prop := fun kc ks g this v1 v4 v5 v6 v7 s0 s1 s2 => ∃ a42, s2 = some a42 ∧ (∃ j43 : Nat, inA g a42 102 s1 j43 ∧ ∀ g44 : Sg, g44 = sI g a42 j43 (vp_nar .boolean s0) → (hasR g44 this 41 ∧ ∀ o45 : Option Nat, o45 = fR g44 41 this → ∃ a46, o45 = some a46 ∧ (∃ j47 : Nat, inA g44 a46 100 v1 j47 ∧ ∀ g48 : Sg, g48 = sI g44 a46 j47 v6 → (v7 = 0 → w_G_insert_200 z mi mc ms post kc ks g48 this v1) ∧ (¬ v7 = 0 → (∃ n97 : Nat, w_G_insert_161 z mi mc ms post n97 kc ks g48 this v1 v4 (v5 + (1 : Int32)))))))
set_option maxHeartbeats 4000000 in
set_option maxRecDepth 100000 in
theorem s_G_insert_141 {p : Program} {l : Launch} {e : Env} {s : State} {m : MethodId} {args : Array Value} {below : List Frame} {meth : Method} {c : Code} {D : va_G} {cA : Nat → ClassId} {sz z mi mc ms : Nat} {post : Sg → Prop} (S : CallFix p m c b_G_insert 10 s args TBL "WeaveCoreModel$Graph") (hZ : Ws D cA sz z mi s) (hr : meth.sig.returnType = none) (hlk : meth.locks = false) :
    ∀ (kc ks : Nat) (g : Sg) (this : Nat) (v1 : Int32) (v4 : Int32) (v5 : Int32) (v6 : Int32) (v7 : Int32) (s0 : Int32) (s1 : Int32) (s2 : Option Nat) (H : Heap) (locs : List Loc) (ls : Array Slot), kc ≤ mc ∧ ks ≤ ms → w_G_insert_141 z mi mc ms post kc ks g this v1 v4 v5 v6 v7 s0 s1 s2 → WP D cA sz g H → va_S (oA sz) s.heap H locs → lv_has ls 10 [(0, .ref this), (1, .int v1), (4, .int v4), (5, .int v5), (6, .int v6), (7, .int v7)] → W p l e ({ frames := 3, cells := mc, slots := ms, locals := 72 } : Room) s m args below meth c H locs kc ks (MQ below (Qg D cA sz (pV post)) args s mc ms (oA sz)) (F0 m 141 ls [.int s0, .int s1, va_rf s2]) := by
  obtain ⟨hx, hb, hml, hown, hts⟩ := id S
  intro kc ks g this v1 v4 v5 v6 v7 s0 s1 s2 H locs ls hk h hG hS hl
  obtain ⟨a42, e9, h⟩ := h
  subst e9
  obtain ⟨j43, h9, h⟩ := h
  refine r_zast S hZ hG hS h9 d_G_insert_141 (fun g44 H locs e9 hG hS => ?_)
  replace h := h g44 e9
  refine lv_aload_n hx hb d_G_insert_142 rfl (lv_at hl 0 rfl) ?_
  refine r_getR (f := 41) S hZ hG rfl h.1 (hts _ tw_720) (fun _ h9 => h9) d_G_insert_143 (fun o45 e9 => ?_)
  replace h := h.2 o45 e9
  refine lv_iload_n hx hb d_G_insert_146 rfl (lv_at hl 1 rfl) ?_
  refine lv_iload hx hb d_G_insert_147 (lv_at hl 4 rfl) ?_
  obtain ⟨a46, e9, h⟩ := h
  subst e9
  obtain ⟨j47, h9, h⟩ := h
  refine r_iast S hZ hG hS h9 d_G_insert_149 (fun g48 H locs e9 hG hS => ?_)
  replace h := h g48 e9
  refine lv_iload hx hb d_G_insert_150 (lv_at hl 5 rfl) ?_
  refine lv_if_eq (tgt := 200) hx hb d_G_insert_152 (by decide) (fun c9 => ?_) (fun c9 => ?_)
  · replace h := h.1 c9
    exact s_G_insert_200 S hZ hr hlk _ _ _ _ _ _ _ _ hk h hG hS (lv_sub hl [0, 1] rfl)
  · replace h := h.2 c9
    refine lv_iload hx hb d_G_insert_155 (lv_at hl 3 rfl) ?_
    refine lv_iconst (v := (1 : Int32)) hx hb d_G_insert_157 (by decide) ?_
    refine lv_iadd hx hb d_G_insert_158 ?_
    refine q_istore (lv' := [(8, .int (v5 + (1 : Int32))), (0, .ref this), (1, .int v1), (4, .int v4), (5, .int v5), (6, .int v6), (7, .int v7)]) hx hb d_G_insert_159 hl (by decide) (.n (.k 0 rfl (by decide) (by decide) (.k 1 rfl (by decide) (by decide) (.k 2 rfl (by decide) (by decide) (.k 3 rfl (by decide) (by decide) (.k 4 rfl (by decide) (by decide) (.c 5 rfl (by decide) rfl .e))))))) (fun ls77 hl77 => ?_)
    obtain ⟨n97, h⟩ := h
    exact s_G_insert_161 S hZ hr hlk n97 _ _ _ _ _ _ _ _ _ _ hk h hG hS (lv_sub hl77 [1, 2, 3, 0] rfl)
def w_G_insert_92 (z mi mc ms : Nat) (post : Sg → Prop) : Nat → Nat → Nat → Sg → Nat → Int32 → Int32 → Int32 → Int32 → Int32 → Int32 → Prop
  | 0 => fun _ _ _ _ _ _ _ _ _ _ => False
  | n + 1 => fun kc ks g this v1 v4 v5 v6 v7 v8 => (v8 < 0 → (hasR g this 45 ∧ ∀ o41 : Option Nat, o41 = fR g 45 this → (¬ v7 = 0 → w_G_insert_141 z mi mc ms post kc ks g this v1 v4 v5 v6 v7 (0 : Int32) v1 o41) ∧ (v7 = 0 → w_G_insert_141 z mi mc ms post kc ks g this v1 v4 v5 v6 v7 (1 : Int32) v1 o41))) ∧ (¬ v8 < 0 → (hasR g this 37 ∧ ∀ o98 : Option Nat, o98 = fR g 37 this → (isK g this [5] ∧ ∃ c99 c100 : Nat, kc + c99 ≤ mc ∧ ks + c100 ≤ ms ∧ w_G_has z mi c99 c100 (fun (x102 : Int32) (g101 : Sg) => (hasR g101 this 42 ∧ ∀ o104 : Option Nat, o104 = fR g101 42 this → ∃ a105, o104 = some a105 ∧ (∃ j106 : Nat, inA g101 a105 100 v8 j106 ∧ ∀ x107 : Int32, x107 = aI g101 a105 j106 → w_G_insert_92 z mi mc ms post n (kc + c99) (ks + c100) g101 this v1 v4 v5 v6 (v7 ||| x102) x107))) g this o98 v4 v8)))
set_option maxHeartbeats 4000000 in
set_option maxRecDepth 100000 in
theorem s_G_insert_92 {p : Program} {l : Launch} {e : Env} {s : State} {m : MethodId} {args : Array Value} {below : List Frame} {meth : Method} {c : Code} {D : va_G} {cA : Nat → ClassId} {sz z mi mc ms : Nat} {post : Sg → Prop} (S : CallFix p m c b_G_insert 10 s args TBL "WeaveCoreModel$Graph") (hZ : Ws D cA sz z mi s) (hr : meth.sig.returnType = none) (hlk : meth.locks = false) :
    ∀ n : Nat, ∀ (kc ks : Nat) (g : Sg) (this : Nat) (v1 : Int32) (v4 : Int32) (v5 : Int32) (v6 : Int32) (v7 : Int32) (v8 : Int32) (H : Heap) (locs : List Loc) (ls : Array Slot), kc ≤ mc ∧ ks ≤ ms → w_G_insert_92 z mi mc ms post n kc ks g this v1 v4 v5 v6 v7 v8 → WP D cA sz g H → va_S (oA sz) s.heap H locs → lv_has ls 10 [(0, .ref this), (1, .int v1), (4, .int v4), (5, .int v5), (6, .int v6), (7, .int v7), (8, .int v8)] → W p l e ({ frames := 3, cells := mc, slots := ms, locals := 72 } : Room) s m args below meth c H locs kc ks (MQ below (Qg D cA sz (pV post)) args s mc ms (oA sz)) (F0 m 92 ls []) := by
  obtain ⟨hx, hb, hml, hown, hts⟩ := id S
  intro n
  induction n with
  | zero =>
    intro kc ks g this v1 v4 v5 v6 v7 v8 H locs ls hk h hG hS hl
    exact h.elim
  | succ n ih =>
    intro kc ks g this v1 v4 v5 v6 v7 v8 H locs ls hk h hG hS hl
    refine lv_iload hx hb d_G_insert_92 (lv_at hl 6 rfl) ?_
    refine lv_if_lt (tgt := 126) hx hb d_G_insert_94 (by decide) (fun c9 => ?_) (fun c9 => ?_)
    · replace h := h.1 c9
      refine lv_aload_n hx hb d_G_insert_126 rfl (lv_at hl 0 rfl) ?_
      refine r_getR (f := 45) S hZ hG rfl h.1 (hts _ tw_724) (fun _ h9 => h9) d_G_insert_127 (fun o41 e9 => ?_)
      replace h := h.2 o41 e9
      refine lv_iload_n hx hb d_G_insert_130 rfl (lv_at hl 1 rfl) ?_
      refine lv_iload hx hb d_G_insert_131 (lv_at hl 5 rfl) ?_
      refine lv_if_ne (tgt := 140) hx hb d_G_insert_133 (by decide) (fun c9 => ?_) (fun c9 => ?_)
      · replace h := h.1 c9
        refine lv_iconst (v := (0 : Int32)) hx hb d_G_insert_140 (by decide) ?_
        exact s_G_insert_141 S hZ hr hlk _ _ _ _ _ _ _ _ _ _ _ _ _ _ _ hk h hG hS (lv_sub hl [0, 1, 2, 3, 4, 5] rfl)
      · replace h := h.2 c9
        refine lv_iconst (v := (1 : Int32)) hx hb d_G_insert_136 (by decide) ?_
        refine lv_goto (tgt := 141) hx hb d_G_insert_137 (by decide) ?_
        exact s_G_insert_141 S hZ hr hlk _ _ _ _ _ _ _ _ _ _ _ _ _ _ _ hk h hG hS (lv_sub hl [0, 1, 2, 3, 4, 5] rfl)
    · replace h := h.2 c9
      refine lv_iload hx hb d_G_insert_97 (lv_at hl 5 rfl) ?_
      refine lv_aload_n hx hb d_G_insert_99 rfl (lv_at hl 0 rfl) ?_
      refine lv_aload_n hx hb d_G_insert_100 rfl (lv_at hl 0 rfl) ?_
      refine r_getR (f := 37) S hZ hG rfl h.1 (hts _ tw_713) (fun _ h9 => h9) d_G_insert_101 (fun o98 e9 => ?_)
      replace h := h.2 o98 e9
      refine lv_iload hx hb d_G_insert_104 (lv_at hl 2 rfl) ?_
      refine lv_iload hx hb d_G_insert_106 (lv_at hl 6 rfl) ?_
      obtain ⟨h9, h⟩ := h
      obtain ⟨c99, c100, k1, k2, h⟩ := h
      obtain ⟨n9, h9⟩ := isK1 h9
      refine q_callI (run_V (As := [va_rf o98, .int v4, .int v8]) (rest := [.int v7]) S hZ hG hS (s_G_has h) tw_880 tw_877 tw_878 tw_879 tw_9 nk_G_has h9 (by decide) rfl ⟨Nat.le_of_ble_eq_true rfl, Nat.le_of_ble_eq_true rfl⟩ rfl hl.1 rfl (Nat.le_of_ble_eq_true rfl) d_G_insert_108 ⟨k1, k2⟩) hS (fun x102 g101 H locs h109 hG hS => ?_)
      have hk := And.intro k1 k2
      replace h := h109
      refine lv_ior hx hb d_G_insert_111 ?_
      refine q_istore (lv' := [(7, .int (v7 ||| x102)), (0, .ref this), (1, .int v1), (4, .int v4), (5, .int v5), (6, .int v6), (8, .int v8)]) hx hb d_G_insert_112 hl (by decide) (.n (.k 0 rfl (by decide) (by decide) (.k 1 rfl (by decide) (by decide) (.k 2 rfl (by decide) (by decide) (.k 3 rfl (by decide) (by decide) (.c 4 rfl (by decide) rfl (.k 6 rfl (by decide) (by decide) .e))))))) (fun ls103 hl103 => ?_)
      refine lv_aload_n hx hb d_G_insert_114 rfl (lv_at hl103 1 rfl) ?_
      refine r_getR (f := 42) S hZ hG rfl h.1 (hts _ tw_721) (fun _ h9 => h9) d_G_insert_115 (fun o104 e9 => ?_)
      replace h := h.2 o104 e9
      refine lv_iload hx hb d_G_insert_118 (lv_at hl103 6 rfl) ?_
      obtain ⟨a105, e9, h⟩ := h
      subst e9
      obtain ⟨j106, h9, h⟩ := h
      refine r_iald S hZ hG h9 d_G_insert_120 (fun x107 e9 => ?_)
      replace h := h x107 e9
      refine q_istore (lv' := [(8, .int x107), (7, .int (v7 ||| x102)), (0, .ref this), (1, .int v1), (4, .int v4), (5, .int v5), (6, .int v6)]) hx hb d_G_insert_121 hl103 (by decide) (.n (.c 0 rfl (by decide) rfl (.k 1 rfl (by decide) (by decide) (.k 2 rfl (by decide) (by decide) (.k 3 rfl (by decide) (by decide) (.k 4 rfl (by decide) (by decide) (.k 5 rfl (by decide) (by decide) .e))))))) (fun ls108 hl108 => ?_)
      refine lv_goto (tgt := 92) hx hb d_G_insert_123 (by decide) ?_
      exact ih _ _ _ _ _ _ _ _ _ _ _ _ _ hk h hG hS (lv_sub hl108 [2, 3, 4, 5, 6, 1, 0] rfl)
def w_G_insert_45 (z mi mc ms : Nat) (post : Sg → Prop) : Nat → Nat → Sg → Nat → Int32 → Int32 → Int32 → Int32 → Int32 → Int32 → Prop := fun kc ks g this v1 v2 v3 v4 v5 s0 => (hasR g this 39 ∧ ∀ o23 : Option Nat, o23 = fR g 39 this → ∃ a24, o23 = some a24 ∧ (∃ j25 : Nat, inA g a24 100 v1 j25 ∧ ∀ g26 : Sg, g26 = sI g a24 j25 v2 → (hasR g26 this 38 ∧ ∀ o27 : Option Nat, o27 = fR g26 38 this → ∃ a28, o27 = some a28 ∧ (∃ j29 : Nat, inA g26 a28 102 v1 j29 ∧ ∀ g30 : Sg, g30 = sI g26 a28 j29 (vp_nar .boolean (1 : Int32)) → (hasR g30 this 40 ∧ ∀ o31 : Option Nat, o31 = fR g30 40 this → ∃ a32, o31 = some a32 ∧ (∃ j33 : Nat, inA g30 a32 100 v1 j33 ∧ ∀ g34 : Sg, g34 = sI g30 a32 j33 v3 → (0 ≤ s0 → (hasR g34 this 44 ∧ ∀ o36 : Option Nat, o36 = fR g34 44 this → ∃ a37, o36 = some a37 ∧ (∃ j38 : Nat, inA g34 a37 100 s0 j38 ∧ ∀ x39 : Int32, x39 = aI g34 a37 j38 → (∃ n110 : Nat, w_G_insert_92 z mi mc ms post n110 kc ks g34 this v1 v4 v5 s0 (0 : Int32) x39)))) ∧ (¬ 0 ≤ s0 → (hasI g34 this 46 ∧ ∀ x111 : Int32, x111 = fI g34 46 this → (∃ n113 : Nat, w_G_insert_92 z mi mc ms post n113 kc ks g34 this v1 v4 v5 s0 (0 : Int32) x111)))))))))
set_option maxHeartbeats 4000000 in
set_option maxRecDepth 100000 in
theorem s_G_insert_45 {p : Program} {l : Launch} {e : Env} {s : State} {m : MethodId} {args : Array Value} {below : List Frame} {meth : Method} {c : Code} {D : va_G} {cA : Nat → ClassId} {sz z mi mc ms : Nat} {post : Sg → Prop} (S : CallFix p m c b_G_insert 10 s args TBL "WeaveCoreModel$Graph") (hZ : Ws D cA sz z mi s) (hr : meth.sig.returnType = none) (hlk : meth.locks = false) :
    ∀ (kc ks : Nat) (g : Sg) (this : Nat) (v1 : Int32) (v2 : Int32) (v3 : Int32) (v4 : Int32) (v5 : Int32) (s0 : Int32) (H : Heap) (locs : List Loc) (ls : Array Slot), kc ≤ mc ∧ ks ≤ ms → w_G_insert_45 z mi mc ms post kc ks g this v1 v2 v3 v4 v5 s0 → WP D cA sz g H → va_S (oA sz) s.heap H locs → lv_has ls 10 [(0, .ref this), (1, .int v1), (2, .int v2), (3, .int v3), (4, .int v4), (5, .int v5)] → W p l e ({ frames := 3, cells := mc, slots := ms, locals := 72 } : Room) s m args below meth c H locs kc ks (MQ below (Qg D cA sz (pV post)) args s mc ms (oA sz)) (F0 m 45 ls [.int s0]) := by
  obtain ⟨hx, hb, hml, hown, hts⟩ := id S
  intro kc ks g this v1 v2 v3 v4 v5 s0 H locs ls hk h hG hS hl
  refine q_istore (lv' := [(6, .int s0), (0, .ref this), (1, .int v1), (2, .int v2), (3, .int v3), (4, .int v4), (5, .int v5)]) hx hb d_G_insert_45 hl (by decide) (.n (.k 0 rfl (by decide) (by decide) (.k 1 rfl (by decide) (by decide) (.k 2 rfl (by decide) (by decide) (.k 3 rfl (by decide) (by decide) (.k 4 rfl (by decide) (by decide) (.c 5 rfl (by decide) rfl .e))))))) (fun ls22 hl22 => ?_)
  refine lv_aload_n hx hb d_G_insert_47 rfl (lv_at hl22 1 rfl) ?_
  refine r_getR (f := 39) S hZ hG rfl h.1 (hts _ tw_717) (fun _ h9 => h9) d_G_insert_48 (fun o23 e9 => ?_)
  replace h := h.2 o23 e9
  refine lv_iload_n hx hb d_G_insert_51 rfl (lv_at hl22 2 rfl) ?_
  refine lv_iload_n hx hb d_G_insert_52 rfl (lv_at hl22 3 rfl) ?_
  obtain ⟨a24, e9, h⟩ := h
  subst e9
  obtain ⟨j25, h9, h⟩ := h
  refine r_iast S hZ hG hS h9 d_G_insert_53 (fun g26 H locs e9 hG hS => ?_)
  replace h := h g26 e9
  refine lv_aload_n hx hb d_G_insert_54 rfl (lv_at hl22 1 rfl) ?_
  refine r_getR (f := 38) S hZ hG rfl h.1 (hts _ tw_715) (fun _ h9 => h9) d_G_insert_55 (fun o27 e9 => ?_)
  replace h := h.2 o27 e9
  refine lv_iload_n hx hb d_G_insert_58 rfl (lv_at hl22 2 rfl) ?_
  refine lv_iconst (v := (1 : Int32)) hx hb d_G_insert_59 (by decide) ?_
  obtain ⟨a28, e9, h⟩ := h
  subst e9
  obtain ⟨j29, h9, h⟩ := h
  refine r_zast S hZ hG hS h9 d_G_insert_60 (fun g30 H locs e9 hG hS => ?_)
  replace h := h g30 e9
  refine lv_aload_n hx hb d_G_insert_61 rfl (lv_at hl22 1 rfl) ?_
  refine r_getR (f := 40) S hZ hG rfl h.1 (hts _ tw_718) (fun _ h9 => h9) d_G_insert_62 (fun o31 e9 => ?_)
  replace h := h.2 o31 e9
  refine lv_iload_n hx hb d_G_insert_65 rfl (lv_at hl22 2 rfl) ?_
  refine lv_iload_n hx hb d_G_insert_66 rfl (lv_at hl22 4 rfl) ?_
  obtain ⟨a32, e9, h⟩ := h
  subst e9
  obtain ⟨j33, h9, h⟩ := h
  refine r_iast S hZ hG hS h9 d_G_insert_67 (fun g34 H locs e9 hG hS => ?_)
  replace h := h g34 e9
  refine lv_iconst (v := (0 : Int32)) hx hb d_G_insert_68 (by decide) ?_
  refine q_istore (lv' := [(7, .int ((0 : Int32))), (6, .int s0), (0, .ref this), (1, .int v1), (2, .int v2), (3, .int v3), (4, .int v4), (5, .int v5)]) hx hb d_G_insert_69 hl22 (by decide) (.n (.c 0 rfl (by decide) rfl (.k 1 rfl (by decide) (by decide) (.k 2 rfl (by decide) (by decide) (.k 3 rfl (by decide) (by decide) (.k 4 rfl (by decide) (by decide) (.k 5 rfl (by decide) (by decide) (.k 6 rfl (by decide) (by decide) .e)))))))) (fun ls35 hl35 => ?_)
  refine lv_iload hx hb d_G_insert_71 (lv_at hl35 1 rfl) ?_
  refine lv_if_ge (tgt := 83) hx hb d_G_insert_73 (by decide) (fun c9 => ?_) (fun c9 => ?_)
  · replace h := h.1 c9
    refine lv_aload_n hx hb d_G_insert_83 rfl (lv_at hl35 2 rfl) ?_
    refine r_getR (f := 44) S hZ hG rfl h.1 (hts _ tw_723) (fun _ h9 => h9) d_G_insert_84 (fun o36 e9 => ?_)
    replace h := h.2 o36 e9
    refine lv_iload hx hb d_G_insert_87 (lv_at hl35 1 rfl) ?_
    obtain ⟨a37, e9, h⟩ := h
    subst e9
    obtain ⟨j38, h9, h⟩ := h
    refine r_iald S hZ hG h9 d_G_insert_89 (fun x39 e9 => ?_)
    replace h := h x39 e9
    refine q_istore (lv' := [(8, .int x39), (7, .int ((0 : Int32))), (6, .int s0), (0, .ref this), (1, .int v1), (2, .int v2), (3, .int v3), (4, .int v4), (5, .int v5)]) hx hb d_G_insert_90 hl35 (by decide) (.n (.c 0 rfl (by decide) rfl (.k 1 rfl (by decide) (by decide) (.k 2 rfl (by decide) (by decide) (.k 3 rfl (by decide) (by decide) (.k 4 rfl (by decide) (by decide) (.k 5 rfl (by decide) (by decide) (.k 6 rfl (by decide) (by decide) (.k 7 rfl (by decide) (by decide) .e))))))))) (fun ls40 hl40 => ?_)
    obtain ⟨n110, h⟩ := h
    exact s_G_insert_92 S hZ hr hlk n110 _ _ _ _ _ _ _ _ _ _ _ _ _ hk h hG hS (lv_sub hl40 [3, 4, 7, 8, 2, 1, 0] rfl)
  · replace h := h.2 c9
    refine lv_aload_n hx hb d_G_insert_76 rfl (lv_at hl35 2 rfl) ?_
    refine r_getI (f := 46) S hZ hG rfl h.1 (hts _ tw_725) (fun _ h9 => h9) d_G_insert_77 (fun x111 e9 => ?_)
    replace h := h.2 x111 e9
    refine lv_goto (tgt := 90) hx hb d_G_insert_80 (by decide) ?_
    refine q_istore (lv' := [(8, .int x111), (7, .int ((0 : Int32))), (6, .int s0), (0, .ref this), (1, .int v1), (2, .int v2), (3, .int v3), (4, .int v4), (5, .int v5)]) hx hb d_G_insert_90 hl35 (by decide) (.n (.c 0 rfl (by decide) rfl (.k 1 rfl (by decide) (by decide) (.k 2 rfl (by decide) (by decide) (.k 3 rfl (by decide) (by decide) (.k 4 rfl (by decide) (by decide) (.k 5 rfl (by decide) (by decide) (.k 6 rfl (by decide) (by decide) (.k 7 rfl (by decide) (by decide) .e))))))))) (fun ls112 hl112 => ?_)
    obtain ⟨n113, h⟩ := h
    exact s_G_insert_92 S hZ hr hlk n113 _ _ _ _ _ _ _ _ _ _ _ _ _ hk h hG hS (lv_sub hl112 [3, 4, 7, 8, 2, 1, 0] rfl)
def w_G_insert_27 (z mi mc ms : Nat) (post : Sg → Prop) : Nat → Nat → Sg → Nat → Int32 → Int32 → Int32 → Int32 → Int32 → Prop := fun kc ks g this v1 v2 v3 v4 s0 => (0 ≤ s0 → (hasR g this 50 ∧ ∀ o18 : Option Nat, o18 = fR g 50 this → ∃ a19, o18 = some a19 ∧ (∃ j20 : Nat, inA g a19 100 s0 j20 ∧ ∀ x21 : Int32, x21 = aI g a19 j20 → w_G_insert_45 z mi mc ms post kc ks g this v1 v2 v3 v4 s0 x21))) ∧ (¬ 0 ≤ s0 → w_G_insert_45 z mi mc ms post kc ks g this v1 v2 v3 v4 s0 (-1 : Int32))
set_option maxHeartbeats 4000000 in
set_option maxRecDepth 100000 in
theorem s_G_insert_27 {p : Program} {l : Launch} {e : Env} {s : State} {m : MethodId} {args : Array Value} {below : List Frame} {meth : Method} {c : Code} {D : va_G} {cA : Nat → ClassId} {sz z mi mc ms : Nat} {post : Sg → Prop} (S : CallFix p m c b_G_insert 10 s args TBL "WeaveCoreModel$Graph") (hZ : Ws D cA sz z mi s) (hr : meth.sig.returnType = none) (hlk : meth.locks = false) :
    ∀ (kc ks : Nat) (g : Sg) (this : Nat) (v1 : Int32) (v2 : Int32) (v3 : Int32) (v4 : Int32) (s0 : Int32) (H : Heap) (locs : List Loc) (ls : Array Slot), kc ≤ mc ∧ ks ≤ ms → w_G_insert_27 z mi mc ms post kc ks g this v1 v2 v3 v4 s0 → WP D cA sz g H → va_S (oA sz) s.heap H locs → lv_has ls 10 [(0, .ref this), (1, .int v1), (2, .int v2), (3, .int v3), (4, .int v4)] → W p l e ({ frames := 3, cells := mc, slots := ms, locals := 72 } : Room) s m args below meth c H locs kc ks (MQ below (Qg D cA sz (pV post)) args s mc ms (oA sz)) (F0 m 27 ls [.int s0]) := by
  obtain ⟨hx, hb, hml, hown, hts⟩ := id S
  intro kc ks g this v1 v2 v3 v4 s0 H locs ls hk h hG hS hl
  refine q_istore (lv' := [(5, .int s0), (0, .ref this), (1, .int v1), (2, .int v2), (3, .int v3), (4, .int v4)]) hx hb d_G_insert_27 hl (by decide) (.n (.k 0 rfl (by decide) (by decide) (.k 1 rfl (by decide) (by decide) (.k 2 rfl (by decide) (by decide) (.k 3 rfl (by decide) (by decide) (.c 4 rfl (by decide) rfl .e)))))) (fun ls17 hl17 => ?_)
  refine lv_iload hx hb d_G_insert_29 (lv_at hl17 0 rfl) ?_
  refine lv_if_ge (tgt := 38) hx hb d_G_insert_31 (by decide) (fun c9 => ?_) (fun c9 => ?_)
  · replace h := h.1 c9
    refine lv_aload_n hx hb d_G_insert_38 rfl (lv_at hl17 1 rfl) ?_
    refine r_getR (f := 50) S hZ hG rfl h.1 (hts _ tw_731) (fun _ h9 => h9) d_G_insert_39 (fun o18 e9 => ?_)
    replace h := h.2 o18 e9
    refine lv_iload hx hb d_G_insert_42 (lv_at hl17 0 rfl) ?_
    obtain ⟨a19, e9, h⟩ := h
    subst e9
    obtain ⟨j20, h9, h⟩ := h
    refine r_iald S hZ hG h9 d_G_insert_44 (fun x21 e9 => ?_)
    replace h := h x21 e9
    exact s_G_insert_45 S hZ hr hlk _ _ _ _ _ _ _ _ _ _ _ _ _ hk h hG hS (lv_sub hl17 [1, 2, 3, 4, 5, 0] rfl)
  · replace h := h.2 c9
    refine lv_iconst (v := (-1 : Int32)) hx hb d_G_insert_34 (by decide) ?_
    refine lv_goto (tgt := 45) hx hb d_G_insert_35 (by decide) ?_
    exact s_G_insert_45 S hZ hr hlk _ _ _ _ _ _ _ _ _ _ _ _ _ hk h hG hS (lv_sub hl17 [1, 2, 3, 4, 5, 0] rfl)
def w_G_insert (z mi mc ms : Nat) (post : Sg → Prop) (g : Sg) (this : Nat) (p0 : Int32) (p1 : Int32) (p2 : Int32) : Prop := (¬ p1 = 0 → (hasR g this 37 ∧ ∀ o12 : Option Nat, o12 = fR g 37 this → (isK g this [5] ∧ ∃ c13 c14 : Nat, 0 + c13 ≤ mc ∧ 0 + c14 ≤ ms ∧ w_G_seenAt z mi c13 c14 (fun (x16 : Int32) (g15 : Sg) => w_G_insert_27 z mi mc ms post (0 + c13) (0 + c14) g15 this p0 p1 p2 ((16 : Int32) * p0) x16) g this o12 ((16 : Int32) * p0) (p1 - (1 : Int32))))) ∧ (p1 = 0 → w_G_insert_27 z mi mc ms post 0 0 g this p0 p1 p2 ((16 : Int32) * p0) (-1 : Int32))
set_option maxHeartbeats 4000000 in
set_option maxRecDepth 100000 in
theorem s_G_insert {l : Launch} {D : va_G} {cA : Nat → ClassId} {sz z mi mc ms : Nat} {g : Sg} {post : Sg → Prop} {this : Nat} {p0 : Int32} {p1 : Int32} {p2 : Int32} (h : w_G_insert z mi mc ms post g this p0 p1 p2) : Met l y_G_insert (Cond.code y_G_insert b_G_insert 10 none :: TBL) ({ frames := 3, cells := mc, slots := ms, locals := 72 } : Room) (Pg D cA sz z mi [.ref this, .int p0, .int p1, .int p2] g) (Qg D cA sz (pV post)) mc ms (oA sz) := by
  refine m_code (lv := [(0, .ref this), (1, .int p0), (2, .int p1), (3, .int p2)]) (by decide +kernel) (Nat.le_of_ble_eq_true rfl) rfl ?_
  intro p e s m below meth c ls S hr hlk hnm hZ hG hS hl
  obtain ⟨hx, hb, hml, hown, hts⟩ := id S
  have hk : 0 ≤ mc ∧ 0 ≤ ms := ⟨Nat.zero_le _, Nat.zero_le _⟩
  refine lv_bipush (v := (16 : Int32)) hx hb d_G_insert_0 (by decide) ?_
  refine lv_iload_n hx hb d_G_insert_2 rfl (lv_at hl 1 rfl) ?_
  refine lv_imul hx hb d_G_insert_3 ?_
  refine q_istore (lv' := [(4, .int ((16 : Int32) * p0)), (0, .ref this), (1, .int p0), (2, .int p1), (3, .int p2)]) hx hb d_G_insert_4 hl (by decide) (.n (.k 0 rfl (by decide) (by decide) (.k 1 rfl (by decide) (by decide) (.k 2 rfl (by decide) (by decide) (.c 3 rfl (by decide) rfl .e))))) (fun ls11 hl11 => ?_)
  refine lv_iload_n hx hb d_G_insert_6 rfl (lv_at hl11 3 rfl) ?_
  refine lv_if_ne (tgt := 14) hx hb d_G_insert_7 (by decide) (fun c9 => ?_) (fun c9 => ?_)
  · replace h := h.1 c9
    refine lv_aload_n hx hb d_G_insert_14 rfl (lv_at hl11 1 rfl) ?_
    refine lv_aload_n hx hb d_G_insert_15 rfl (lv_at hl11 1 rfl) ?_
    refine r_getR (f := 37) S hZ hG rfl h.1 (hts _ tw_713) (fun _ h9 => h9) d_G_insert_16 (fun o12 e9 => ?_)
    replace h := h.2 o12 e9
    refine lv_iload hx hb d_G_insert_19 (lv_at hl11 0 rfl) ?_
    refine lv_iload_n hx hb d_G_insert_21 rfl (lv_at hl11 3 rfl) ?_
    refine lv_iconst (v := (1 : Int32)) hx hb d_G_insert_22 (by decide) ?_
    refine lv_isub hx hb d_G_insert_23 ?_
    obtain ⟨h9, h⟩ := h
    obtain ⟨c13, c14, k1, k2, h⟩ := h
    obtain ⟨n9, h9⟩ := isK1 h9
    refine q_callI (run_V (As := [va_rf o12, .int ((16 : Int32) * p0), .int (p1 - (1 : Int32))]) (rest := []) S hZ hG hS (s_G_seenAt h) tw_929 tw_926 tw_927 tw_928 tw_9 nk_G_seenAt h9 (by decide) rfl ⟨Nat.le_of_ble_eq_true rfl, Nat.le_of_ble_eq_true rfl⟩ rfl hl11.1 rfl (by decide) d_G_insert_24 ⟨k1, k2⟩) hS (fun x16 g15 H locs h114 hG hS => ?_)
    have hk := And.intro k1 k2
    replace h := h114
    exact s_G_insert_27 S hZ hr hlk _ _ _ _ _ _ _ _ _ _ _ _ hk h hG hS (lv_sub hl11 [1, 2, 3, 4, 0] rfl)
  · replace h := h.2 c9
    refine lv_iconst (v := (-1 : Int32)) hx hb d_G_insert_10 (by decide) ?_
    refine lv_goto (tgt := 27) hx hb d_G_insert_11 (by decide) ?_
    exact s_G_insert_27 S hZ hr hlk _ _ _ _ _ _ _ _ _ _ _ _ hk h hG hS (lv_sub hl11 [1, 2, 3, 4, 0] rfl)
def w_G_isShown (z mi mc ms : Nat) (post : Int32 → Sg → Prop) (g : Sg) (this : Nat) (p0 : Int32) : Prop := (hasR g this 49 ∧ ∀ o11 : Option Nat, o11 = fR g 49 this → ∃ a12, o11 = some a12 ∧ (∃ j13 : Nat, inA g a12 100 p0 j13 ∧ ∀ x14 : Int32, x14 = aI g a12 j13 → (0 ≤ x14 → post (0 : Int32) g) ∧ (¬ 0 ≤ x14 → post (1 : Int32) g)))
set_option maxHeartbeats 4000000 in
set_option maxRecDepth 100000 in
theorem s_G_isShown {l : Launch} {D : va_G} {cA : Nat → ClassId} {sz z mi mc ms : Nat} {g : Sg} {post : Int32 → Sg → Prop} {this : Nat} {p0 : Int32} (h : w_G_isShown z mi mc ms post g this p0) : Met l y_G_isShown (Cond.code y_G_isShown b_G_isShown 2 (some FieldType.boolean) :: TBL) ({ frames := 0, cells := mc, slots := ms, locals := 0 } : Room) (Pg D cA sz z mi [.ref this, .int p0] g) (Qg D cA sz (pI post)) mc ms (oA sz) := by
  refine m_code (lv := [(0, .ref this), (1, .int p0)]) (by decide +kernel) (Nat.le_of_ble_eq_true rfl) rfl ?_
  intro p e s m below meth c ls S hr hlk hnm hZ hG hS hl
  obtain ⟨hx, hb, hml, hown, hts⟩ := id S
  have hk : 0 ≤ mc ∧ 0 ≤ ms := ⟨Nat.zero_le _, Nat.zero_le _⟩
  refine lv_aload_n hx hb d_G_isShown_0 rfl (lv_at hl 0 rfl) ?_
  refine r_getR (f := 49) S hZ hG rfl h.1 (hts _ tw_729) (fun _ h9 => h9) d_G_isShown_1 (fun o11 e9 => ?_)
  replace h := h.2 o11 e9
  refine lv_iload_n hx hb d_G_isShown_4 rfl (lv_at hl 1 rfl) ?_
  obtain ⟨a12, e9, h⟩ := h
  subst e9
  obtain ⟨j13, h9, h⟩ := h
  refine r_iald S hZ hG h9 d_G_isShown_5 (fun x14 e9 => ?_)
  replace h := h x14 e9
  refine lv_if_ge (tgt := 13) hx hb d_G_isShown_6 (by decide) (fun c9 => ?_) (fun c9 => ?_)
  · replace h := h.1 c9
    refine lv_iconst (v := (0 : Int32)) hx hb d_G_isShown_13 (by decide) ?_
    exact r_zret (v := (0 : Int32)) S hr hlk rfl hG hS h hk.1 hk.2 d_G_isShown_14
  · replace h := h.2 c9
    refine lv_iconst (v := (1 : Int32)) hx hb d_G_isShown_9 (by decide) ?_
    refine lv_goto (tgt := 14) hx hb d_G_isShown_10 (by decide) ?_
    exact r_zret (v := (1 : Int32)) S hr hlk rfl hG hS h hk.1 hk.2 d_G_isShown_14
def w_G_length_4 (z mi mc ms : Nat) (post : Int32 → Sg → Prop) : Nat → Nat → Nat → Sg → Nat → Int32 → Int32 → Prop
  | 0 => fun _ _ _ _ _ _ => False
  | n + 1 => fun kc ks g this v1 v2 => (hasI g this 31 ∧ ∀ x13 : Int32, x13 = fI g 31 this → (x13 ≤ v2 → post v1 g) ∧ (¬ x13 ≤ v2 → (hasR g this 50 ∧ ∀ o14 : Option Nat, o14 = fR g 50 this → ∃ a15, o14 = some a15 ∧ (∃ j16 : Nat, inA g a15 100 v2 j16 ∧ ∀ x17 : Int32, x17 = aI g a15 j16 → (isK g this [5] ∧ ∃ c18 c19 : Nat, kc + c18 ≤ mc ∧ ks + c19 ≤ ms ∧ w_G_isShown z mi c18 c19 (fun (x21 : Int32) (g20 : Sg) => (x21 = 0 → w_G_length_4 z mi mc ms post n (kc + c18) (ks + c19) g20 this v1 (v2 + (1 : Int32))) ∧ (¬ x21 = 0 → w_G_length_4 z mi mc ms post n (kc + c18) (ks + c19) g20 this (v1 + (1 : Int32)) (v2 + (1 : Int32)))) g this x17)))))
set_option maxHeartbeats 4000000 in
set_option maxRecDepth 100000 in
theorem s_G_length_4 {p : Program} {l : Launch} {e : Env} {s : State} {m : MethodId} {args : Array Value} {below : List Frame} {meth : Method} {c : Code} {D : va_G} {cA : Nat → ClassId} {sz z mi mc ms : Nat} {post : Int32 → Sg → Prop} (S : CallFix p m c b_G_length 3 s args TBL "WeaveCoreModel$Graph") (hZ : Ws D cA sz z mi s) (hr : meth.sig.returnType = (some FieldType.int)) (hlk : meth.locks = false) :
    ∀ n : Nat, ∀ (kc ks : Nat) (g : Sg) (this : Nat) (v1 : Int32) (v2 : Int32) (H : Heap) (locs : List Loc) (ls : Array Slot), kc ≤ mc ∧ ks ≤ ms → w_G_length_4 z mi mc ms post n kc ks g this v1 v2 → WP D cA sz g H → va_S (oA sz) s.heap H locs → lv_has ls 3 [(0, .ref this), (1, .int v1), (2, .int v2)] → W p l e ({ frames := 1, cells := mc, slots := ms, locals := 21 } : Room) s m args below meth c H locs kc ks (MQ below (Qg D cA sz (pI post)) args s mc ms (oA sz)) (F0 m 4 ls []) := by
  obtain ⟨hx, hb, hml, hown, hts⟩ := id S
  intro n
  induction n with
  | zero =>
    intro kc ks g this v1 v2 H locs ls hk h hG hS hl
    exact h.elim
  | succ n ih =>
    intro kc ks g this v1 v2 H locs ls hk h hG hS hl
    refine lv_iload_n hx hb d_G_length_4 rfl (lv_at hl 2 rfl) ?_
    refine lv_aload_n hx hb d_G_length_5 rfl (lv_at hl 0 rfl) ?_
    refine r_getI (f := 31) S hZ hG rfl h.1 (hts _ tw_702) (fun _ h9 => h9) d_G_length_6 (fun x13 e9 => ?_)
    replace h := h.2 x13 e9
    refine lv_icmp_ge (tgt := 34) hx hb d_G_length_9 (by decide) (fun c9 => ?_) (fun c9 => ?_)
    · replace h := h.1 c9
      refine lv_iload_n hx hb d_G_length_34 rfl (lv_at hl 1 rfl) ?_
      exact r_iret (v := v1) S hr hlk hG hS h hk.1 hk.2 d_G_length_35
    · replace h := h.2 c9
      refine lv_aload_n hx hb d_G_length_12 rfl (lv_at hl 0 rfl) ?_
      refine lv_aload_n hx hb d_G_length_13 rfl (lv_at hl 0 rfl) ?_
      refine r_getR (f := 50) S hZ hG rfl h.1 (hts _ tw_731) (fun _ h9 => h9) d_G_length_14 (fun o14 e9 => ?_)
      replace h := h.2 o14 e9
      refine lv_iload_n hx hb d_G_length_17 rfl (lv_at hl 2 rfl) ?_
      obtain ⟨a15, e9, h⟩ := h
      subst e9
      obtain ⟨j16, h9, h⟩ := h
      refine r_iald S hZ hG h9 d_G_length_18 (fun x17 e9 => ?_)
      replace h := h x17 e9
      obtain ⟨h9, h⟩ := h
      obtain ⟨c18, c19, k1, k2, h⟩ := h
      obtain ⟨n9, h9⟩ := isK1 h9
      refine q_callI (run_V (As := [.int x17]) (rest := []) S hZ hG hS (s_G_isShown h) tw_961 tw_958 tw_959 tw_960 tw_9 nk_G_isShown h9 (by decide) rfl ⟨Nat.le_of_ble_eq_true rfl, Nat.le_of_ble_eq_true rfl⟩ rfl hl.1 rfl (by decide) d_G_length_19 ⟨k1, k2⟩) hS (fun x21 g20 H locs h25 hG hS => ?_)
      have hk := And.intro k1 k2
      replace h := h25
      refine lv_if_eq (tgt := 28) hx hb d_G_length_22 (by decide) (fun c9 => ?_) (fun c9 => ?_)
      · replace h := h.1 c9
        refine q_iinc (k := 2) (v := v2 + (1 : Int32)) (lv' := [(2, .int (v2 + (1 : Int32))), (0, .ref this), (1, .int v1)]) hx hb d_G_length_28 hl rfl rfl (by decide) (.n (.k 0 rfl (by decide) (by decide) (.c 1 rfl (by decide) rfl .e))) (fun ls22 hl22 => ?_)
        refine lv_goto (tgt := 4) hx hb d_G_length_31 (by decide) ?_
        exact ih _ _ _ _ _ _ _ _ _ hk h hG hS (lv_sub hl22 [1, 2, 0] rfl)
      · replace h := h.2 c9
        refine q_iinc (k := 1) (v := v1 + (1 : Int32)) (lv' := [(1, .int (v1 + (1 : Int32))), (0, .ref this), (2, .int v2)]) hx hb d_G_length_25 hl rfl rfl (by decide) (.n (.c 0 rfl (by decide) rfl (.k 2 rfl (by decide) (by decide) .e))) (fun ls23 hl23 => ?_)
        refine q_iinc (k := 2) (v := v2 + (1 : Int32)) (lv' := [(2, .int (v2 + (1 : Int32))), (1, .int (v1 + (1 : Int32))), (0, .ref this)]) hx hb d_G_length_28 hl23 rfl rfl (by decide) (.n (.c 0 rfl (by decide) rfl (.k 1 rfl (by decide) (by decide) .e))) (fun ls24 hl24 => ?_)
        refine lv_goto (tgt := 4) hx hb d_G_length_31 (by decide) ?_
        exact ih _ _ _ _ _ _ _ _ _ hk h hG hS (lv_sub hl24 [2, 1, 0] rfl)
def w_G_length (z mi mc ms : Nat) (post : Int32 → Sg → Prop) (g : Sg) (this : Nat) : Prop := (∃ n26 : Nat, w_G_length_4 z mi mc ms post n26 0 0 g this (0 : Int32) (0 : Int32))
set_option maxHeartbeats 4000000 in
set_option maxRecDepth 100000 in
theorem s_G_length {l : Launch} {D : va_G} {cA : Nat → ClassId} {sz z mi mc ms : Nat} {g : Sg} {post : Int32 → Sg → Prop} {this : Nat} (h : w_G_length z mi mc ms post g this) : Met l y_G_length (Cond.code y_G_length b_G_length 3 (some FieldType.int) :: TBL) ({ frames := 1, cells := mc, slots := ms, locals := 21 } : Room) (Pg D cA sz z mi [.ref this] g) (Qg D cA sz (pI post)) mc ms (oA sz) := by
  refine m_code (lv := [(0, .ref this)]) (by decide +kernel) (Nat.le_of_ble_eq_true rfl) rfl ?_
  intro p e s m below meth c ls S hr hlk hnm hZ hG hS hl
  obtain ⟨hx, hb, hml, hown, hts⟩ := id S
  have hk : 0 ≤ mc ∧ 0 ≤ ms := ⟨Nat.zero_le _, Nat.zero_le _⟩
  refine lv_iconst (v := (0 : Int32)) hx hb d_G_length_0 (by decide) ?_
  refine q_istore_n (lv' := [(1, .int ((0 : Int32))), (0, .ref this)]) hx hb d_G_length_1 rfl hl (by decide) (.n (.c 0 rfl (by decide) rfl .e)) (fun ls11 hl11 => ?_)
  refine lv_iconst (v := (0 : Int32)) hx hb d_G_length_2 (by decide) ?_
  refine q_istore_n (lv' := [(2, .int ((0 : Int32))), (1, .int ((0 : Int32))), (0, .ref this)]) hx hb d_G_length_3 rfl hl11 (by decide) (.n (.c 0 rfl (by decide) rfl (.k 1 rfl (by decide) (by decide) .e))) (fun ls12 hl12 => ?_)
  obtain ⟨n26, h⟩ := h
  exact s_G_length_4 S hZ hr hlk n26 _ _ _ _ _ _ _ _ _ hk h hG hS (lv_sub hl12 [2, 1, 0] rfl)
def w_M_insert0_74 (z mi mc ms : Nat) (post : Int32 → Sg → Prop) (px : Nat → Sg → Prop) : Nat → Nat → Nat → Sg → Nat → Int32 → Int32 → Int32 → Int32 → Int32 → Prop
  | 0 => fun _ _ _ _ _ _ _ _ _ => False
  | n + 1 => fun kc ks g this v1 v2 v3 v4 v5 => (v4 ≤ v5 → (hasR g this 51 ∧ ∀ o26 : Option Nat, o26 = fR g 51 this → ∃ a27, o26 = some a27 ∧ (isK g a27 [5] ∧ ∃ c28 c29 : Nat, kc + c28 ≤ mc ∧ ks + c29 ≤ ms ∧ w_G_length z mi c28 c29 (fun (x31 : Int32) (g30 : Sg) => post x31 g30) g a27))) ∧ (¬ v4 ≤ v5 → (hasR g this 51 ∧ ∀ o33 : Option Nat, o33 = fR g 51 this → (isK g this [6] ∧ ∃ c34 c35 : Nat, kc + c34 ≤ mc ∧ ks + c35 ≤ ms ∧ w_M_come z mi c34 c35 (fun (x37 : Int32) (g36 : Sg) => ∃ a38, o33 = some a38 ∧ (isK g36 a38 [5] ∧ ∃ c39 c40 : Nat, (kc + c34) + c39 ≤ mc ∧ (ks + c35) + c40 ≤ ms ∧ w_G_insert z mi c39 c40 (fun (g41 : Sg) => w_M_insert0_74 z mi mc ms post px n ((kc + c34) + c39) ((ks + c35) + c40) g41 this v1 v2 v3 v4 (v5 + (1 : Int32))) g36 a38 x37 (v2 + v5) (v3 + v5))) g this v1)))
set_option maxHeartbeats 4000000 in
set_option maxRecDepth 100000 in
theorem s_M_insert0_74 {p : Program} {l : Launch} {e : Env} {s : State} {m : MethodId} {args : Array Value} {below : List Frame} {meth : Method} {c : Code} {D : va_G} {cA : Nat → ClassId} {sz z mi mc ms : Nat} {post : Int32 → Sg → Prop} {px : Nat → Sg → Prop} (S : CallFix p m c b_M_insert0 6 s args TBL "WeaveCoreModel") (hst : l.stackTraces = false) (hZ : Ws D cA sz z mi s) (hr : meth.sig.returnType = (some FieldType.int)) (hlk : meth.locks = false) (hxt : ∀ x ∈ c.exceptionTable.toList, False) :
    ∀ n : Nat, ∀ (kc ks : Nat) (g : Sg) (this : Nat) (v1 : Int32) (v2 : Int32) (v3 : Int32) (v4 : Int32) (v5 : Int32) (H : Heap) (locs : List Loc) (ls : Array Slot), kc ≤ mc ∧ ks ≤ ms → w_M_insert0_74 z mi mc ms post px n kc ks g this v1 v2 v3 v4 v5 → WP D cA sz g H → va_S (oA sz) s.heap H locs → lv_has ls 6 [(0, .ref this), (1, .int v1), (2, .int v2), (3, .int v3), (4, .int v4), (5, .int v5)] → W p l e ({ frames := 8, cells := mc, slots := ms, locals := 138 } : Room) s m args below meth c H locs kc ks (vx_MQ below (Qg D cA sz (pI post)) (Xg D cA sz px) args s mc ms (oA sz)) (F0 m 74 ls []) := by
  obtain ⟨hx, hb, hml, hown, hts⟩ := id S
  intro n
  induction n with
  | zero =>
    intro kc ks g this v1 v2 v3 v4 v5 H locs ls hk h hG hS hl
    exact h.elim
  | succ n ih =>
    intro kc ks g this v1 v2 v3 v4 v5 H locs ls hk h hG hS hl
    refine lv_iload hx hb d_M_insert0_74 (lv_at hl 5 rfl) ?_
    refine lv_iload hx hb d_M_insert0_76 (lv_at hl 4 rfl) ?_
    refine lv_icmp_ge (tgt := 107) hx hb d_M_insert0_78 (by decide) (fun c9 => ?_) (fun c9 => ?_)
    · replace h := h.1 c9
      refine lv_aload_n hx hb d_M_insert0_107 rfl (lv_at hl 0 rfl) ?_
      refine r_getR (f := 51) S hZ hG rfl h.1 (hts _ tw_780) (fun _ h9 => h9) d_M_insert0_108 (fun o26 e9 => ?_)
      replace h := h.2 o26 e9
      obtain ⟨a27, e9, h⟩ := h
      subst e9
      obtain ⟨h9, h⟩ := h
      obtain ⟨c28, c29, k1, k2, h⟩ := h
      obtain ⟨n9, h9⟩ := isK1 h9
      refine q_callI (run_V (As := []) (rest := []) S hZ hG hS (s_G_length h) tw_957 tw_954 tw_955 tw_956 tw_9 nk_G_length h9 (by decide) rfl ⟨Nat.le_of_ble_eq_true rfl, Nat.le_of_ble_eq_true rfl⟩ rfl hl.1 rfl (by decide) d_M_insert0_111 ⟨k1, k2⟩) hS (fun x31 g30 H locs h32 hG hS => ?_)
      have hk := And.intro k1 k2
      replace h := h32
      exact vx_ret (r_iret (v := x31) S hr hlk hG hS h hk.1 hk.2 d_M_insert0_114)
    · replace h := h.2 c9
      refine lv_aload_n hx hb d_M_insert0_81 rfl (lv_at hl 0 rfl) ?_
      refine r_getR (f := 51) S hZ hG rfl h.1 (hts _ tw_780) (fun _ h9 => h9) d_M_insert0_82 (fun o33 e9 => ?_)
      replace h := h.2 o33 e9
      refine lv_aload_n hx hb d_M_insert0_85 rfl (lv_at hl 0 rfl) ?_
      refine lv_iload_n hx hb d_M_insert0_86 rfl (lv_at hl 1 rfl) ?_
      obtain ⟨h9, h⟩ := h
      obtain ⟨c34, c35, k1, k2, h⟩ := h
      obtain ⟨n9, h9⟩ := isK1 h9
      refine q_callI (run_V (As := [.int v1]) (rest := [va_rf o33]) S hZ hG hS (s_M_come h) tw_912 tw_909 tw_911 tp_41 tw_8 nk_M_come h9 (by decide) rfl ⟨Nat.le_of_ble_eq_true rfl, Nat.le_of_ble_eq_true rfl⟩ rfl hl.1 rfl (by simp [rf_cat, cat_i, cat_r, cat_l]) d_M_insert0_87 ⟨k1, k2⟩) hS (fun x37 g36 H locs h44 hG hS => ?_)
      have hk := And.intro k1 k2
      replace h := h44
      refine lv_iload_n hx hb d_M_insert0_90 rfl (lv_at hl 2 rfl) ?_
      refine lv_iload hx hb d_M_insert0_91 (lv_at hl 5 rfl) ?_
      refine lv_iadd hx hb d_M_insert0_93 ?_
      refine lv_iload_n hx hb d_M_insert0_94 rfl (lv_at hl 3 rfl) ?_
      refine lv_iload hx hb d_M_insert0_95 (lv_at hl 5 rfl) ?_
      refine lv_iadd hx hb d_M_insert0_97 ?_
      obtain ⟨a38, e9, h⟩ := h
      subst e9
      obtain ⟨h9, h⟩ := h
      obtain ⟨c39, c40, k1, k2, h⟩ := h
      obtain ⟨n9, h9⟩ := isK1 h9
      refine q_callV (run_V (As := [.int x37, .int (v2 + v5), .int (v3 + v5)]) (rest := []) S hZ hG hS (s_G_insert h) tw_925 tw_922 tw_923 tw_924 tw_9 nk_G_insert h9 (by decide) rfl ⟨Nat.le_of_ble_eq_true rfl, Nat.le_of_ble_eq_true rfl⟩ rfl hl.1 rfl (by decide) d_M_insert0_98 ⟨k1, k2⟩) hS (fun g41 H locs h43 hG hS => ?_)
      have hk := And.intro k1 k2
      replace h := h43
      refine q_iinc (k := 5) (v := v5 + (1 : Int32)) (lv' := [(5, .int (v5 + (1 : Int32))), (0, .ref this), (1, .int v1), (2, .int v2), (3, .int v3), (4, .int v4)]) hx hb d_M_insert0_101 hl rfl rfl (by decide) (.n (.k 0 rfl (by decide) (by decide) (.k 1 rfl (by decide) (by decide) (.k 2 rfl (by decide) (by decide) (.k 3 rfl (by decide) (by decide) (.c 4 rfl (by decide) rfl .e)))))) (fun ls42 hl42 => ?_)
      refine lv_goto (tgt := 74) hx hb d_M_insert0_104 (by decide) ?_
      exact ih _ _ _ _ _ _ _ _ _ _ _ _ hk h hG hS (lv_sub hl42 [1, 2, 3, 4, 5, 0] rfl)
def w_M_insert0_44 (z mi mc ms : Nat) (post : Int32 → Sg → Prop) (px : Nat → Sg → Prop) : Nat → Nat → Sg → Nat → Int32 → Int32 → Int32 → Int32 → Int32 → Prop := fun kc ks g this v1 v2 v3 v4 s0 => (∃ c15 c16 : Nat, kc + c15 ≤ mc ∧ ks + c16 ≤ ms ∧ w_M_check z mi c15 c16 (fun (g17 : Sg) => (isK g17 this [6] ∧ ∃ c18 c19 : Nat, (kc + c15) + c18 ≤ mc ∧ (ks + c16) + c19 ≤ ms ∧ w_M_open z mi c18 c19 (fun (x21 : Int32) (g20 : Sg) => (v2 ≤ x21 → (isK g20 this [6] ∧ ∃ c22 c23 : Nat, ((kc + c15) + c18) + c22 ≤ mc ∧ ((ks + c16) + c19) + c23 ≤ ms ∧ w_M_room z mi c22 c23 (fun (g24 : Sg) => (∃ n45 : Nat, w_M_insert0_74 z mi mc ms post px n45 (((kc + c15) + c18) + c22) (((ks + c16) + c19) + c23) g24 this v1 v2 v3 v4 (0 : Int32))) px g20 this v1 v4)) ∧ (¬ v2 ≤ x21 → ((kc + c15) + c18) + 1 ≤ mc ∧ ((ks + c16) + c19) + 6 ≤ ms ∧ px 4 g20)) px g17 this v1)) px g s0)
set_option maxHeartbeats 4000000 in
set_option maxRecDepth 100000 in
theorem s_M_insert0_44 {p : Program} {l : Launch} {e : Env} {s : State} {m : MethodId} {args : Array Value} {below : List Frame} {meth : Method} {c : Code} {D : va_G} {cA : Nat → ClassId} {sz z mi mc ms : Nat} {post : Int32 → Sg → Prop} {px : Nat → Sg → Prop} (S : CallFix p m c b_M_insert0 6 s args TBL "WeaveCoreModel") (hst : l.stackTraces = false) (hZ : Ws D cA sz z mi s) (hr : meth.sig.returnType = (some FieldType.int)) (hlk : meth.locks = false) (hxt : ∀ x ∈ c.exceptionTable.toList, False) :
    ∀ (kc ks : Nat) (g : Sg) (this : Nat) (v1 : Int32) (v2 : Int32) (v3 : Int32) (v4 : Int32) (s0 : Int32) (H : Heap) (locs : List Loc) (ls : Array Slot), kc ≤ mc ∧ ks ≤ ms → w_M_insert0_44 z mi mc ms post px kc ks g this v1 v2 v3 v4 s0 → WP D cA sz g H → va_S (oA sz) s.heap H locs → lv_has ls 6 [(0, .ref this), (1, .int v1), (2, .int v2), (3, .int v3), (4, .int v4)] → W p l e ({ frames := 8, cells := mc, slots := ms, locals := 138 } : Room) s m args below meth c H locs kc ks (vx_MQ below (Qg D cA sz (pI post)) (Xg D cA sz px) args s mc ms (oA sz)) (F0 m 44 ls [.int s0]) := by
  obtain ⟨hx, hb, hml, hown, hts⟩ := id S
  intro kc ks g this v1 v2 v3 v4 s0 H locs ls hk h hG hS hl
  obtain ⟨c15, c16, k1, k2, h⟩ := h
  refine x_callV (xrun_S (As := [.int s0]) (rest := []) S hZ hG hS (s_M_check hst h) tw_897 tw_895 tw_896 tw_8 nk_M_check ⟨Nat.le_of_ble_eq_true rfl, Nat.le_of_ble_eq_true rfl⟩ rfl hl.1 rfl (by decide) d_M_insert0_44 ⟨k1, k2⟩) hS (fun i9 ce q9 g9 H locs hi h54 hG hS hq1 hq2 hq3 => ?_) (fun g17 H locs h53 hG hS => ?_)
  · have hk := And.intro k1 k2
    replace h := h54
    exact r_out (fun x hx => (hxt x hx).elim) hlk hG hS hi h hq1 hq2 hq3 hk.1 hk.2
  · have hk := And.intro k1 k2
    replace h := h53
    refine lv_iload_n hx hb d_M_insert0_47 rfl (lv_at hl 2 rfl) ?_
    refine lv_aload_n hx hb d_M_insert0_48 rfl (lv_at hl 0 rfl) ?_
    refine lv_iload_n hx hb d_M_insert0_49 rfl (lv_at hl 1 rfl) ?_
    obtain ⟨h9, h⟩ := h
    obtain ⟨c18, c19, k1, k2, h⟩ := h
    obtain ⟨n9, h9⟩ := isK1 h9
    refine x_callI (xrun_V (As := [.int v1]) (rest := [.int v2]) S hZ hG hS (s_M_open hst h) tw_902 tw_899 tw_901 tp_39 tw_8 nk_M_open h9 (by decide) rfl ⟨Nat.le_of_ble_eq_true rfl, Nat.le_of_ble_eq_true rfl⟩ rfl hl.1 rfl (Nat.le_of_ble_eq_true rfl) d_M_insert0_50 ⟨k1, k2⟩) hS (fun i9 ce q9 g9 H locs hi h51 hG hS hq1 hq2 hq3 => ?_) (fun x21 g20 H locs h50 hG hS => ?_)
    · have hk := And.intro k1 k2
      replace h := h51
      exact r_out (fun x hx => (hxt x hx).elim) hlk hG hS hi h hq1 hq2 hq3 hk.1 hk.2
    · have hk := And.intro k1 k2
      replace h := h50
      refine lv_icmp_le (tgt := 64) hx hb d_M_insert0_53 (by decide) (fun c9 => ?_) (fun c9 => ?_)
      · replace h := h.1 c9
        refine lv_aload_n hx hb d_M_insert0_64 rfl (lv_at hl 0 rfl) ?_
        refine lv_iload_n hx hb d_M_insert0_65 rfl (lv_at hl 1 rfl) ?_
        refine lv_iload hx hb d_M_insert0_66 (lv_at hl 4 rfl) ?_
        obtain ⟨h9, h⟩ := h
        obtain ⟨c22, c23, k1, k2, h⟩ := h
        obtain ⟨n9, h9⟩ := isK1 h9
        refine x_callV (xrun_V (As := [.int v1, .int v4]) (rest := []) S hZ hG hS (s_M_room hst h) tw_908 tw_905 tw_907 tp_40 tw_8 nk_M_room h9 (by decide) rfl ⟨Nat.le_of_ble_eq_true rfl, Nat.le_of_ble_eq_true rfl⟩ rfl hl.1 rfl (by decide) d_M_insert0_68 ⟨k1, k2⟩) hS (fun i9 ce q9 g9 H locs hi h48 hG hS hq1 hq2 hq3 => ?_) (fun g24 H locs h47 hG hS => ?_)
        · have hk := And.intro k1 k2
          replace h := h48
          exact r_out (fun x hx => (hxt x hx).elim) hlk hG hS hi h hq1 hq2 hq3 hk.1 hk.2
        · have hk := And.intro k1 k2
          replace h := h47
          refine lv_iconst (v := (0 : Int32)) hx hb d_M_insert0_71 (by decide) ?_
          refine q_istore (lv' := [(5, .int ((0 : Int32))), (0, .ref this), (1, .int v1), (2, .int v2), (3, .int v3), (4, .int v4)]) hx hb d_M_insert0_72 hl (by decide) (.n (.k 0 rfl (by decide) (by decide) (.k 1 rfl (by decide) (by decide) (.k 2 rfl (by decide) (by decide) (.k 3 rfl (by decide) (by decide) (.c 4 rfl (by decide) rfl .e)))))) (fun ls25 hl25 => ?_)
          obtain ⟨n45, h⟩ := h
          exact s_M_insert0_74 S hst hZ hr hlk hxt n45 _ _ _ _ _ _ _ _ _ _ _ _ hk h hG hS (lv_sub hl25 [1, 2, 3, 4, 5, 0] rfl)
      · replace h := h.2 c9
        exact r_throw (i := 4) S hst hZ hG hS (by decide) tw_886 tw_21 xa_M_110_112 xb_M_110_112 xo_M_110_112 hl.1 d_M_insert0_56 d_M_insert0_59 d_M_insert0_60 d_M_insert0_63 (fun x hx => (hxt x hx).elim) (Nat.le_of_ble_eq_true rfl) (Nat.le_of_ble_eq_true rfl) rfl rfl hlk h.2.2 h.1 h.2.1
def w_M_insert0_43 (z mi mc ms : Nat) (post : Int32 → Sg → Prop) (px : Nat → Sg → Prop) : Nat → Nat → Sg → Nat → Int32 → Int32 → Int32 → Int32 → Prop := fun kc ks g this v1 v2 v3 v4 => w_M_insert0_44 z mi mc ms post px kc ks g this v1 v2 v3 v4 (0 : Int32)
set_option maxHeartbeats 4000000 in
set_option maxRecDepth 100000 in
theorem s_M_insert0_43 {p : Program} {l : Launch} {e : Env} {s : State} {m : MethodId} {args : Array Value} {below : List Frame} {meth : Method} {c : Code} {D : va_G} {cA : Nat → ClassId} {sz z mi mc ms : Nat} {post : Int32 → Sg → Prop} {px : Nat → Sg → Prop} (S : CallFix p m c b_M_insert0 6 s args TBL "WeaveCoreModel") (hst : l.stackTraces = false) (hZ : Ws D cA sz z mi s) (hr : meth.sig.returnType = (some FieldType.int)) (hlk : meth.locks = false) (hxt : ∀ x ∈ c.exceptionTable.toList, False) :
    ∀ (kc ks : Nat) (g : Sg) (this : Nat) (v1 : Int32) (v2 : Int32) (v3 : Int32) (v4 : Int32) (H : Heap) (locs : List Loc) (ls : Array Slot), kc ≤ mc ∧ ks ≤ ms → w_M_insert0_43 z mi mc ms post px kc ks g this v1 v2 v3 v4 → WP D cA sz g H → va_S (oA sz) s.heap H locs → lv_has ls 6 [(0, .ref this), (1, .int v1), (2, .int v2), (3, .int v3), (4, .int v4)] → W p l e ({ frames := 8, cells := mc, slots := ms, locals := 138 } : Room) s m args below meth c H locs kc ks (vx_MQ below (Qg D cA sz (pI post)) (Xg D cA sz px) args s mc ms (oA sz)) (F0 m 43 ls []) := by
  obtain ⟨hx, hb, hml, hown, hts⟩ := id S
  intro kc ks g this v1 v2 v3 v4 H locs ls hk h hG hS hl
  refine lv_iconst (v := (0 : Int32)) hx hb d_M_insert0_43 (by decide) ?_
  exact s_M_insert0_44 S hst hZ hr hlk hxt _ _ _ _ _ _ _ _ _ _ _ _ hk h hG hS (lv_sub hl [0, 1, 2, 3, 4] rfl)
def w_M_insert0 (z mi mc ms : Nat) (post : Int32 → Sg → Prop) (px : Nat → Sg → Prop) (g : Sg) (this : Nat) (p0 : Int32) (p1 : Int32) (p2 : Int32) (p3 : Int32) : Prop := (∃ c11 c12 : Nat, 0 + c11 ≤ mc ∧ 0 + c12 ≤ ms ∧ w_M_in z mi c11 c12 (fun (x14 : Int32) (g13 : Sg) => (x14 = 0 → w_M_insert0_43 z mi mc ms post px (0 + c11) (0 + c12) g13 this p0 p1 p2 p3) ∧ (¬ x14 = 0 → (∃ c55 c56 : Nat, (0 + c11) + c55 ≤ mc ∧ (0 + c12) + c56 ≤ ms ∧ w_M_in z mi c55 c56 (fun (x58 : Int32) (g57 : Sg) => (x58 = 0 → w_M_insert0_43 z mi mc ms post px ((0 + c11) + c55) ((0 + c12) + c56) g57 this p0 p1 p2 p3) ∧ (¬ x58 = 0 → (∃ c59 c60 : Nat, ((0 + c11) + c55) + c59 ≤ mc ∧ ((0 + c12) + c56) + c60 ≤ ms ∧ w_M_in z mi c59 c60 (fun (x62 : Int32) (g61 : Sg) => (x62 = 0 → w_M_insert0_43 z mi mc ms post px (((0 + c11) + c55) + c59) (((0 + c12) + c56) + c60) g61 this p0 p1 p2 p3) ∧ (¬ x62 = 0 → (p1 < 0 → w_M_insert0_43 z mi mc ms post px (((0 + c11) + c55) + c59) (((0 + c12) + c56) + c60) g61 this p0 p1 p2 p3) ∧ (¬ p1 < 0 → w_M_insert0_44 z mi mc ms post px (((0 + c11) + c55) + c59) (((0 + c12) + c56) + c60) g61 this p0 p1 p2 p3 (1 : Int32)))) g57 p2 (0 : Int32) ((1114112 : Int32) - p3)))) g13 p3 (1 : Int32) (100 : Int32)))) g p0 (0 : Int32) (255 : Int32))
set_option maxHeartbeats 4000000 in
set_option maxRecDepth 100000 in
theorem s_M_insert0 {l : Launch} {D : va_G} {cA : Nat → ClassId} {sz z mi mc ms : Nat} {g : Sg} {post : Int32 → Sg → Prop} {px : Nat → Sg → Prop} {this : Nat} {p0 : Int32} {p1 : Int32} {p2 : Int32} {p3 : Int32} (hst : l.stackTraces = false) (h : w_M_insert0 z mi mc ms post px g this p0 p1 p2 p3) : vx_Met l y_M_insert0 (Cond.code y_M_insert0 b_M_insert0 6 (some FieldType.int) :: TBL) ({ frames := 8, cells := mc, slots := ms, locals := 138 } : Room) (Pg D cA sz z mi [.ref this, .int p0, .int p1, .int p2, .int p3] g) (Qg D cA sz (pI post)) (Xg D cA sz px) mc ms (oA sz) := by
  refine m_codeX (lv := [(0, .ref this), (1, .int p0), (2, .int p1), (3, .int p2), (4, .int p3)]) (by decide +kernel) (Nat.le_of_ble_eq_true rfl) rfl ?_
  intro p e s m below meth c ls hxt S hr hlk hnm hZ hG hS hl
  obtain ⟨hx, hb, hml, hown, hts⟩ := id S
  have hk : 0 ≤ mc ∧ 0 ≤ ms := ⟨Nat.zero_le _, Nat.zero_le _⟩
  refine lv_iload_n hx hb d_M_insert0_0 rfl (lv_at hl 1 rfl) ?_
  refine lv_iconst (v := (0 : Int32)) hx hb d_M_insert0_1 (by decide) ?_
  refine lv_sipush (v := (255 : Int32)) hx hb d_M_insert0_2 (by decide) ?_
  obtain ⟨c11, c12, k1, k2, h⟩ := h
  refine q_callI (run_S (As := [.int p0, .int ((0 : Int32)), .int ((255 : Int32))]) (rest := []) S hZ hG hS (s_M_in h) tw_893 tw_891 tw_892 tw_8 nk_M_in ⟨Nat.le_of_ble_eq_true rfl, Nat.le_of_ble_eq_true rfl⟩ rfl hl.1 rfl (by decide) d_M_insert0_5 ⟨k1, k2⟩) hS (fun x14 g13 H locs h65 hG hS => ?_)
  have hk := And.intro k1 k2
  replace h := h65
  refine lv_if_eq (tgt := 43) hx hb d_M_insert0_8 (by decide) (fun c9 => ?_) (fun c9 => ?_)
  · replace h := h.1 c9
    exact s_M_insert0_43 S hst hZ hr hlk hxt _ _ _ _ _ _ _ _ _ _ _ hk h hG hS (lv_sub hl [0, 1, 2, 3, 4] rfl)
  · replace h := h.2 c9
    refine lv_iload hx hb d_M_insert0_11 (lv_at hl 4 rfl) ?_
    refine lv_iconst (v := (1 : Int32)) hx hb d_M_insert0_13 (by decide) ?_
    refine lv_bipush (v := (100 : Int32)) hx hb d_M_insert0_14 (by decide) ?_
    obtain ⟨c55, c56, k1, k2, h⟩ := h
    refine q_callI (run_S (As := [.int p3, .int ((1 : Int32)), .int ((100 : Int32))]) (rest := []) S hZ hG hS (s_M_in h) tw_893 tw_891 tw_892 tw_8 nk_M_in ⟨Nat.le_of_ble_eq_true rfl, Nat.le_of_ble_eq_true rfl⟩ rfl hl.1 rfl (by decide) d_M_insert0_16 ⟨k1, k2⟩) hS (fun x58 g57 H locs h64 hG hS => ?_)
    have hk := And.intro k1 k2
    replace h := h64
    refine lv_if_eq (tgt := 43) hx hb d_M_insert0_19 (by decide) (fun c9 => ?_) (fun c9 => ?_)
    · replace h := h.1 c9
      exact s_M_insert0_43 S hst hZ hr hlk hxt _ _ _ _ _ _ _ _ _ _ _ hk h hG hS (lv_sub hl [0, 1, 2, 3, 4] rfl)
    · replace h := h.2 c9
      refine lv_iload_n hx hb d_M_insert0_22 rfl (lv_at hl 3 rfl) ?_
      refine lv_iconst (v := (0 : Int32)) hx hb d_M_insert0_23 (by decide) ?_
      refine lv_ldc hx hb hown (hts _ tw_894) d_M_insert0_24 ?_
      refine lv_iload hx hb d_M_insert0_26 (lv_at hl 4 rfl) ?_
      refine lv_isub hx hb d_M_insert0_28 ?_
      obtain ⟨c59, c60, k1, k2, h⟩ := h
      refine q_callI (run_S (As := [.int p2, .int ((0 : Int32)), .int ((1114112 : Int32) - p3)]) (rest := []) S hZ hG hS (s_M_in h) tw_893 tw_891 tw_892 tw_8 nk_M_in ⟨Nat.le_of_ble_eq_true rfl, Nat.le_of_ble_eq_true rfl⟩ rfl hl.1 rfl (by decide) d_M_insert0_29 ⟨k1, k2⟩) hS (fun x62 g61 H locs h63 hG hS => ?_)
      have hk := And.intro k1 k2
      replace h := h63
      refine lv_if_eq (tgt := 43) hx hb d_M_insert0_32 (by decide) (fun c9 => ?_) (fun c9 => ?_)
      · replace h := h.1 c9
        exact s_M_insert0_43 S hst hZ hr hlk hxt _ _ _ _ _ _ _ _ _ _ _ hk h hG hS (lv_sub hl [0, 1, 2, 3, 4] rfl)
      · replace h := h.2 c9
        refine lv_iload_n hx hb d_M_insert0_35 rfl (lv_at hl 2 rfl) ?_
        refine lv_if_lt (tgt := 43) hx hb d_M_insert0_36 (by decide) (fun c9 => ?_) (fun c9 => ?_)
        · replace h := h.1 c9
          exact s_M_insert0_43 S hst hZ hr hlk hxt _ _ _ _ _ _ _ _ _ _ _ hk h hG hS (lv_sub hl [0, 1, 2, 3, 4] rfl)
        · replace h := h.2 c9
          refine lv_iconst (v := (1 : Int32)) hx hb d_M_insert0_39 (by decide) ?_
          refine lv_goto (tgt := 44) hx hb d_M_insert0_40 (by decide) ?_
          exact s_M_insert0_44 S hst hZ hr hlk hxt _ _ _ _ _ _ _ _ _ _ _ _ hk h hG hS (lv_sub hl [0, 1, 2, 3, 4] rfl)
