def w_C_isListTangled_12 (z mi mc ms : Nat) (post : Int32 → Sg → Prop) (k_2 : Nat → Nat → Sg → Nat → Int32 → Prop) : Nat → Nat → Nat → Sg → Nat → Int32 → Int32 → Prop
  | 0 => fun _ _ _ _ _ _ => False
  | n + 1 => fun kc ks g this v1 v2 => (hasI g this 27 ∧ ∀ x14 : Int32, x14 = fI g 27 this → (x14 ≤ v2 → k_2 kc ks g this (v1 + (1 : Int32))) ∧ (¬ x14 ≤ v2 → (hasR g this 24 ∧ ∀ o16 : Option Nat, o16 = fR g 24 this → ∃ a17, o16 = some a17 ∧ (∃ j18 : Nat, inA g a17 105 v1 j18 ∧ ∀ o19 : Option Nat, o19 = aR g a17 j18 → (hasR g this 24 ∧ ∀ o20 : Option Nat, o20 = fR g 24 this → ∃ a21, o20 = some a21 ∧ (∃ j22 : Nat, inA g a21 105 v2 j22 ∧ ∀ o23 : Option Nat, o23 = aR g a21 j22 → ∃ a24, o19 = some a24 ∧ (isK g a24 [2, 3] ∧ ∃ c25 c26 : Nat, kc + c25 ≤ mc ∧ ks + c26 ≤ ms ∧ w_E_isAfter z mi c25 c26 (fun (x28 : Int32) (g27 : Sg) => (x28 = 0 → w_C_isListTangled_12 z mi mc ms post k_2 n (kc + c25) (ks + c26) g27 this v1 (v2 + (1 : Int32))) ∧ (¬ x28 = 0 → post (1 : Int32) g27)) g a24 o23)))))))
set_option maxHeartbeats 4000000 in
set_option maxRecDepth 100000 in
theorem s_C_isListTangled_12 {p : Program} {l : Launch} {e : Env} {s : State} {m : MethodId} {args : Array Value} {below : List Frame} {meth : Method} {c : Code} {D : va_G} {cA : Nat → ClassId} {sz z mi mc ms : Nat} {post : Int32 → Sg → Prop}  {k_2 : Nat → Nat → Sg → Nat → Int32 → Prop} (S : CallFix p m c b_C_isListTangled 3 s args TBL "WeaveCore") (hZ : Ws D cA sz z mi s) (hr : meth.sig.returnType = (some FieldType.boolean)) (hlk : meth.locks = false) (hk_2 : ∀ (kc ks : Nat) (g : Sg) (this : Nat) (v1 : Int32) (H : Heap) (locs : List Loc) (ls : Array Slot), kc ≤ mc ∧ ks ≤ ms → k_2 kc ks g this v1 → WP D cA sz g H → va_S (oA sz) s.heap H locs → lv_has ls 3 [(0, .ref this), (1, .int v1)] → W p l e ({ frames := 2, cells := mc, slots := ms, locals := 42 } : Room) s m args below meth c H locs kc ks (MQ below (Qg D cA sz (pI post)) args s mc ms (oA sz)) (F0 m 2 ls [])) :
    ∀ n : Nat, ∀ (kc ks : Nat) (g : Sg) (this : Nat) (v1 : Int32) (v2 : Int32) (H : Heap) (locs : List Loc) (ls : Array Slot), kc ≤ mc ∧ ks ≤ ms → w_C_isListTangled_12 z mi mc ms post k_2 n kc ks g this v1 v2 → WP D cA sz g H → va_S (oA sz) s.heap H locs → lv_has ls 3 [(0, .ref this), (1, .int v1), (2, .int v2)] → W p l e ({ frames := 2, cells := mc, slots := ms, locals := 42 } : Room) s m args below meth c H locs kc ks (MQ below (Qg D cA sz (pI post)) args s mc ms (oA sz)) (F0 m 12 ls []) := by
  obtain ⟨hx, hb, hml, hown, hts⟩ := id S
  intro n
  induction n with
  | zero =>
    intro kc ks g this v1 v2 H locs ls hk h hG hS hl
    exact h.elim
  | succ n ih =>
    intro kc ks g this v1 v2 H locs ls hk h hG hS hl
    refine lv_iload_n hx hb d_C_isListTangled_12 rfl (lv_at hl 2 rfl) ?_
    refine lv_aload_n hx hb d_C_isListTangled_13 rfl (lv_at hl 0 rfl) ?_
    refine r_getI (f := 27) S hZ hG rfl h.1 (hts _ tw_158) (fun _ h9 => h9) d_C_isListTangled_14 (fun x14 e9 => ?_)
    replace h := h.2 x14 e9
    refine lv_icmp_ge (tgt := 46) hx hb d_C_isListTangled_17 (by decide) (fun c9 => ?_) (fun c9 => ?_)
    · replace h := h.1 c9
      refine q_iinc (k := 1) (v := v1 + (1 : Int32)) (lv' := [(1, .int (v1 + (1 : Int32))), (0, .ref this), (2, .int v2)]) hx hb d_C_isListTangled_46 hl rfl rfl (by decide) (.n (.c 0 rfl (by decide) rfl (.k 2 rfl (by decide) (by decide) .e))) (fun ls15 hl15 => ?_)
      refine lv_goto (tgt := 2) hx hb d_C_isListTangled_49 (by decide) ?_
      exact hk_2 _ _ _ _ _ _ _ _ hk h hG hS (lv_sub hl15 [1, 0] rfl)
    · replace h := h.2 c9
      refine lv_aload_n hx hb d_C_isListTangled_20 rfl (lv_at hl 0 rfl) ?_
      refine r_getR (f := 24) S hZ hG rfl h.1 (hts _ tw_155) (fun _ h9 => h9) d_C_isListTangled_21 (fun o16 e9 => ?_)
      replace h := h.2 o16 e9
      refine lv_iload_n hx hb d_C_isListTangled_24 rfl (lv_at hl 1 rfl) ?_
      obtain ⟨a17, e9, h⟩ := h
      subst e9
      obtain ⟨j18, h9, h⟩ := h
      refine r_aald (k := 105) S hZ hG h9 (by decide) rfl d_C_isListTangled_25 (fun o19 e9 => ?_)
      replace h := h o19 e9
      refine lv_aload_n hx hb d_C_isListTangled_26 rfl (lv_at hl 0 rfl) ?_
      refine r_getR (f := 24) S hZ hG rfl h.1 (hts _ tw_155) (fun _ h9 => h9) d_C_isListTangled_27 (fun o20 e9 => ?_)
      replace h := h.2 o20 e9
      refine lv_iload_n hx hb d_C_isListTangled_30 rfl (lv_at hl 2 rfl) ?_
      obtain ⟨a21, e9, h⟩ := h
      subst e9
      obtain ⟨j22, h9, h⟩ := h
      refine r_aald (k := 105) S hZ hG h9 (by decide) rfl d_C_isListTangled_31 (fun o23 e9 => ?_)
      replace h := h o23 e9
      obtain ⟨a24, e9, h⟩ := h
      subst e9
      obtain ⟨h9, h⟩ := h
      obtain ⟨c25, c26, k1, k2, h⟩ := h
      refine q_callI (run_E (As := [va_rf o23]) (rest := []) S hZ hG hS (s_E_isAfter h) tw_214 tw_209 tw_211 tw_212 tw_213 tw_210 tw_5 rfl nk_E_isAfter h9 ⟨Nat.le_of_ble_eq_true rfl, Nat.le_of_ble_eq_true rfl⟩ rfl hl.1 rfl (by decide) d_C_isListTangled_32 ⟨k1, k2⟩) hS (fun x28 g27 H locs h30 hG hS => ?_)
      have hk := And.intro k1 k2
      replace h := h30
      refine lv_if_eq (tgt := 40) hx hb d_C_isListTangled_35 (by decide) (fun c9 => ?_) (fun c9 => ?_)
      · replace h := h.1 c9
        refine q_iinc (k := 2) (v := v2 + (1 : Int32)) (lv' := [(2, .int (v2 + (1 : Int32))), (0, .ref this), (1, .int v1)]) hx hb d_C_isListTangled_40 hl rfl rfl (by decide) (.n (.k 0 rfl (by decide) (by decide) (.c 1 rfl (by decide) rfl .e))) (fun ls29 hl29 => ?_)
        refine lv_goto (tgt := 12) hx hb d_C_isListTangled_43 (by decide) ?_
        exact ih _ _ _ _ _ _ _ _ _ hk h hG hS (lv_sub hl29 [1, 2, 0] rfl)
      · replace h := h.2 c9
        refine lv_iconst (v := (1 : Int32)) hx hb d_C_isListTangled_38 (by decide) ?_
        exact r_zret (v := (1 : Int32)) S hr hlk rfl hG hS h hk.1 hk.2 d_C_isListTangled_39
def w_C_isListTangled_2 (z mi mc ms : Nat) (post : Int32 → Sg → Prop) : Nat → Nat → Nat → Sg → Nat → Int32 → Prop
  | 0 => fun _ _ _ _ _ => False
  | n + 1 => fun kc ks g this v1 => (hasI g this 27 ∧ ∀ x12 : Int32, x12 = fI g 27 this → (x12 ≤ v1 → post (0 : Int32) g) ∧ (¬ x12 ≤ v1 → (∃ n31 : Nat, w_C_isListTangled_12 z mi mc ms post (w_C_isListTangled_2 z mi mc ms post n) n31 kc ks g this v1 (0 : Int32))))
set_option maxHeartbeats 4000000 in
set_option maxRecDepth 100000 in
theorem s_C_isListTangled_2 {p : Program} {l : Launch} {e : Env} {s : State} {m : MethodId} {args : Array Value} {below : List Frame} {meth : Method} {c : Code} {D : va_G} {cA : Nat → ClassId} {sz z mi mc ms : Nat} {post : Int32 → Sg → Prop} (S : CallFix p m c b_C_isListTangled 3 s args TBL "WeaveCore") (hZ : Ws D cA sz z mi s) (hr : meth.sig.returnType = (some FieldType.boolean)) (hlk : meth.locks = false) :
    ∀ n : Nat, ∀ (kc ks : Nat) (g : Sg) (this : Nat) (v1 : Int32) (H : Heap) (locs : List Loc) (ls : Array Slot), kc ≤ mc ∧ ks ≤ ms → w_C_isListTangled_2 z mi mc ms post n kc ks g this v1 → WP D cA sz g H → va_S (oA sz) s.heap H locs → lv_has ls 3 [(0, .ref this), (1, .int v1)] → W p l e ({ frames := 2, cells := mc, slots := ms, locals := 42 } : Room) s m args below meth c H locs kc ks (MQ below (Qg D cA sz (pI post)) args s mc ms (oA sz)) (F0 m 2 ls []) := by
  obtain ⟨hx, hb, hml, hown, hts⟩ := id S
  intro n
  induction n with
  | zero =>
    intro kc ks g this v1 H locs ls hk h hG hS hl
    exact h.elim
  | succ n ih =>
    intro kc ks g this v1 H locs ls hk h hG hS hl
    refine lv_iload_n hx hb d_C_isListTangled_2 rfl (lv_at hl 1 rfl) ?_
    refine lv_aload_n hx hb d_C_isListTangled_3 rfl (lv_at hl 0 rfl) ?_
    refine r_getI (f := 27) S hZ hG rfl h.1 (hts _ tw_158) (fun _ h9 => h9) d_C_isListTangled_4 (fun x12 e9 => ?_)
    replace h := h.2 x12 e9
    refine lv_icmp_ge (tgt := 52) hx hb d_C_isListTangled_7 (by decide) (fun c9 => ?_) (fun c9 => ?_)
    · replace h := h.1 c9
      refine lv_iconst (v := (0 : Int32)) hx hb d_C_isListTangled_52 (by decide) ?_
      exact r_zret (v := (0 : Int32)) S hr hlk rfl hG hS h hk.1 hk.2 d_C_isListTangled_53
    · replace h := h.2 c9
      refine lv_iconst (v := (0 : Int32)) hx hb d_C_isListTangled_10 (by decide) ?_
      refine q_istore_n (lv' := [(2, .int ((0 : Int32))), (0, .ref this), (1, .int v1)]) hx hb d_C_isListTangled_11 rfl hl (by decide) (.n (.k 0 rfl (by decide) (by decide) (.c 1 rfl (by decide) rfl .e))) (fun ls13 hl13 => ?_)
      obtain ⟨n31, h⟩ := h
      exact s_C_isListTangled_12 S hZ hr hlk ih n31 _ _ _ _ _ _ _ _ _ hk h hG hS (lv_sub hl13 [1, 2, 0] rfl)
def w_C_isListTangled (z mi mc ms : Nat) (post : Int32 → Sg → Prop) (g : Sg) (this : Nat) : Prop := (∃ n32 : Nat, w_C_isListTangled_2 z mi mc ms post n32 0 0 g this (0 : Int32))
set_option maxHeartbeats 4000000 in
set_option maxRecDepth 100000 in
theorem s_C_isListTangled {l : Launch} {D : va_G} {cA : Nat → ClassId} {sz z mi mc ms : Nat} {g : Sg} {post : Int32 → Sg → Prop} {this : Nat} (h : w_C_isListTangled z mi mc ms post g this) : Met l y_C_isListTangled (Cond.code y_C_isListTangled b_C_isListTangled 3 (some FieldType.boolean) :: TBL) ({ frames := 2, cells := mc, slots := ms, locals := 42 } : Room) (Pg D cA sz z mi [.ref this] g) (Qg D cA sz (pI post)) mc ms (oA sz) := by
  refine m_code (lv := [(0, .ref this)]) (by decide +kernel) (Nat.le_of_ble_eq_true rfl) rfl ?_
  intro p e s m below meth c ls S hr hlk hnm hZ hG hS hl
  obtain ⟨hx, hb, hml, hown, hts⟩ := id S
  have hk : 0 ≤ mc ∧ 0 ≤ ms := ⟨Nat.zero_le _, Nat.zero_le _⟩
  refine lv_iconst (v := (0 : Int32)) hx hb d_C_isListTangled_0 (by decide) ?_
  refine q_istore_n (lv' := [(1, .int ((0 : Int32))), (0, .ref this)]) hx hb d_C_isListTangled_1 rfl hl (by decide) (.n (.c 0 rfl (by decide) rfl .e)) (fun ls11 hl11 => ?_)
  obtain ⟨n32, h⟩ := h
  exact s_C_isListTangled_2 S hZ hr hlk n32 _ _ _ _ _ _ _ _ hk h hG hS (lv_sub hl11 [1, 0] rfl)
def w_AR_fillI_5 (z mi mc ms : Nat) (post : Sg → Prop) : Nat → Nat → Nat → Sg → Option Nat → Int32 → Int32 → Int32 → Prop
  | 0 => fun _ _ _ _ _ _ _ => False
  | n + 1 => fun kc ks g v0 v1 v2 v3 => (v3 ≤ v2 → post g) ∧ (¬ v3 ≤ v2 → ∃ a17, v0 = some a17 ∧ (∃ j19 : Nat, inA g a17 100 v2 j19 ∧ ∀ g20 : Sg, g20 = sI g a17 j19 v1 → w_AR_fillI_5 z mi mc ms post n kc ks g20 (some a17) v1 (v2 + (1 : Int32)) v3))
set_option maxHeartbeats 4000000 in
set_option maxRecDepth 100000 in
theorem s_AR_fillI_5 {p : Program} {l : Launch} {e : Env} {s : State} {m : MethodId} {args : Array Value} {below : List Frame} {meth : Method} {c : Code} {D : va_G} {cA : Nat → ClassId} {sz z mi mc ms : Nat} {post : Sg → Prop} (S : CallFix p m c b_AR_fillI 4 s args TBL "java/util/Arrays") (hZ : Ws D cA sz z mi s) (hr : meth.sig.returnType = none) (hlk : meth.locks = false) :
    ∀ n : Nat, ∀ (kc ks : Nat) (g : Sg) (v0 : Option Nat) (v1 : Int32) (v2 : Int32) (v3 : Int32) (H : Heap) (locs : List Loc) (ls : Array Slot), kc ≤ mc ∧ ks ≤ ms → w_AR_fillI_5 z mi mc ms post n kc ks g v0 v1 v2 v3 → WP D cA sz g H → va_S (oA sz) s.heap H locs → lv_has ls 4 [(0, va_rf v0), (1, .int v1), (2, .int v2), (3, .int v3)] → W p l e ({ frames := 0, cells := mc, slots := ms, locals := 0 } : Room) s m args below meth c H locs kc ks (MQ below (Qg D cA sz (pV post)) args s mc ms (oA sz)) (F0 m 5 ls []) := by
  obtain ⟨hx, hb, hml, hown, hts⟩ := id S
  intro n
  induction n with
  | zero =>
    intro kc ks g v0 v1 v2 v3 H locs ls hk h hG hS hl
    exact h.elim
  | succ n ih =>
    intro kc ks g v0 v1 v2 v3 H locs ls hk h hG hS hl
    refine lv_iload_n hx hb d_AR_fillI_5 rfl (lv_at hl 2 rfl) ?_
    refine lv_iload_n hx hb d_AR_fillI_6 rfl (lv_at hl 3 rfl) ?_
    refine lv_icmp_ge (tgt := 20) hx hb d_AR_fillI_7 (by decide) (fun c9 => ?_) (fun c9 => ?_)
    · replace h := h.1 c9
      exact r_vret S hr hlk hG hS h hk.1 hk.2 d_AR_fillI_20
    · replace h := h.2 c9
      refine q_aload_n hx hb d_AR_fillI_10 rfl (lv_at hl 0 rfl) ?_
      refine lv_iload_n hx hb d_AR_fillI_11 rfl (lv_at hl 2 rfl) ?_
      refine lv_iload_n hx hb d_AR_fillI_12 rfl (lv_at hl 1 rfl) ?_
      obtain ⟨a17, e9, h⟩ := h
      subst e9
      have hl18 : lv_has ls 4 [(0, .ref a17), (1, .int v1), (2, .int v2), (3, .int v3)] := hl
      obtain ⟨j19, h9, h⟩ := h
      refine r_iast S hZ hG hS h9 d_AR_fillI_13 (fun g20 H locs e9 hG hS => ?_)
      replace h := h g20 e9
      refine q_iinc (k := 2) (v := v2 + (1 : Int32)) (lv' := [(2, .int (v2 + (1 : Int32))), (0, .ref a17), (1, .int v1), (3, .int v3)]) hx hb d_AR_fillI_14 hl18 rfl rfl (by decide) (.n (.k 0 rfl (by decide) (by decide) (.c 1 rfl (by decide) rfl (.k 3 rfl (by decide) (by decide) .e)))) (fun ls21 hl21 => ?_)
      refine lv_goto (tgt := 5) hx hb d_AR_fillI_17 (by decide) ?_
      exact ih _ _ _ _ _ _ _ _ _ _ hk h hG hS (lv_sub hl21 [1, 2, 0, 3] rfl)
def w_AR_fillI (z mi mc ms : Nat) (post : Sg → Prop) (g : Sg) (p0 : Option Nat) (p1 : Int32) : Prop := ∃ a12, p0 = some a12 ∧ (∃ n14 : Nat, lenA g z a12 n14 ∧ ∀ x15 : Int32, x15 = nI n14 → (∃ n22 : Nat, w_AR_fillI_5 z mi mc ms post n22 0 0 g (some a12) p1 (0 : Int32) x15))
set_option maxHeartbeats 4000000 in
set_option maxRecDepth 100000 in
theorem s_AR_fillI {l : Launch} {D : va_G} {cA : Nat → ClassId} {sz z mi mc ms : Nat} {g : Sg} {post : Sg → Prop} {p0 : Option Nat} {p1 : Int32} (h : w_AR_fillI z mi mc ms post g p0 p1) : Met l y_AR_fillI (Cond.code y_AR_fillI b_AR_fillI 4 none :: TBL) ({ frames := 0, cells := mc, slots := ms, locals := 0 } : Room) (Pg D cA sz z mi [va_rf p0, .int p1] g) (Qg D cA sz (pV post)) mc ms (oA sz) := by
  refine m_code (lv := [(0, va_rf p0), (1, .int p1)]) (by decide +kernel) (by simp [lg_sl, rf_cat, cat_i, cat_r, cat_l]) (by simp [lv_args, rf_cat, cat_i, cat_r, cat_l]) ?_
  intro p e s m below meth c ls S hr hlk hnm hZ hG hS hl
  obtain ⟨hx, hb, hml, hown, hts⟩ := id S
  have hk : 0 ≤ mc ∧ 0 ≤ ms := ⟨Nat.zero_le _, Nat.zero_le _⟩
  refine lv_iconst (v := (0 : Int32)) hx hb d_AR_fillI_0 (by decide) ?_
  refine q_istore_n (lv' := [(2, .int ((0 : Int32))), (0, va_rf p0), (1, .int p1)]) hx hb d_AR_fillI_1 rfl hl (by decide) (.n (.k 0 rfl (by decide) (by decide) (.c 1 rfl (by decide) rfl .e))) (fun ls11 hl11 => ?_)
  refine q_aload_n hx hb d_AR_fillI_2 rfl (lv_at hl11 1 rfl) ?_
  obtain ⟨a12, e9, h⟩ := h
  subst e9
  have hl13 : lv_has ls11 4 [(2, .int ((0 : Int32))), (0, .ref a12), (1, .int p1)] := hl11
  obtain ⟨n14, h9, h⟩ := h
  refine r_alen S hZ hG hS h9 d_AR_fillI_3 (fun x15 e9 => ?_)
  replace h := h x15 e9
  refine q_istore_n (lv' := [(3, .int x15), (2, .int ((0 : Int32))), (0, .ref a12), (1, .int p1)]) hx hb d_AR_fillI_4 rfl hl13 (by decide) (.n (.c 0 rfl (by decide) rfl (.k 1 rfl (by decide) (by decide) (.k 2 rfl (by decide) (by decide) .e)))) (fun ls16 hl16 => ?_)
  obtain ⟨n22, h⟩ := h
  exact s_AR_fillI_5 S hZ hr hlk n22 _ _ _ _ _ _ _ _ _ _ hk h hG hS (lv_sub hl16 [2, 3, 1, 0] rfl)
def w_MA_max (z mi mc ms : Nat) (post : Int32 → Sg → Prop) (g : Sg) (p0 : Int32) (p1 : Int32) : Prop := (p0 < p1 → post p1 g) ∧ (¬ p0 < p1 → post p0 g)
set_option maxHeartbeats 4000000 in
set_option maxRecDepth 100000 in
theorem s_MA_max {l : Launch} {D : va_G} {cA : Nat → ClassId} {sz z mi mc ms : Nat} {g : Sg} {post : Int32 → Sg → Prop} {p0 : Int32} {p1 : Int32} (h : w_MA_max z mi mc ms post g p0 p1) : Met l y_MA_max (Cond.code y_MA_max b_MA_max 2 (some FieldType.int) :: TBL) ({ frames := 0, cells := mc, slots := ms, locals := 0 } : Room) (Pg D cA sz z mi [.int p0, .int p1] g) (Qg D cA sz (pI post)) mc ms (oA sz) := by
  refine m_code (lv := [(0, .int p0), (1, .int p1)]) (by decide +kernel) (Nat.le_of_ble_eq_true rfl) rfl ?_
  intro p e s m below meth c ls S hr hlk hnm hZ hG hS hl
  obtain ⟨hx, hb, hml, hown, hts⟩ := id S
  have hk : 0 ≤ mc ∧ 0 ≤ ms := ⟨Nat.zero_le _, Nat.zero_le _⟩
  refine lv_iload_n hx hb d_MA_max_0 rfl (lv_at hl 0 rfl) ?_
  refine lv_iload_n hx hb d_MA_max_1 rfl (lv_at hl 1 rfl) ?_
  refine lv_icmp_lt (tgt := 9) hx hb d_MA_max_2 (by decide) (fun c9 => ?_) (fun c9 => ?_)
  · replace h := h.1 c9
    refine lv_iload_n hx hb d_MA_max_9 rfl (lv_at hl 1 rfl) ?_
    exact r_iret (v := p1) S hr hlk hG hS h hk.1 hk.2 d_MA_max_10
  · replace h := h.2 c9
    refine lv_iload_n hx hb d_MA_max_5 rfl (lv_at hl 0 rfl) ?_
    refine lv_goto (tgt := 10) hx hb d_MA_max_6 (by decide) ?_
    exact r_iret (v := p0) S hr hlk hG hS h hk.1 hk.2 d_MA_max_10
def w_E_joinTo_2 (z mi mc ms : Nat) (post : Sg → Prop) : Nat → Nat → Nat → Sg → Nat → Option Nat → Int32 → Prop
  | 0 => fun _ _ _ _ _ _ => False
  | n + 1 => fun kc ks g this v1 v2 => ((16 : Int32) ≤ v2 → (hasR g this 7 ∧ ∀ o12 : Option Nat, o12 = fR g 7 this → ∃ a13, o12 = some a13 ∧ (hasI g a13 5 ∧ ∀ x14 : Int32, x14 = fI g 5 a13 → (hasR g this 7 ∧ ∀ o15 : Option Nat, o15 = fR g 7 this → ∃ a16, o15 = some a16 ∧ (hasI g a16 5 ∧ ∀ x17 : Int32, x17 = fI g 5 a16 → ∃ a18, v1 = some a18 ∧ (∃ j20 : Nat, inA g a18 100 x17 j20 ∧ ∀ x21 : Int32, x21 = aI g a18 j20 → (hasI g this 8 ∧ ∀ x22 : Int32, x22 = fI g 8 this → (∃ c23 c24 : Nat, kc + c23 ≤ mc ∧ ks + c24 ≤ ms ∧ w_MA_max z mi c23 c24 (fun (x26 : Int32) (g25 : Sg) => (∃ j27 : Nat, inA g25 a18 100 x14 j27 ∧ ∀ g28 : Sg, g28 = sI g25 a18 j27 x26 → post g28)) g x21 (x22 + (1 : Int32)))))))))) ∧ (¬ (16 : Int32) ≤ v2 → ∃ a30, v1 = some a30 ∧ (∃ j32 : Nat, inA g a30 100 v2 j32 ∧ ∀ x33 : Int32, x33 = aI g a30 j32 → (hasR g this 9 ∧ ∀ o34 : Option Nat, o34 = fR g 9 this → ∃ a35, o34 = some a35 ∧ (∃ j36 : Nat, inA g a35 100 v2 j36 ∧ ∀ x37 : Int32, x37 = aI g a35 j36 → (∃ c38 c39 : Nat, kc + c38 ≤ mc ∧ ks + c39 ≤ ms ∧ w_MA_max z mi c38 c39 (fun (x41 : Int32) (g40 : Sg) => (∃ j42 : Nat, inA g40 a30 100 v2 j42 ∧ ∀ g43 : Sg, g43 = sI g40 a30 j42 x41 → w_E_joinTo_2 z mi mc ms post n (kc + c38) (ks + c39) g43 this (some a30) (v2 + (1 : Int32)))) g x33 x37)))))
set_option maxHeartbeats 4000000 in
set_option maxRecDepth 100000 in
theorem s_E_joinTo_2 {p : Program} {l : Launch} {e : Env} {s : State} {m : MethodId} {args : Array Value} {below : List Frame} {meth : Method} {c : Code} {D : va_G} {cA : Nat → ClassId} {sz z mi mc ms : Nat} {post : Sg → Prop} (S : CallFix p m c b_E_joinTo 3 s args TBL "WeaveCore$Event") (hZ : Ws D cA sz z mi s) (hr : meth.sig.returnType = none) (hlk : meth.locks = false) :
    ∀ n : Nat, ∀ (kc ks : Nat) (g : Sg) (this : Nat) (v1 : Option Nat) (v2 : Int32) (H : Heap) (locs : List Loc) (ls : Array Slot), kc ≤ mc ∧ ks ≤ ms → w_E_joinTo_2 z mi mc ms post n kc ks g this v1 v2 → WP D cA sz g H → va_S (oA sz) s.heap H locs → lv_has ls 3 [(0, .ref this), (1, va_rf v1), (2, .int v2)] → W p l e ({ frames := 1, cells := mc, slots := ms, locals := 21 } : Room) s m args below meth c H locs kc ks (MQ below (Qg D cA sz (pV post)) args s mc ms (oA sz)) (F0 m 2 ls []) := by
  obtain ⟨hx, hb, hml, hown, hts⟩ := id S
  intro n
  induction n with
  | zero =>
    intro kc ks g this v1 v2 H locs ls hk h hG hS hl
    exact h.elim
  | succ n ih =>
    intro kc ks g this v1 v2 H locs ls hk h hG hS hl
    refine lv_iload_n hx hb d_E_joinTo_2 rfl (lv_at hl 2 rfl) ?_
    refine lv_bipush (v := (16 : Int32)) hx hb d_E_joinTo_3 (by decide) ?_
    refine lv_icmp_ge (tgt := 29) hx hb d_E_joinTo_5 (by decide) (fun c9 => ?_) (fun c9 => ?_)
    · replace h := h.1 c9
      refine q_aload_n hx hb d_E_joinTo_29 rfl (lv_at hl 1 rfl) ?_
      refine lv_aload_n hx hb d_E_joinTo_30 rfl (lv_at hl 0 rfl) ?_
      refine r_getR (f := 7) S hZ hG rfl h.1 (hts _ tw_113) (fun _ h9 => h9) d_E_joinTo_31 (fun o12 e9 => ?_)
      replace h := h.2 o12 e9
      obtain ⟨a13, e9, h⟩ := h
      subst e9
      refine r_getI (f := 5) S hZ hG rfl h.1 (hts _ tw_76) (fun _ h9 => h9) d_E_joinTo_34 (fun x14 e9 => ?_)
      replace h := h.2 x14 e9
      refine q_aload_n hx hb d_E_joinTo_37 rfl (lv_at hl 1 rfl) ?_
      refine lv_aload_n hx hb d_E_joinTo_38 rfl (lv_at hl 0 rfl) ?_
      refine r_getR (f := 7) S hZ hG rfl h.1 (hts _ tw_113) (fun _ h9 => h9) d_E_joinTo_39 (fun o15 e9 => ?_)
      replace h := h.2 o15 e9
      obtain ⟨a16, e9, h⟩ := h
      subst e9
      refine r_getI (f := 5) S hZ hG rfl h.1 (hts _ tw_76) (fun _ h9 => h9) d_E_joinTo_42 (fun x17 e9 => ?_)
      replace h := h.2 x17 e9
      obtain ⟨a18, e9, h⟩ := h
      subst e9
      have hl19 : lv_has ls 3 [(0, .ref this), (1, .ref a18), (2, .int v2)] := hl
      obtain ⟨j20, h9, h⟩ := h
      refine r_iald S hZ hG h9 d_E_joinTo_45 (fun x21 e9 => ?_)
      replace h := h x21 e9
      refine lv_aload_n hx hb d_E_joinTo_46 rfl (lv_at hl19 0 rfl) ?_
      refine r_getI (f := 8) S hZ hG rfl h.1 (hts _ tw_117) (fun _ h9 => h9) d_E_joinTo_47 (fun x22 e9 => ?_)
      replace h := h.2 x22 e9
      refine lv_iconst (v := (1 : Int32)) hx hb d_E_joinTo_50 (by decide) ?_
      refine lv_iadd hx hb d_E_joinTo_51 ?_
      obtain ⟨c23, c24, k1, k2, h⟩ := h
      refine q_callI (run_S (As := [.int x21, .int (x22 + (1 : Int32))]) (rest := [.int x14, .ref a18]) S hZ hG hS (s_MA_max h) tw_374 tw_372 tw_373 tw_19 nk_MA_max ⟨Nat.le_of_ble_eq_true rfl, Nat.le_of_ble_eq_true rfl⟩ rfl hl19.1 rfl (Nat.le_of_ble_eq_true rfl) d_E_joinTo_52 ⟨k1, k2⟩) hS (fun x26 g25 H locs h29 hG hS => ?_)
      have hk := And.intro k1 k2
      replace h := h29
      obtain ⟨j27, h9, h⟩ := h
      refine r_iast S hZ hG hS h9 d_E_joinTo_55 (fun g28 H locs e9 hG hS => ?_)
      replace h := h g28 e9
      exact r_vret S hr hlk hG hS h hk.1 hk.2 d_E_joinTo_56
    · replace h := h.2 c9
      refine q_aload_n hx hb d_E_joinTo_8 rfl (lv_at hl 1 rfl) ?_
      refine lv_iload_n hx hb d_E_joinTo_9 rfl (lv_at hl 2 rfl) ?_
      refine q_aload_n hx hb d_E_joinTo_10 rfl (lv_at hl 1 rfl) ?_
      refine lv_iload_n hx hb d_E_joinTo_11 rfl (lv_at hl 2 rfl) ?_
      obtain ⟨a30, e9, h⟩ := h
      subst e9
      have hl31 : lv_has ls 3 [(0, .ref this), (1, .ref a30), (2, .int v2)] := hl
      obtain ⟨j32, h9, h⟩ := h
      refine r_iald S hZ hG h9 d_E_joinTo_12 (fun x33 e9 => ?_)
      replace h := h x33 e9
      refine lv_aload_n hx hb d_E_joinTo_13 rfl (lv_at hl31 0 rfl) ?_
      refine r_getR (f := 9) S hZ hG rfl h.1 (hts _ tw_120) (fun _ h9 => h9) d_E_joinTo_14 (fun o34 e9 => ?_)
      replace h := h.2 o34 e9
      refine lv_iload_n hx hb d_E_joinTo_17 rfl (lv_at hl31 2 rfl) ?_
      obtain ⟨a35, e9, h⟩ := h
      subst e9
      obtain ⟨j36, h9, h⟩ := h
      refine r_iald S hZ hG h9 d_E_joinTo_18 (fun x37 e9 => ?_)
      replace h := h x37 e9
      obtain ⟨c38, c39, k1, k2, h⟩ := h
      refine q_callI (run_S (As := [.int x33, .int x37]) (rest := [.int v2, .ref a30]) S hZ hG hS (s_MA_max h) tw_374 tw_372 tw_373 tw_19 nk_MA_max ⟨Nat.le_of_ble_eq_true rfl, Nat.le_of_ble_eq_true rfl⟩ rfl hl31.1 rfl (Nat.le_of_ble_eq_true rfl) d_E_joinTo_19 ⟨k1, k2⟩) hS (fun x41 g40 H locs h45 hG hS => ?_)
      have hk := And.intro k1 k2
      replace h := h45
      obtain ⟨j42, h9, h⟩ := h
      refine r_iast S hZ hG hS h9 d_E_joinTo_22 (fun g43 H locs e9 hG hS => ?_)
      replace h := h g43 e9
      refine q_iinc (k := 2) (v := v2 + (1 : Int32)) (lv' := [(2, .int (v2 + (1 : Int32))), (0, .ref this), (1, .ref a30)]) hx hb d_E_joinTo_23 hl31 rfl rfl (by decide) (.n (.k 0 rfl (by decide) (by decide) (.c 1 rfl (by decide) rfl .e))) (fun ls44 hl44 => ?_)
      refine lv_goto (tgt := 2) hx hb d_E_joinTo_26 (by decide) ?_
      exact ih _ _ _ _ _ _ _ _ _ hk h hG hS (lv_sub hl44 [1, 2, 0] rfl)
def w_E_joinTo (z mi mc ms : Nat) (post : Sg → Prop) (g : Sg) (this : Nat) (p0 : Option Nat) : Prop := (∃ n46 : Nat, w_E_joinTo_2 z mi mc ms post n46 0 0 g this p0 (0 : Int32))
set_option maxHeartbeats 4000000 in
set_option maxRecDepth 100000 in
theorem s_E_joinTo {l : Launch} {D : va_G} {cA : Nat → ClassId} {sz z mi mc ms : Nat} {g : Sg} {post : Sg → Prop} {this : Nat} {p0 : Option Nat} (h : w_E_joinTo z mi mc ms post g this p0) : Met l y_E_joinTo (Cond.code y_E_joinTo b_E_joinTo 3 none :: TBL) ({ frames := 1, cells := mc, slots := ms, locals := 21 } : Room) (Pg D cA sz z mi [.ref this, va_rf p0] g) (Qg D cA sz (pV post)) mc ms (oA sz) := by
  refine m_code (lv := [(0, .ref this), (1, va_rf p0)]) (by decide +kernel) (by simp [lg_sl, rf_cat, cat_i, cat_r, cat_l]) (by simp [lv_args, rf_cat, cat_i, cat_r, cat_l]) ?_
  intro p e s m below meth c ls S hr hlk hnm hZ hG hS hl
  obtain ⟨hx, hb, hml, hown, hts⟩ := id S
  have hk : 0 ≤ mc ∧ 0 ≤ ms := ⟨Nat.zero_le _, Nat.zero_le _⟩
  refine lv_iconst (v := (0 : Int32)) hx hb d_E_joinTo_0 (by decide) ?_
  refine q_istore_n (lv' := [(2, .int ((0 : Int32))), (0, .ref this), (1, va_rf p0)]) hx hb d_E_joinTo_1 rfl hl (by decide) (.n (.k 0 rfl (by decide) (by decide) (.c 1 rfl (by decide) (rf_cat _) .e))) (fun ls11 hl11 => ?_)
  obtain ⟨n46, h⟩ := h
  exact s_E_joinTo_2 S hZ hr hlk n46 _ _ _ _ _ _ _ _ _ hk h hG hS (lv_sub hl11 [1, 2, 0] rfl)
def w_C_lookFromList_10 (z mi mc ms : Nat) (post : Sg → Prop) : Nat → Nat → Nat → Sg → Nat → Int32 → Prop
  | 0 => fun _ _ _ _ _ => False
  | n + 1 => fun kc ks g this v1 => (hasI g this 27 ∧ ∀ x16 : Int32, x16 = fI g 27 this → (x16 ≤ v1 → post g) ∧ (¬ x16 ≤ v1 → (hasR g this 24 ∧ ∀ o17 : Option Nat, o17 = fR g 24 this → ∃ a18, o17 = some a18 ∧ (∃ j19 : Nat, inA g a18 105 v1 j19 ∧ ∀ o20 : Option Nat, o20 = aR g a18 j19 → (hasR g this 25 ∧ ∀ o21 : Option Nat, o21 = fR g 25 this → ∃ a22, o20 = some a22 ∧ (isK g a22 [2, 3] ∧ ∃ c23 c24 : Nat, kc + c23 ≤ mc ∧ ks + c24 ≤ ms ∧ w_E_joinTo z mi c23 c24 (fun (g25 : Sg) => w_C_lookFromList_10 z mi mc ms post n (kc + c23) (ks + c24) g25 this (v1 + (1 : Int32))) g a22 o21))))))
set_option maxHeartbeats 4000000 in
set_option maxRecDepth 100000 in
theorem s_C_lookFromList_10 {p : Program} {l : Launch} {e : Env} {s : State} {m : MethodId} {args : Array Value} {below : List Frame} {meth : Method} {c : Code} {D : va_G} {cA : Nat → ClassId} {sz z mi mc ms : Nat} {post : Sg → Prop} (S : CallFix p m c b_C_lookFromList 2 s args TBL "WeaveCore") (hZ : Ws D cA sz z mi s) (hr : meth.sig.returnType = none) (hlk : meth.locks = false) :
    ∀ n : Nat, ∀ (kc ks : Nat) (g : Sg) (this : Nat) (v1 : Int32) (H : Heap) (locs : List Loc) (ls : Array Slot), kc ≤ mc ∧ ks ≤ ms → w_C_lookFromList_10 z mi mc ms post n kc ks g this v1 → WP D cA sz g H → va_S (oA sz) s.heap H locs → lv_has ls 2 [(0, .ref this), (1, .int v1)] → W p l e ({ frames := 2, cells := mc, slots := ms, locals := 43 } : Room) s m args below meth c H locs kc ks (MQ below (Qg D cA sz (pV post)) args s mc ms (oA sz)) (F0 m 10 ls []) := by
  obtain ⟨hx, hb, hml, hown, hts⟩ := id S
  intro n
  induction n with
  | zero =>
    intro kc ks g this v1 H locs ls hk h hG hS hl
    exact h.elim
  | succ n ih =>
    intro kc ks g this v1 H locs ls hk h hG hS hl
    refine lv_iload_n hx hb d_C_lookFromList_10 rfl (lv_at hl 1 rfl) ?_
    refine lv_aload_n hx hb d_C_lookFromList_11 rfl (lv_at hl 0 rfl) ?_
    refine r_getI (f := 27) S hZ hG rfl h.1 (hts _ tw_158) (fun _ h9 => h9) d_C_lookFromList_12 (fun x16 e9 => ?_)
    replace h := h.2 x16 e9
    refine lv_icmp_ge (tgt := 37) hx hb d_C_lookFromList_15 (by decide) (fun c9 => ?_) (fun c9 => ?_)
    · replace h := h.1 c9
      exact r_vret S hr hlk hG hS h hk.1 hk.2 d_C_lookFromList_37
    · replace h := h.2 c9
      refine lv_aload_n hx hb d_C_lookFromList_18 rfl (lv_at hl 0 rfl) ?_
      refine r_getR (f := 24) S hZ hG rfl h.1 (hts _ tw_155) (fun _ h9 => h9) d_C_lookFromList_19 (fun o17 e9 => ?_)
      replace h := h.2 o17 e9
      refine lv_iload_n hx hb d_C_lookFromList_22 rfl (lv_at hl 1 rfl) ?_
      obtain ⟨a18, e9, h⟩ := h
      subst e9
      obtain ⟨j19, h9, h⟩ := h
      refine r_aald (k := 105) S hZ hG h9 (by decide) rfl d_C_lookFromList_23 (fun o20 e9 => ?_)
      replace h := h o20 e9
      refine lv_aload_n hx hb d_C_lookFromList_24 rfl (lv_at hl 0 rfl) ?_
      refine r_getR (f := 25) S hZ hG rfl h.1 (hts _ tw_156) (fun _ h9 => h9) d_C_lookFromList_25 (fun o21 e9 => ?_)
      replace h := h.2 o21 e9
      obtain ⟨a22, e9, h⟩ := h
      subst e9
      obtain ⟨h9, h⟩ := h
      obtain ⟨c23, c24, k1, k2, h⟩ := h
      refine q_callV (run_E (As := [va_rf o21]) (rest := []) S hZ hG hS (s_E_joinTo h) tw_371 tw_366 tw_368 tw_369 tw_370 tw_367 tw_5 rfl nk_E_joinTo h9 ⟨Nat.le_of_ble_eq_true rfl, Nat.le_of_ble_eq_true rfl⟩ rfl hl.1 rfl (by decide) d_C_lookFromList_28 ⟨k1, k2⟩) hS (fun g25 H locs h27 hG hS => ?_)
      have hk := And.intro k1 k2
      replace h := h27
      refine q_iinc (k := 1) (v := v1 + (1 : Int32)) (lv' := [(1, .int (v1 + (1 : Int32))), (0, .ref this)]) hx hb d_C_lookFromList_31 hl rfl rfl (by decide) (.n (.c 0 rfl (by decide) rfl .e)) (fun ls26 hl26 => ?_)
      refine lv_goto (tgt := 10) hx hb d_C_lookFromList_34 (by decide) ?_
      exact ih _ _ _ _ _ _ _ _ hk h hG hS (lv_sub hl26 [1, 0] rfl)
def w_C_lookFromList (z mi mc ms : Nat) (post : Sg → Prop) (g : Sg) (this : Nat) : Prop := (hasR g this 25 ∧ ∀ o11 : Option Nat, o11 = fR g 25 this → (∃ c12 c13 : Nat, 0 + c12 ≤ mc ∧ 0 + c13 ≤ ms ∧ w_AR_fillI z mi c12 c13 (fun (g14 : Sg) => (∃ n28 : Nat, w_C_lookFromList_10 z mi mc ms post n28 (0 + c12) (0 + c13) g14 this (0 : Int32))) g o11 (0 : Int32)))
set_option maxHeartbeats 4000000 in
set_option maxRecDepth 100000 in
theorem s_C_lookFromList {l : Launch} {D : va_G} {cA : Nat → ClassId} {sz z mi mc ms : Nat} {g : Sg} {post : Sg → Prop} {this : Nat} (h : w_C_lookFromList z mi mc ms post g this) : Met l y_C_lookFromList (Cond.code y_C_lookFromList b_C_lookFromList 2 none :: TBL) ({ frames := 2, cells := mc, slots := ms, locals := 43 } : Room) (Pg D cA sz z mi [.ref this] g) (Qg D cA sz (pV post)) mc ms (oA sz) := by
  refine m_code (lv := [(0, .ref this)]) (by decide +kernel) (Nat.le_of_ble_eq_true rfl) rfl ?_
  intro p e s m below meth c ls S hr hlk hnm hZ hG hS hl
  obtain ⟨hx, hb, hml, hown, hts⟩ := id S
  have hk : 0 ≤ mc ∧ 0 ≤ ms := ⟨Nat.zero_le _, Nat.zero_le _⟩
  refine lv_aload_n hx hb d_C_lookFromList_0 rfl (lv_at hl 0 rfl) ?_
  refine r_getR (f := 25) S hZ hG rfl h.1 (hts _ tw_156) (fun _ h9 => h9) d_C_lookFromList_1 (fun o11 e9 => ?_)
  replace h := h.2 o11 e9
  refine lv_iconst (v := (0 : Int32)) hx hb d_C_lookFromList_4 (by decide) ?_
  obtain ⟨c12, c13, k1, k2, h⟩ := h
  refine q_callV (run_S (As := [va_rf o11, .int ((0 : Int32))]) (rest := []) S hZ hG hS (s_AR_fillI h) tw_365 tw_363 tw_364 tw_18 nk_AR_fillI ⟨Nat.le_of_ble_eq_true rfl, Nat.le_of_ble_eq_true rfl⟩ rfl hl.1 rfl (by decide) d_C_lookFromList_5 ⟨k1, k2⟩) hS (fun g14 H locs h29 hG hS => ?_)
  have hk := And.intro k1 k2
  replace h := h29
  refine lv_iconst (v := (0 : Int32)) hx hb d_C_lookFromList_8 (by decide) ?_
  refine q_istore_n (lv' := [(1, .int ((0 : Int32))), (0, .ref this)]) hx hb d_C_lookFromList_9 rfl hl (by decide) (.n (.c 0 rfl (by decide) rfl .e)) (fun ls15 hl15 => ?_)
  obtain ⟨n28, h⟩ := h
  exact s_C_lookFromList_10 S hZ hr hlk n28 _ _ _ _ _ _ _ _ hk h hG hS (lv_sub hl15 [1, 0] rfl)
def w_N_isSeenIn_15 (z mi mc ms : Nat) (post : Int32 → Sg → Prop) : Nat → Nat → Nat → Sg → Option Nat → Option Nat → Prop
  | 0 => fun _ _ _ _ _ => False
  | n + 1 => fun kc ks g v1 v2 => (v2 = none → post (1 : Int32) g) ∧ (∀ a17, v2 = some a17 → (isK g a17 [2] ∧ ∃ c20 c21 : Nat, kc + c20 ≤ mc ∧ ks + c21 ≤ ms ∧ w_E_isIn z mi c20 c21 (fun (x23 : Int32) (g22 : Sg) => (x23 = 0 → (hasR g22 a17 12 ∧ ∀ o24 : Option Nat, o24 = fR g22 12 a17 → w_N_isSeenIn_15 z mi mc ms post n (kc + c20) (ks + c21) g22 v1 o24)) ∧ (¬ x23 = 0 → post (0 : Int32) g22)) g a17 v1))
set_option maxHeartbeats 4000000 in
set_option maxRecDepth 100000 in
theorem s_N_isSeenIn_15 {p : Program} {l : Launch} {e : Env} {s : State} {m : MethodId} {args : Array Value} {below : List Frame} {meth : Method} {c : Code} {D : va_G} {cA : Nat → ClassId} {sz z mi mc ms : Nat} {post : Int32 → Sg → Prop} (S : CallFix p m c b_N_isSeenIn 3 s args TBL "WeaveCore$Node") (hZ : Ws D cA sz z mi s) (hr : meth.sig.returnType = (some FieldType.boolean)) (hlk : meth.locks = false) :
    ∀ n : Nat, ∀ (kc ks : Nat) (g : Sg) (v1 : Option Nat) (v2 : Option Nat) (H : Heap) (locs : List Loc) (ls : Array Slot), kc ≤ mc ∧ ks ≤ ms → w_N_isSeenIn_15 z mi mc ms post n kc ks g v1 v2 → WP D cA sz g H → va_S (oA sz) s.heap H locs → lv_has ls 3 [(1, va_rf v1), (2, va_rf v2)] → W p l e ({ frames := 1, cells := mc, slots := ms, locals := 21 } : Room) s m args below meth c H locs kc ks (MQ below (Qg D cA sz (pI post)) args s mc ms (oA sz)) (F0 m 15 ls []) := by
  obtain ⟨hx, hb, hml, hown, hts⟩ := id S
  intro n
  induction n with
  | zero =>
    intro kc ks g v1 v2 H locs ls hk h hG hS hl
    exact h.elim
  | succ n ih =>
    intro kc ks g v1 v2 H locs ls hk h hG hS hl
    refine q_aload_n hx hb d_N_isSeenIn_15 rfl (lv_at hl 1 rfl) ?_
    refine q_ifnull (tgt := 37) hx hb d_N_isSeenIn_16 (by decide) (fun e9 => ?_) (fun a17 e9 => ?_)
    · replace h := h.1 e9
      subst e9
      have hl18 : lv_has ls 3 [(1, va_rf v1), (2, .null)] := hl
      refine lv_iconst (v := (1 : Int32)) hx hb d_N_isSeenIn_37 (by decide) ?_
      exact r_zret (v := (1 : Int32)) S hr hlk rfl hG hS h hk.1 hk.2 d_N_isSeenIn_38
    · replace h := h.2 a17 e9
      subst e9
      have hl19 : lv_has ls 3 [(1, va_rf v1), (2, .ref a17)] := hl
      refine lv_aload_n hx hb d_N_isSeenIn_19 rfl (lv_at hl19 1 rfl) ?_
      refine q_aload_n hx hb d_N_isSeenIn_20 rfl (lv_at hl19 0 rfl) ?_
      obtain ⟨h9, h⟩ := h
      obtain ⟨c20, c21, k1, k2, h⟩ := h
      obtain ⟨n9, h9⟩ := isK1 h9
      refine q_callI (run_U (As := [va_rf v1]) (rest := []) S hZ hG hS (s_E_isIn h) tw_220 tw_391 tw_392 tw_393 tw_216 tw_5 rfl nk_E_isIn h9 (by decide) rfl ⟨Nat.le_of_ble_eq_true rfl, Nat.le_of_ble_eq_true rfl⟩ rfl hl19.1 rfl (by decide) d_N_isSeenIn_21 ⟨k1, k2⟩) hS (fun x23 g22 H locs h26 hG hS => ?_)
      have hk := And.intro k1 k2
      replace h := h26
      refine lv_if_eq (tgt := 29) hx hb d_N_isSeenIn_24 (by decide) (fun c9 => ?_) (fun c9 => ?_)
      · replace h := h.1 c9
        refine lv_aload_n hx hb d_N_isSeenIn_29 rfl (lv_at hl19 1 rfl) ?_
        refine r_getR (f := 12) S hZ hG rfl h.1 (hts _ tw_603) (fun _ h9 => h9) d_N_isSeenIn_30 (fun o24 e9 => ?_)
        replace h := h.2 o24 e9
        refine q_astore_n (o := o24) (lv' := [(2, va_rf o24), (1, va_rf v1)]) hx hb d_N_isSeenIn_33 rfl hl19 (by decide) (.n (.c 0 rfl (by decide) (rf_cat _) .e)) (fun ls25 hl25 => ?_)
        refine lv_goto (tgt := 15) hx hb d_N_isSeenIn_34 (by decide) ?_
        exact ih _ _ _ _ _ _ _ _ hk h hG hS (lv_sub hl25 [1, 0] rfl)
      · replace h := h.2 c9
        refine lv_iconst (v := (0 : Int32)) hx hb d_N_isSeenIn_27 (by decide) ?_
        exact r_zret (v := (0 : Int32)) S hr hlk rfl hG hS h hk.1 hk.2 d_N_isSeenIn_28
def w_N_isSeenIn (z mi mc ms : Nat) (post : Int32 → Sg → Prop) (g : Sg) (this : Nat) (p0 : Option Nat) : Prop := (isK g this [3] ∧ ∃ c11 c12 : Nat, 0 + c11 ≤ mc ∧ 0 + c12 ≤ ms ∧ w_E_isIn z mi c11 c12 (fun (x14 : Int32) (g13 : Sg) => (¬ x14 = 0 → (hasR g13 this 19 ∧ ∀ o15 : Option Nat, o15 = fR g13 19 this → (∃ n27 : Nat, w_N_isSeenIn_15 z mi mc ms post n27 (0 + c11) (0 + c12) g13 p0 o15))) ∧ (x14 = 0 → post (0 : Int32) g13)) g this p0)
set_option maxHeartbeats 4000000 in
set_option maxRecDepth 100000 in
theorem s_N_isSeenIn {l : Launch} {D : va_G} {cA : Nat → ClassId} {sz z mi mc ms : Nat} {g : Sg} {post : Int32 → Sg → Prop} {this : Nat} {p0 : Option Nat} (h : w_N_isSeenIn z mi mc ms post g this p0) : Met l y_N_isSeenIn (Cond.code y_N_isSeenIn b_N_isSeenIn 3 (some FieldType.boolean) :: TBL) ({ frames := 1, cells := mc, slots := ms, locals := 21 } : Room) (Pg D cA sz z mi [.ref this, va_rf p0] g) (Qg D cA sz (pI post)) mc ms (oA sz) := by
  refine m_code (lv := [(0, .ref this), (1, va_rf p0)]) (by decide +kernel) (by simp [lg_sl, rf_cat, cat_i, cat_r, cat_l]) (by simp [lv_args, rf_cat, cat_i, cat_r, cat_l]) ?_
  intro p e s m below meth c ls S hr hlk hnm hZ hG hS hl
  obtain ⟨hx, hb, hml, hown, hts⟩ := id S
  have hk : 0 ≤ mc ∧ 0 ≤ ms := ⟨Nat.zero_le _, Nat.zero_le _⟩
  refine lv_aload_n hx hb d_N_isSeenIn_0 rfl (lv_at hl 0 rfl) ?_
  refine q_aload_n hx hb d_N_isSeenIn_1 rfl (lv_at hl 1 rfl) ?_
  obtain ⟨h9, h⟩ := h
  obtain ⟨c11, c12, k1, k2, h⟩ := h
  obtain ⟨n9, h9⟩ := isK1 h9
  refine q_callI (run_U (As := [va_rf p0]) (rest := []) S hZ hG hS (s_E_isIn h) tw_220 tw_387 tw_388 tw_390 tw_216 tw_5 rfl nk_E_isIn h9 (by decide) rfl ⟨Nat.le_of_ble_eq_true rfl, Nat.le_of_ble_eq_true rfl⟩ rfl hl.1 rfl (by decide) d_N_isSeenIn_2 ⟨k1, k2⟩) hS (fun x14 g13 H locs h28 hG hS => ?_)
  have hk := And.intro k1 k2
  replace h := h28
  refine lv_if_ne (tgt := 10) hx hb d_N_isSeenIn_5 (by decide) (fun c9 => ?_) (fun c9 => ?_)
  · replace h := h.1 c9
    refine lv_aload_n hx hb d_N_isSeenIn_10 rfl (lv_at hl 0 rfl) ?_
    refine r_getR (f := 19) S hZ hG rfl h.1 (hts _ tw_109) (fun _ h9 => h9) d_N_isSeenIn_11 (fun o15 e9 => ?_)
    replace h := h.2 o15 e9
    refine q_astore_n (o := o15) (lv' := [(2, va_rf o15), (0, .ref this), (1, va_rf p0)]) hx hb d_N_isSeenIn_14 rfl hl (by decide) (.n (.k 0 rfl (by decide) (by decide) (.c 1 rfl (by decide) (rf_cat _) .e))) (fun ls16 hl16 => ?_)
    obtain ⟨n27, h⟩ := h
    exact s_N_isSeenIn_15 S hZ hr hlk n27 _ _ _ _ _ _ _ _ hk h hG hS (lv_sub hl16 [2, 0] rfl)
  · replace h := h.2 c9
    refine lv_iconst (v := (0 : Int32)) hx hb d_N_isSeenIn_8 (by decide) ?_
    exact r_zret (v := (0 : Int32)) S hr hlk rfl hG hS h hk.1 hk.2 d_N_isSeenIn_9
def w_C_nextSeen_5 (z mi mc ms : Nat) (post : Option Nat → Sg → Prop) : Nat → Nat → Nat → Sg → Nat → Option Nat → Prop
  | 0 => fun _ _ _ _ _ => False
  | n + 1 => fun kc ks g this v2 => (v2 = none → post none g) ∧ (∀ a15, v2 = some a15 → (hasR g this 25 ∧ ∀ o18 : Option Nat, o18 = fR g 25 this → (isK g a15 [3] ∧ ∃ c19 c20 : Nat, kc + c19 ≤ mc ∧ ks + c20 ≤ ms ∧ w_N_isSeenIn z mi c19 c20 (fun (x22 : Int32) (g21 : Sg) => (x22 = 0 → (hasR g21 a15 18 ∧ ∀ o23 : Option Nat, o23 = fR g21 18 a15 → w_C_nextSeen_5 z mi mc ms post n (kc + c19) (ks + c20) g21 this o23)) ∧ (¬ x22 = 0 → post (some a15) g21)) g a15 o18)))
set_option maxHeartbeats 4000000 in
set_option maxRecDepth 100000 in
theorem s_C_nextSeen_5 {p : Program} {l : Launch} {e : Env} {s : State} {m : MethodId} {args : Array Value} {below : List Frame} {meth : Method} {c : Code} {D : va_G} {cA : Nat → ClassId} {sz z mi mc ms : Nat} {post : Option Nat → Sg → Prop} (S : CallFix p m c b_C_nextSeen 3 s args TBL "WeaveCore") (hZ : Ws D cA sz z mi s) (hr : meth.sig.returnType = (some (FieldType.object "WeaveCore$Node"))) (hlk : meth.locks = false) :
    ∀ n : Nat, ∀ (kc ks : Nat) (g : Sg) (this : Nat) (v2 : Option Nat) (H : Heap) (locs : List Loc) (ls : Array Slot), kc ≤ mc ∧ ks ≤ ms → w_C_nextSeen_5 z mi mc ms post n kc ks g this v2 → WP D cA sz g H → va_S (oA sz) s.heap H locs → lv_has ls 3 [(0, .ref this), (2, va_rf v2)] → W p l e ({ frames := 2, cells := mc, slots := ms, locals := 43 } : Room) s m args below meth c H locs kc ks (MQ below (Qg D cA sz (pR post)) args s mc ms (oA sz)) (F0 m 5 ls []) := by
  obtain ⟨hx, hb, hml, hown, hts⟩ := id S
  intro n
  induction n with
  | zero =>
    intro kc ks g this v2 H locs ls hk h hG hS hl
    exact h.elim
  | succ n ih =>
    intro kc ks g this v2 H locs ls hk h hG hS hl
    refine q_aload_n hx hb d_C_nextSeen_5 rfl (lv_at hl 1 rfl) ?_
    refine q_ifnull (tgt := 30) hx hb d_C_nextSeen_6 (by decide) (fun e9 => ?_) (fun a15 e9 => ?_)
    · replace h := h.1 e9
      subst e9
      have hl16 : lv_has ls 3 [(0, .ref this), (2, .null)] := hl
      refine lv_null hx hb d_C_nextSeen_30 ?_
      exact r_aret (o := none) S hr (Or.inl ⟨_, rfl⟩) hlk hG hS h hk.1 hk.2 d_C_nextSeen_31
    · replace h := h.2 a15 e9
      subst e9
      have hl17 : lv_has ls 3 [(0, .ref this), (2, .ref a15)] := hl
      refine lv_aload_n hx hb d_C_nextSeen_9 rfl (lv_at hl17 1 rfl) ?_
      refine lv_aload_n hx hb d_C_nextSeen_10 rfl (lv_at hl17 0 rfl) ?_
      refine r_getR (f := 25) S hZ hG rfl h.1 (hts _ tw_156) (fun _ h9 => h9) d_C_nextSeen_11 (fun o18 e9 => ?_)
      replace h := h.2 o18 e9
      obtain ⟨h9, h⟩ := h
      obtain ⟨c19, c20, k1, k2, h⟩ := h
      obtain ⟨n9, h9⟩ := isK1 h9
      refine q_callI (run_V (As := [va_rf o18]) (rest := []) S hZ hG hS (s_N_isSeenIn h) tw_386 tw_383 tw_384 tw_385 tw_6 nk_N_isSeenIn h9 (by decide) rfl ⟨Nat.le_of_ble_eq_true rfl, Nat.le_of_ble_eq_true rfl⟩ rfl hl17.1 rfl (by decide) d_C_nextSeen_14 ⟨k1, k2⟩) hS (fun x22 g21 H locs h25 hG hS => ?_)
      have hk := And.intro k1 k2
      replace h := h25
      refine lv_if_eq (tgt := 22) hx hb d_C_nextSeen_17 (by decide) (fun c9 => ?_) (fun c9 => ?_)
      · replace h := h.1 c9
        refine lv_aload_n hx hb d_C_nextSeen_22 rfl (lv_at hl17 1 rfl) ?_
        refine r_getR (f := 18) S hZ hG rfl h.1 (hts _ tw_108) (fun _ h9 => h9) d_C_nextSeen_23 (fun o23 e9 => ?_)
        replace h := h.2 o23 e9
        refine q_astore_n (o := o23) (lv' := [(2, va_rf o23), (0, .ref this)]) hx hb d_C_nextSeen_26 rfl hl17 (by decide) (.n (.k 0 rfl (by decide) (by decide) .e)) (fun ls24 hl24 => ?_)
        refine lv_goto (tgt := 5) hx hb d_C_nextSeen_27 (by decide) ?_
        exact ih _ _ _ _ _ _ _ _ hk h hG hS (lv_sub hl24 [1, 0] rfl)
      · replace h := h.2 c9
        refine lv_aload_n hx hb d_C_nextSeen_20 rfl (lv_at hl17 1 rfl) ?_
        exact r_aret (o := (some a15)) S hr (Or.inl ⟨_, rfl⟩) hlk hG hS h hk.1 hk.2 d_C_nextSeen_21
def w_C_nextSeen (z mi mc ms : Nat) (post : Option Nat → Sg → Prop) (g : Sg) (this : Nat) (p0 : Option Nat) : Prop := ∃ a11, p0 = some a11 ∧ (hasR g a11 18 ∧ ∀ o13 : Option Nat, o13 = fR g 18 a11 → (∃ n26 : Nat, w_C_nextSeen_5 z mi mc ms post n26 0 0 g this o13))
set_option maxHeartbeats 4000000 in
set_option maxRecDepth 100000 in
theorem s_C_nextSeen {l : Launch} {D : va_G} {cA : Nat → ClassId} {sz z mi mc ms : Nat} {g : Sg} {post : Option Nat → Sg → Prop} {this : Nat} {p0 : Option Nat} (h : w_C_nextSeen z mi mc ms post g this p0) : Met l y_C_nextSeen (Cond.code y_C_nextSeen b_C_nextSeen 3 (some (FieldType.object "WeaveCore$Node")) :: TBL) ({ frames := 2, cells := mc, slots := ms, locals := 43 } : Room) (Pg D cA sz z mi [.ref this, va_rf p0] g) (Qg D cA sz (pR post)) mc ms (oA sz) := by
  refine m_code (lv := [(0, .ref this), (1, va_rf p0)]) (by decide +kernel) (by simp [lg_sl, rf_cat, cat_i, cat_r, cat_l]) (by simp [lv_args, rf_cat, cat_i, cat_r, cat_l]) ?_
  intro p e s m below meth c ls S hr hlk hnm hZ hG hS hl
  obtain ⟨hx, hb, hml, hown, hts⟩ := id S
  have hk : 0 ≤ mc ∧ 0 ≤ ms := ⟨Nat.zero_le _, Nat.zero_le _⟩
  refine q_aload_n hx hb d_C_nextSeen_0 rfl (lv_at hl 1 rfl) ?_
  obtain ⟨a11, e9, h⟩ := h
  subst e9
  have hl12 : lv_has ls 3 [(0, .ref this), (1, .ref a11)] := hl
  refine r_getR (f := 18) S hZ hG rfl h.1 (hts _ tw_108) (fun _ h9 => h9) d_C_nextSeen_1 (fun o13 e9 => ?_)
  replace h := h.2 o13 e9
  refine q_astore_n (o := o13) (lv' := [(2, va_rf o13), (0, .ref this), (1, .ref a11)]) hx hb d_C_nextSeen_4 rfl hl12 (by decide) (.n (.k 0 rfl (by decide) (by decide) (.c 1 rfl (by decide) rfl .e))) (fun ls14 hl14 => ?_)
  obtain ⟨n26, h⟩ := h
  exact s_C_nextSeen_5 S hZ hr hlk n26 _ _ _ _ _ _ _ _ hk h hG hS (lv_sub hl14 [1, 0] rfl)
def w_C_countSeen_11 (z mi mc ms : Nat) (post : Int32 → Sg → Prop) : Nat → Nat → Nat → Sg → Nat → Int32 → Option Nat → Prop
  | 0 => fun _ _ _ _ _ _ => False
  | n + 1 => fun kc ks g this v1 v2 => (v2 = none → post v1 g) ∧ (∀ a18, v2 = some a18 → (isK g this [4] ∧ ∃ c22 c23 : Nat, kc + c22 ≤ mc ∧ ks + c23 ≤ ms ∧ w_C_nextSeen z mi c22 c23 (fun (o25 : Option Nat) (g24 : Sg) => w_C_countSeen_11 z mi mc ms post n (kc + c22) (ks + c23) g24 this (v1 + (1 : Int32)) o25) g this (some a18)))
set_option maxHeartbeats 4000000 in
set_option maxRecDepth 100000 in
theorem s_C_countSeen_11 {p : Program} {l : Launch} {e : Env} {s : State} {m : MethodId} {args : Array Value} {below : List Frame} {meth : Method} {c : Code} {D : va_G} {cA : Nat → ClassId} {sz z mi mc ms : Nat} {post : Int32 → Sg → Prop} (S : CallFix p m c b_C_countSeen 3 s args TBL "WeaveCore") (hZ : Ws D cA sz z mi s) (hr : meth.sig.returnType = (some FieldType.int)) (hlk : meth.locks = false) :
    ∀ n : Nat, ∀ (kc ks : Nat) (g : Sg) (this : Nat) (v1 : Int32) (v2 : Option Nat) (H : Heap) (locs : List Loc) (ls : Array Slot), kc ≤ mc ∧ ks ≤ ms → w_C_countSeen_11 z mi mc ms post n kc ks g this v1 v2 → WP D cA sz g H → va_S (oA sz) s.heap H locs → lv_has ls 3 [(0, .ref this), (1, .int v1), (2, va_rf v2)] → W p l e ({ frames := 3, cells := mc, slots := ms, locals := 65 } : Room) s m args below meth c H locs kc ks (MQ below (Qg D cA sz (pI post)) args s mc ms (oA sz)) (F0 m 11 ls []) := by
  obtain ⟨hx, hb, hml, hown, hts⟩ := id S
  intro n
  induction n with
  | zero =>
    intro kc ks g this v1 v2 H locs ls hk h hG hS hl
    exact h.elim
  | succ n ih =>
    intro kc ks g this v1 v2 H locs ls hk h hG hS hl
    refine q_aload_n hx hb d_C_countSeen_11 rfl (lv_at hl 2 rfl) ?_
    refine q_ifnull (tgt := 27) hx hb d_C_countSeen_12 (by decide) (fun e9 => ?_) (fun a18 e9 => ?_)
    · replace h := h.1 e9
      subst e9
      have hl19 : lv_has ls 3 [(0, .ref this), (1, .int v1), (2, .null)] := hl
      refine lv_iload_n hx hb d_C_countSeen_27 rfl (lv_at hl19 1 rfl) ?_
      exact r_iret (v := v1) S hr hlk hG hS h hk.1 hk.2 d_C_countSeen_28
    · replace h := h.2 a18 e9
      subst e9
      have hl20 : lv_has ls 3 [(0, .ref this), (1, .int v1), (2, .ref a18)] := hl
      refine q_iinc (k := 1) (v := v1 + (1 : Int32)) (lv' := [(1, .int (v1 + (1 : Int32))), (0, .ref this), (2, .ref a18)]) hx hb d_C_countSeen_15 hl20 rfl rfl (by decide) (.n (.c 0 rfl (by decide) rfl (.k 2 rfl (by decide) (by decide) .e))) (fun ls21 hl21 => ?_)
      refine lv_aload_n hx hb d_C_countSeen_18 rfl (lv_at hl21 1 rfl) ?_
      refine lv_aload_n hx hb d_C_countSeen_19 rfl (lv_at hl21 2 rfl) ?_
      obtain ⟨h9, h⟩ := h
      obtain ⟨c22, c23, k1, k2, h⟩ := h
      obtain ⟨n9, h9⟩ := isK1 h9
      refine q_callR (run_V (As := [va_rf (some a18)]) (rest := []) S hZ hG hS (s_C_nextSeen h) tw_382 tw_379 tw_381 tp_9 tw_1 nk_C_nextSeen h9 (by decide) rfl ⟨Nat.le_of_ble_eq_true rfl, Nat.le_of_ble_eq_true rfl⟩ rfl hl21.1 rfl (by decide) d_C_countSeen_20 ⟨k1, k2⟩) hS (fun o25 g24 H locs h27 hG hS => ?_)
      have hk := And.intro k1 k2
      replace h := h27
      refine q_astore_n (o := o25) (lv' := [(2, va_rf o25), (1, .int (v1 + (1 : Int32))), (0, .ref this)]) hx hb d_C_countSeen_23 rfl hl21 (by decide) (.n (.c 0 rfl (by decide) rfl (.k 1 rfl (by decide) (by decide) .e))) (fun ls26 hl26 => ?_)
      refine lv_goto (tgt := 11) hx hb d_C_countSeen_24 (by decide) ?_
      exact ih _ _ _ _ _ _ _ _ _ hk h hG hS (lv_sub hl26 [2, 1, 0] rfl)
def w_C_countSeen (z mi mc ms : Nat) (post : Int32 → Sg → Prop) (g : Sg) (this : Nat) : Prop := (hasR g this 23 ∧ ∀ o12 : Option Nat, o12 = fR g 23 this → (isK g this [4] ∧ ∃ c13 c14 : Nat, 0 + c13 ≤ mc ∧ 0 + c14 ≤ ms ∧ w_C_nextSeen z mi c13 c14 (fun (o16 : Option Nat) (g15 : Sg) => (∃ n28 : Nat, w_C_countSeen_11 z mi mc ms post n28 (0 + c13) (0 + c14) g15 this (0 : Int32) o16)) g this o12))
set_option maxHeartbeats 4000000 in
set_option maxRecDepth 100000 in
theorem s_C_countSeen {l : Launch} {D : va_G} {cA : Nat → ClassId} {sz z mi mc ms : Nat} {g : Sg} {post : Int32 → Sg → Prop} {this : Nat} (h : w_C_countSeen z mi mc ms post g this) : Met l y_C_countSeen (Cond.code y_C_countSeen b_C_countSeen 3 (some FieldType.int) :: TBL) ({ frames := 3, cells := mc, slots := ms, locals := 65 } : Room) (Pg D cA sz z mi [.ref this] g) (Qg D cA sz (pI post)) mc ms (oA sz) := by
  refine m_code (lv := [(0, .ref this)]) (by decide +kernel) (Nat.le_of_ble_eq_true rfl) rfl ?_
  intro p e s m below meth c ls S hr hlk hnm hZ hG hS hl
  obtain ⟨hx, hb, hml, hown, hts⟩ := id S
  have hk : 0 ≤ mc ∧ 0 ≤ ms := ⟨Nat.zero_le _, Nat.zero_le _⟩
  refine lv_iconst (v := (0 : Int32)) hx hb d_C_countSeen_0 (by decide) ?_
  refine q_istore_n (lv' := [(1, .int ((0 : Int32))), (0, .ref this)]) hx hb d_C_countSeen_1 rfl hl (by decide) (.n (.c 0 rfl (by decide) rfl .e)) (fun ls11 hl11 => ?_)
  refine lv_aload_n hx hb d_C_countSeen_2 rfl (lv_at hl11 1 rfl) ?_
  refine lv_aload_n hx hb d_C_countSeen_3 rfl (lv_at hl11 1 rfl) ?_
  refine r_getR (f := 23) S hZ hG rfl h.1 (hts _ tw_154) (fun _ h9 => h9) d_C_countSeen_4 (fun o12 e9 => ?_)
  replace h := h.2 o12 e9
  obtain ⟨h9, h⟩ := h
  obtain ⟨c13, c14, k1, k2, h⟩ := h
  obtain ⟨n9, h9⟩ := isK1 h9
  refine q_callR (run_V (As := [va_rf o12]) (rest := []) S hZ hG hS (s_C_nextSeen h) tw_382 tw_379 tw_381 tp_9 tw_1 nk_C_nextSeen h9 (by decide) rfl ⟨Nat.le_of_ble_eq_true rfl, Nat.le_of_ble_eq_true rfl⟩ rfl hl11.1 rfl (by decide) d_C_countSeen_7 ⟨k1, k2⟩) hS (fun o16 g15 H locs h29 hG hS => ?_)
  have hk := And.intro k1 k2
  replace h := h29
  refine q_astore_n (o := o16) (lv' := [(2, va_rf o16), (1, .int ((0 : Int32))), (0, .ref this)]) hx hb d_C_countSeen_10 rfl hl11 (by decide) (.n (.c 0 rfl (by decide) rfl (.k 1 rfl (by decide) (by decide) .e))) (fun ls17 hl17 => ?_)
  obtain ⟨n28, h⟩ := h
  exact s_C_countSeen_11 S hZ hr hlk n28 _ _ _ _ _ _ _ _ _ hk h hG hS (lv_sub hl17 [2, 1, 0] rfl)
def w_C_seen (z mi mc ms : Nat) (post : Int32 → Sg → Prop) (px : Nat → Sg → Prop) (g : Sg) (this : Nat) : Prop := (isK g this [4] ∧ ∃ c11 c12 : Nat, 0 + c11 ≤ mc ∧ 0 + c12 ≤ ms ∧ w_C_isListTangled z mi c11 c12 (fun (x14 : Int32) (g13 : Sg) => (x14 = 0 → (isK g13 this [4] ∧ ∃ c15 c16 : Nat, (0 + c11) + c15 ≤ mc ∧ (0 + c12) + c16 ≤ ms ∧ w_C_lookFromList z mi c15 c16 (fun (g17 : Sg) => (isK g17 this [4] ∧ ∃ c18 c19 : Nat, ((0 + c11) + c15) + c18 ≤ mc ∧ ((0 + c12) + c16) + c19 ≤ ms ∧ w_C_countSeen z mi c18 c19 (fun (x21 : Int32) (g20 : Sg) => post x21 g20) g17 this)) g13 this)) ∧ (¬ x14 = 0 → (0 + c11) + 1 ≤ mc ∧ (0 + c12) + 6 ≤ ms ∧ px 1 g13)) g this)
set_option maxHeartbeats 4000000 in
set_option maxRecDepth 100000 in
theorem s_C_seen {l : Launch} {D : va_G} {cA : Nat → ClassId} {sz z mi mc ms : Nat} {g : Sg} {post : Int32 → Sg → Prop} {px : Nat → Sg → Prop} {this : Nat} (hst : l.stackTraces = false) (h : w_C_seen z mi mc ms post px g this) : vx_Met l y_C_seen (Cond.code y_C_seen b_C_seen 1 (some FieldType.int) :: TBL) ({ frames := 6, cells := mc, slots := ms, locals := 90 } : Room) (Pg D cA sz z mi [.ref this] g) (Qg D cA sz (pI post)) (Xg D cA sz px) mc ms (oA sz) := by
  refine m_codeX (lv := [(0, .ref this)]) (by decide +kernel) (Nat.le_of_ble_eq_true rfl) rfl ?_
  intro p e s m below meth c ls hxt S hr hlk hnm hZ hG hS hl
  obtain ⟨hx, hb, hml, hown, hts⟩ := id S
  have hk : 0 ≤ mc ∧ 0 ≤ ms := ⟨Nat.zero_le _, Nat.zero_le _⟩
  refine lv_aload_n hx hb d_C_seen_0 rfl (lv_at hl 0 rfl) ?_
  obtain ⟨h9, h⟩ := h
  obtain ⟨c11, c12, k1, k2, h⟩ := h
  obtain ⟨n9, h9⟩ := isK1 h9
  refine q_callI (run_V (As := []) (rest := []) S hZ hG hS (s_C_isListTangled h) tw_358 tw_355 tw_357 tp_6 tw_1 nk_C_isListTangled h9 (by decide) rfl ⟨Nat.le_of_ble_eq_true rfl, Nat.le_of_ble_eq_true rfl⟩ rfl hl.1 rfl (by decide) d_C_seen_1 ⟨k1, k2⟩) hS (fun x14 g13 H locs h24 hG hS => ?_)
  have hk := And.intro k1 k2
  replace h := h24
  refine lv_if_eq (tgt := 15) hx hb d_C_seen_4 (by decide) (fun c9 => ?_) (fun c9 => ?_)
  · replace h := h.1 c9
    refine lv_aload_n hx hb d_C_seen_15 rfl (lv_at hl 0 rfl) ?_
    obtain ⟨h9, h⟩ := h
    obtain ⟨c15, c16, k1, k2, h⟩ := h
    obtain ⟨n9, h9⟩ := isK1 h9
    refine q_callV (run_V (As := []) (rest := []) S hZ hG hS (s_C_lookFromList h) tw_362 tw_359 tw_361 tp_7 tw_1 nk_C_lookFromList h9 (by decide) rfl ⟨Nat.le_of_ble_eq_true rfl, Nat.le_of_ble_eq_true rfl⟩ rfl hl.1 rfl (by decide) d_C_seen_16 ⟨k1, k2⟩) hS (fun g17 H locs h23 hG hS => ?_)
    have hk := And.intro k1 k2
    replace h := h23
    refine lv_aload_n hx hb d_C_seen_19 rfl (lv_at hl 0 rfl) ?_
    obtain ⟨h9, h⟩ := h
    obtain ⟨c18, c19, k1, k2, h⟩ := h
    obtain ⟨n9, h9⟩ := isK1 h9
    refine q_callI (run_V (As := []) (rest := []) S hZ hG hS (s_C_countSeen h) tw_378 tw_375 tw_377 tp_8 tw_1 nk_C_countSeen h9 (by decide) rfl ⟨Nat.le_of_ble_eq_true rfl, Nat.le_of_ble_eq_true rfl⟩ rfl hl.1 rfl (by decide) d_C_seen_20 ⟨k1, k2⟩) hS (fun x21 g20 H locs h22 hG hS => ?_)
    have hk := And.intro k1 k2
    replace h := h22
    exact vx_ret (r_iret (v := x21) S hr hlk hG hS h hk.1 hk.2 d_C_seen_23)
  · replace h := h.2 c9
    exact r_throw (i := 1) S hst hZ hG hS (by decide) tw_318 tw_16 xa_C_65_67 xb_C_65_67 xo_C_65_67 hl.1 d_C_seen_7 d_C_seen_10 d_C_seen_11 d_C_seen_14 (fun x hx => (hxt x hx).elim) (Nat.le_of_ble_eq_true rfl) (Nat.le_of_ble_eq_true rfl) rfl rfl hlk h.2.2 h.1 h.2.1
def w_L_seen (z mi mc ms : Nat) (post : Int32 → Sg → Prop) (g : Sg) (p0 : Option Nat) (p1 : Option Nat) : Prop := ∃ a11, p0 = some a11 ∧ (isK g a11 [4] ∧ ∃ c13 c14 : Nat, 0 + c13 ≤ mc ∧ 0 + c14 ≤ ms ∧ w_C_seen z mi c13 c14 (fun (x16 : Int32) (g15 : Sg) => ∃ a17, p1 = some a17 ∧ (∃ j19 : Nat, inA g15 a17 103 (0 : Int32) j19 ∧ ∀ g20 : Sg, g20 = sL g15 a17 j19 (x16.toInt64) → post (0 : Int32) g20)) (fun (i21 : Nat) (g22 : Sg) => (i21 = 1 ∧ post (1 : Int32) g22)) g a11)
set_option maxHeartbeats 4000000 in
set_option maxRecDepth 100000 in
theorem s_L_seen {l : Launch} {D : va_G} {cA : Nat → ClassId} {sz z mi mc ms : Nat} {g : Sg} {post : Int32 → Sg → Prop} {p0 : Option Nat} {p1 : Option Nat} (hst : l.stackTraces = false) (h : w_L_seen z mi mc ms post g p0 p1) : Met l y_L_seen (Cond.codeWith y_L_seen b_L_seen 3 (some FieldType.int) [(0, 8, 11, 15)] :: TBL) ({ frames := 7, cells := mc, slots := ms, locals := 110 } : Room) (Pg D cA sz z mi [va_rf p0, va_rf p1] g) (Qg D cA sz (pI post)) mc ms (oA sz) := by
  refine m_codeW (lv := [(0, va_rf p0), (1, va_rf p1)]) (by decide +kernel) (by simp [lg_sl, rf_cat, cat_i, cat_r, cat_l]) (by simp [lv_args, rf_cat, cat_i, cat_r, cat_l]) ?_
  intro p e s m below meth c ls htb S hr hlk hnm hZ hG hS hl
  obtain ⟨hx, hb, hml, hown, hts⟩ := id S
  have hk : 0 ≤ mc ∧ 0 ≤ ms := ⟨Nat.zero_le _, Nat.zero_le _⟩
  refine q_aload_n hx hb d_L_seen_0 rfl (lv_at hl 1 rfl) ?_
  refine lv_iconst (v := (0 : Int32)) hx hb d_L_seen_1 (by decide) ?_
  refine q_aload_n hx hb d_L_seen_2 rfl (lv_at hl 0 rfl) ?_
  obtain ⟨a11, e9, h⟩ := h
  subst e9
  have hl12 : lv_has ls 3 [(0, .ref a11), (1, va_rf p1)] := hl
  obtain ⟨h9, h⟩ := h
  obtain ⟨c13, c14, k1, k2, h⟩ := h
  obtain ⟨n9, h9⟩ := isK1 h9
  refine x_callI (xrun_V (As := []) (rest := [.int ((0 : Int32)), va_rf p1]) S hZ hG hS (s_C_seen hst h) tw_354 tw_351 tw_352 tw_353 tw_1 nk_C_seen h9 (by decide) rfl ⟨Nat.le_of_ble_eq_true rfl, Nat.le_of_ble_eq_true rfl⟩ rfl hl.1 rfl (by simp [rf_cat, cat_i, cat_r, cat_l]) d_L_seen_3 ⟨k1, k2⟩) hS (fun i9 ce q9 g22 H locs hi h26 hG hS hq1 hq2 hq3 => ?_) (fun x16 g15 H locs h25 hG hS => ?_)
  · have hk := And.intro k1 k2
    replace h := h26
    obtain ⟨rfl, h⟩ := h
    refine r_catch (i := 1) S hZ (by decide) [] ⟨0, 8, 11, 15⟩ [] htb (fun y hy => nomatch hy) (by decide) (by decide) tw_233 hq1 hq2 hq3 ?_
    refine q_astore_n (o := (some q9)) (lv' := [(0, .ref a11), (1, va_rf p1)]) hx hb d_L_seen_11 rfl hl12 (by decide) (.k 0 rfl (by decide) (by decide) (.c 1 rfl (by decide) (rf_cat _) .e)) (fun ls24 hl24 => ?_)
    refine lv_iconst (v := (1 : Int32)) hx hb d_L_seen_12 (by decide) ?_
    exact r_iret (v := (1 : Int32)) S hr hlk hG hS h hk.1 hk.2 d_L_seen_13
  · have hk := And.intro k1 k2
    replace h := h25
    refine lv_i2l hx hb d_L_seen_6 rfl ?_
    obtain ⟨a17, e9, h⟩ := h
    subst e9
    have hl18 : lv_has ls 3 [(0, .ref a11), (1, .ref a17)] := hl12
    obtain ⟨j19, h9, h⟩ := h
    refine r_last S hZ hG hS h9 d_L_seen_7 (fun g20 H locs e9 hG hS => ?_)
    replace h := h g20 e9
    refine lv_goto (tgt := 14) hx hb d_L_seen_8 (by decide) ?_
    refine lv_iconst (v := (0 : Int32)) hx hb d_L_seen_14 (by decide) ?_
    exact r_iret (v := (0 : Int32)) S hr hlk hG hS h hk.1 hk.2 d_L_seen_15
def w_C_isName (z mi mc ms : Nat) (post : Int32 → Sg → Prop) (g : Sg) (p0 : Int32) : Prop := (p0 < 0 → post (0 : Int32) g) ∧ (¬ p0 < 0 → ((255 : Int32) < p0 → post (0 : Int32) g) ∧ (¬ (255 : Int32) < p0 → post (1 : Int32) g))
set_option maxHeartbeats 4000000 in
set_option maxRecDepth 100000 in
theorem s_C_isName {l : Launch} {D : va_G} {cA : Nat → ClassId} {sz z mi mc ms : Nat} {g : Sg} {post : Int32 → Sg → Prop} {p0 : Int32} (h : w_C_isName z mi mc ms post g p0) : Met l y_C_isName (Cond.code y_C_isName b_C_isName 1 (some FieldType.boolean) :: TBL) ({ frames := 0, cells := mc, slots := ms, locals := 0 } : Room) (Pg D cA sz z mi [.int p0] g) (Qg D cA sz (pI post)) mc ms (oA sz) := by
  refine m_code (lv := [(0, .int p0)]) (by decide +kernel) (Nat.le_of_ble_eq_true rfl) rfl ?_
  intro p e s m below meth c ls S hr hlk hnm hZ hG hS hl
  obtain ⟨hx, hb, hml, hown, hts⟩ := id S
  have hk : 0 ≤ mc ∧ 0 ≤ ms := ⟨Nat.zero_le _, Nat.zero_le _⟩
  refine lv_iload_n hx hb d_C_isName_0 rfl (lv_at hl 0 rfl) ?_
  refine lv_if_lt (tgt := 15) hx hb d_C_isName_1 (by decide) (fun c9 => ?_) (fun c9 => ?_)
  · replace h := h.1 c9
    refine lv_iconst (v := (0 : Int32)) hx hb d_C_isName_15 (by decide) ?_
    exact r_zret (v := (0 : Int32)) S hr hlk rfl hG hS h hk.1 hk.2 d_C_isName_16
  · replace h := h.2 c9
    refine lv_iload_n hx hb d_C_isName_4 rfl (lv_at hl 0 rfl) ?_
    refine lv_sipush (v := (255 : Int32)) hx hb d_C_isName_5 (by decide) ?_
    refine lv_icmp_gt (tgt := 15) hx hb d_C_isName_8 (by decide) (fun c9 => ?_) (fun c9 => ?_)
    · replace h := h.1 c9
      refine lv_iconst (v := (0 : Int32)) hx hb d_C_isName_15 (by decide) ?_
      exact r_zret (v := (0 : Int32)) S hr hlk rfl hG hS h hk.1 hk.2 d_C_isName_16
    · replace h := h.2 c9
      refine lv_iconst (v := (1 : Int32)) hx hb d_C_isName_11 (by decide) ?_
      refine lv_goto (tgt := 16) hx hb d_C_isName_12 (by decide) ?_
      exact r_zret (v := (1 : Int32)) S hr hlk rfl hG hS h hk.1 hk.2 d_C_isName_16
def w_C_canBeEdit (z mi mc ms : Nat) (post : Int32 → Sg → Prop) (g : Sg) (p0 : Int32) (p1 : Int32) (p2 : Int32) : Prop := (∃ c11 c12 : Nat, 0 + c11 ≤ mc ∧ 0 + c12 ≤ ms ∧ w_C_isName z mi c11 c12 (fun (x14 : Int32) (g13 : Sg) => (x14 = 0 → post (0 : Int32) g13) ∧ (¬ x14 = 0 → (p2 < (1 : Int32) → post (0 : Int32) g13) ∧ (¬ p2 < (1 : Int32) → ((100 : Int32) < p2 → post (0 : Int32) g13) ∧ (¬ (100 : Int32) < p2 → (p1 < 0 → post (0 : Int32) g13) ∧ (¬ p1 < 0 → post (1 : Int32) g13))))) g p0)
set_option maxHeartbeats 4000000 in
set_option maxRecDepth 100000 in
theorem s_C_canBeEdit {l : Launch} {D : va_G} {cA : Nat → ClassId} {sz z mi mc ms : Nat} {g : Sg} {post : Int32 → Sg → Prop} {p0 : Int32} {p1 : Int32} {p2 : Int32} (h : w_C_canBeEdit z mi mc ms post g p0 p1 p2) : Met l y_C_canBeEdit (Cond.code y_C_canBeEdit b_C_canBeEdit 3 (some FieldType.boolean) :: TBL) ({ frames := 1, cells := mc, slots := ms, locals := 20 } : Room) (Pg D cA sz z mi [.int p0, .int p1, .int p2] g) (Qg D cA sz (pI post)) mc ms (oA sz) := by
  refine m_code (lv := [(0, .int p0), (1, .int p1), (2, .int p2)]) (by decide +kernel) (Nat.le_of_ble_eq_true rfl) rfl ?_
  intro p e s m below meth c ls S hr hlk hnm hZ hG hS hl
  obtain ⟨hx, hb, hml, hown, hts⟩ := id S
  have hk : 0 ≤ mc ∧ 0 ≤ ms := ⟨Nat.zero_le _, Nat.zero_le _⟩
  refine lv_iload_n hx hb d_C_canBeEdit_0 rfl (lv_at hl 0 rfl) ?_
  obtain ⟨c11, c12, k1, k2, h⟩ := h
  refine q_callI (run_S (As := [.int p0]) (rest := []) S hZ hG hS (s_C_isName h) tw_408 tw_406 tw_407 tw_1 nk_C_isName ⟨Nat.le_of_ble_eq_true rfl, Nat.le_of_ble_eq_true rfl⟩ rfl hl.1 rfl (by decide) d_C_canBeEdit_1 ⟨k1, k2⟩) hS (fun x14 g13 H locs h15 hG hS => ?_)
  have hk := And.intro k1 k2
  replace h := h15
  refine lv_if_eq (tgt := 26) hx hb d_C_canBeEdit_4 (by decide) (fun c9 => ?_) (fun c9 => ?_)
  · replace h := h.1 c9
    refine lv_iconst (v := (0 : Int32)) hx hb d_C_canBeEdit_26 (by decide) ?_
    exact r_zret (v := (0 : Int32)) S hr hlk rfl hG hS h hk.1 hk.2 d_C_canBeEdit_27
  · replace h := h.2 c9
    refine lv_iload_n hx hb d_C_canBeEdit_7 rfl (lv_at hl 2 rfl) ?_
    refine lv_iconst (v := (1 : Int32)) hx hb d_C_canBeEdit_8 (by decide) ?_
    refine lv_icmp_lt (tgt := 26) hx hb d_C_canBeEdit_9 (by decide) (fun c9 => ?_) (fun c9 => ?_)
    · replace h := h.1 c9
      refine lv_iconst (v := (0 : Int32)) hx hb d_C_canBeEdit_26 (by decide) ?_
      exact r_zret (v := (0 : Int32)) S hr hlk rfl hG hS h hk.1 hk.2 d_C_canBeEdit_27
    · replace h := h.2 c9
      refine lv_iload_n hx hb d_C_canBeEdit_12 rfl (lv_at hl 2 rfl) ?_
      refine lv_bipush (v := (100 : Int32)) hx hb d_C_canBeEdit_13 (by decide) ?_
      refine lv_icmp_gt (tgt := 26) hx hb d_C_canBeEdit_15 (by decide) (fun c9 => ?_) (fun c9 => ?_)
      · replace h := h.1 c9
        refine lv_iconst (v := (0 : Int32)) hx hb d_C_canBeEdit_26 (by decide) ?_
        exact r_zret (v := (0 : Int32)) S hr hlk rfl hG hS h hk.1 hk.2 d_C_canBeEdit_27
      · replace h := h.2 c9
        refine lv_iload_n hx hb d_C_canBeEdit_18 rfl (lv_at hl 1 rfl) ?_
        refine lv_if_lt (tgt := 26) hx hb d_C_canBeEdit_19 (by decide) (fun c9 => ?_) (fun c9 => ?_)
        · replace h := h.1 c9
          refine lv_iconst (v := (0 : Int32)) hx hb d_C_canBeEdit_26 (by decide) ?_
          exact r_zret (v := (0 : Int32)) S hr hlk rfl hG hS h hk.1 hk.2 d_C_canBeEdit_27
        · replace h := h.2 c9
          refine lv_iconst (v := (1 : Int32)) hx hb d_C_canBeEdit_22 (by decide) ?_
          refine lv_goto (tgt := 27) hx hb d_C_canBeEdit_23 (by decide) ?_
          exact r_zret (v := (1 : Int32)) S hr hlk rfl hG hS h hk.1 hk.2 d_C_canBeEdit_27
def w_C_areCodes (z mi mc ms : Nat) (post : Int32 → Sg → Prop) (g : Sg) (p0 : Int32) (p1 : Int32) : Prop := (p0 < 0 → post (0 : Int32) g) ∧ (¬ p0 < 0 → (((1114111 : Int32) - (p1 - (1 : Int32))) < p0 → post (0 : Int32) g) ∧ (¬ ((1114111 : Int32) - (p1 - (1 : Int32))) < p0 → post (1 : Int32) g))
set_option maxHeartbeats 4000000 in
set_option maxRecDepth 100000 in
theorem s_C_areCodes {l : Launch} {D : va_G} {cA : Nat → ClassId} {sz z mi mc ms : Nat} {g : Sg} {post : Int32 → Sg → Prop} {p0 : Int32} {p1 : Int32} (h : w_C_areCodes z mi mc ms post g p0 p1) : Met l y_C_areCodes (Cond.code y_C_areCodes b_C_areCodes 2 (some FieldType.boolean) :: TBL) ({ frames := 0, cells := mc, slots := ms, locals := 0 } : Room) (Pg D cA sz z mi [.int p0, .int p1] g) (Qg D cA sz (pI post)) mc ms (oA sz) := by
  refine m_code (lv := [(0, .int p0), (1, .int p1)]) (by decide +kernel) (Nat.le_of_ble_eq_true rfl) rfl ?_
  intro p e s m below meth c ls S hr hlk hnm hZ hG hS hl
  obtain ⟨hx, hb, hml, hown, hts⟩ := id S
  have hk : 0 ≤ mc ∧ 0 ≤ ms := ⟨Nat.zero_le _, Nat.zero_le _⟩
  refine lv_iload_n hx hb d_C_areCodes_0 rfl (lv_at hl 0 rfl) ?_
  refine lv_if_lt (tgt := 18) hx hb d_C_areCodes_1 (by decide) (fun c9 => ?_) (fun c9 => ?_)
  · replace h := h.1 c9
    refine lv_iconst (v := (0 : Int32)) hx hb d_C_areCodes_18 (by decide) ?_
    exact r_zret (v := (0 : Int32)) S hr hlk rfl hG hS h hk.1 hk.2 d_C_areCodes_19
  · replace h := h.2 c9
    refine lv_iload_n hx hb d_C_areCodes_4 rfl (lv_at hl 0 rfl) ?_
    refine lv_ldc hx hb hown (hts _ tw_412) d_C_areCodes_5 ?_
    refine lv_iload_n hx hb d_C_areCodes_7 rfl (lv_at hl 1 rfl) ?_
    refine lv_iconst (v := (1 : Int32)) hx hb d_C_areCodes_8 (by decide) ?_
    refine lv_isub hx hb d_C_areCodes_9 ?_
    refine lv_isub hx hb d_C_areCodes_10 ?_
    refine lv_icmp_gt (tgt := 18) hx hb d_C_areCodes_11 (by decide) (fun c9 => ?_) (fun c9 => ?_)
    · replace h := h.1 c9
      refine lv_iconst (v := (0 : Int32)) hx hb d_C_areCodes_18 (by decide) ?_
      exact r_zret (v := (0 : Int32)) S hr hlk rfl hG hS h hk.1 hk.2 d_C_areCodes_19
    · replace h := h.2 c9
      refine lv_iconst (v := (1 : Int32)) hx hb d_C_areCodes_14 (by decide) ?_
      refine lv_goto (tgt := 19) hx hb d_C_areCodes_15 (by decide) ?_
      exact r_zret (v := (1 : Int32)) S hr hlk rfl hG hS h hk.1 hk.2 d_C_areCodes_19
def w_C_takeList (z mi mc ms : Nat) (post : Int32 → Sg → Prop) (g : Sg) (this : Nat) (p0 : Int32) : Prop := (isK g this [4] ∧ ∃ c11 c12 : Nat, 0 + c11 ≤ mc ∧ 0 + c12 ≤ ms ∧ w_C_isListTangled z mi c11 c12 (fun (x14 : Int32) (g13 : Sg) => (isK g13 this [4] ∧ ∃ c16 c17 : Nat, (0 + c11) + c16 ≤ mc ∧ (0 + c12) + c17 ≤ ms ∧ w_C_lookFromList z mi c16 c17 (fun (g18 : Sg) => (hasI g18 this 27 ∧ ∀ g19 : Sg, g19 = wI g18 27 this (0 : Int32) → (isK g19 this [4] ∧ ∃ c20 c21 : Nat, ((0 + c11) + c16) + c20 ≤ mc ∧ ((0 + c12) + c17) + c21 ≤ ms ∧ w_C_findAgent z mi c20 c21 (fun (o23 : Option Nat) (g22 : Sg) => (¬ x14 = 0 → post (0 : Int32) g22) ∧ (x14 = 0 → (o23 = none → post (1 : Int32) g22) ∧ (∀ a25, o23 = some a25 → (hasR g22 a25 6 ∧ ∀ o28 : Option Nat, o28 = fR g22 6 a25 → ∃ a29, o28 = some a29 ∧ (isK g22 a29 [0] ∧ ∃ c30 c31 : Nat, (((0 + c11) + c16) + c20) + c30 ≤ mc ∧ (((0 + c12) + c17) + c21) + c31 ≤ ms ∧ w_AL_size z mi c30 c31 (fun (x33 : Int32) (g32 : Sg) => (hasR g32 this 25 ∧ ∀ o34 : Option Nat, o34 = fR g32 25 this → (hasI g32 a25 5 ∧ ∀ x35 : Int32, x35 = fI g32 5 a25 → ∃ a36, o34 = some a36 ∧ (∃ j37 : Nat, inA g32 a36 100 x35 j37 ∧ ∀ x38 : Int32, x38 = aI g32 a36 j37 → (¬ x33 = x38 → post (0 : Int32) g32) ∧ (x33 = x38 → post (1 : Int32) g32))))) g22 a29))))) g19 this p0))) g13 this)) g this)
set_option maxHeartbeats 4000000 in
set_option maxRecDepth 100000 in
theorem s_C_takeList {l : Launch} {D : va_G} {cA : Nat → ClassId} {sz z mi mc ms : Nat} {g : Sg} {post : Int32 → Sg → Prop} {this : Nat} {p0 : Int32} (h : w_C_takeList z mi mc ms post g this p0) : Met l y_C_takeList (Cond.code y_C_takeList b_C_takeList 4 (some FieldType.boolean) :: TBL) ({ frames := 3, cells := mc, slots := ms, locals := 64 } : Room) (Pg D cA sz z mi [.ref this, .int p0] g) (Qg D cA sz (pI post)) mc ms (oA sz) := by
  refine m_code (lv := [(0, .ref this), (1, .int p0)]) (by decide +kernel) (Nat.le_of_ble_eq_true rfl) rfl ?_
  intro p e s m below meth c ls S hr hlk hnm hZ hG hS hl
  obtain ⟨hx, hb, hml, hown, hts⟩ := id S
  have hk : 0 ≤ mc ∧ 0 ≤ ms := ⟨Nat.zero_le _, Nat.zero_le _⟩
  refine lv_aload_n hx hb d_C_takeList_0 rfl (lv_at hl 0 rfl) ?_
  obtain ⟨h9, h⟩ := h
  obtain ⟨c11, c12, k1, k2, h⟩ := h
  obtain ⟨n9, h9⟩ := isK1 h9
  refine q_callI (run_V (As := []) (rest := []) S hZ hG hS (s_C_isListTangled h) tw_358 tw_355 tw_357 tp_6 tw_1 nk_C_isListTangled h9 (by decide) rfl ⟨Nat.le_of_ble_eq_true rfl, Nat.le_of_ble_eq_true rfl⟩ rfl hl.1 rfl (by decide) d_C_takeList_1 ⟨k1, k2⟩) hS (fun x14 g13 H locs h42 hG hS => ?_)
  have hk := And.intro k1 k2
  replace h := h42
  refine q_istore_n (lv' := [(2, .int x14), (0, .ref this), (1, .int p0)]) hx hb d_C_takeList_4 rfl hl (by decide) (.n (.k 0 rfl (by decide) (by decide) (.c 1 rfl (by decide) rfl .e))) (fun ls15 hl15 => ?_)
  refine lv_aload_n hx hb d_C_takeList_5 rfl (lv_at hl15 1 rfl) ?_
  obtain ⟨h9, h⟩ := h
  obtain ⟨c16, c17, k1, k2, h⟩ := h
  obtain ⟨n9, h9⟩ := isK1 h9
  refine q_callV (run_V (As := []) (rest := []) S hZ hG hS (s_C_lookFromList h) tw_362 tw_359 tw_361 tp_7 tw_1 nk_C_lookFromList h9 (by decide) rfl ⟨Nat.le_of_ble_eq_true rfl, Nat.le_of_ble_eq_true rfl⟩ rfl hl15.1 rfl (by decide) d_C_takeList_6 ⟨k1, k2⟩) hS (fun g18 H locs h41 hG hS => ?_)
  have hk := And.intro k1 k2
  replace h := h41
  refine lv_aload_n hx hb d_C_takeList_9 rfl (lv_at hl15 1 rfl) ?_
  refine lv_iconst (v := (0 : Int32)) hx hb d_C_takeList_10 (by decide) ?_
  refine r_putI (f := 27) S hZ hG hS rfl h.1 (hts _ tw_158) (fun _ h9 => h9) (Or.inl rfl) d_C_takeList_11 (fun g19 H locs e9 hG hS => ?_)
  replace h := h.2 g19 e9
  refine lv_aload_n hx hb d_C_takeList_14 rfl (lv_at hl15 1 rfl) ?_
  refine lv_iload_n hx hb d_C_takeList_15 rfl (lv_at hl15 2 rfl) ?_
  obtain ⟨h9, h⟩ := h
  obtain ⟨c20, c21, k1, k2, h⟩ := h
  obtain ⟨n9, h9⟩ := isK1 h9
  refine q_callR (run_V (As := [.int p0]) (rest := []) S hZ hG hS (s_C_findAgent h) tw_246 tw_243 tw_245 tp_3 tw_1 nk_C_findAgent h9 (by decide) rfl ⟨Nat.le_of_ble_eq_true rfl, Nat.le_of_ble_eq_true rfl⟩ rfl hl15.1 rfl (by decide) d_C_takeList_16 ⟨k1, k2⟩) hS (fun o23 g22 H locs h40 hG hS => ?_)
  have hk := And.intro k1 k2
  replace h := h40
  refine q_astore_n (o := o23) (lv' := [(3, va_rf o23), (2, .int x14), (0, .ref this), (1, .int p0)]) hx hb d_C_takeList_19 rfl hl15 (by decide) (.n (.c 0 rfl (by decide) rfl (.k 1 rfl (by decide) (by decide) (.k 2 rfl (by decide) (by decide) .e)))) (fun ls24 hl24 => ?_)
  refine lv_iload_n hx hb d_C_takeList_20 rfl (lv_at hl24 1 rfl) ?_
  refine lv_if_ne (tgt := 51) hx hb d_C_takeList_21 (by decide) (fun c9 => ?_) (fun c9 => ?_)
  · replace h := h.1 c9
    refine lv_iconst (v := (0 : Int32)) hx hb d_C_takeList_51 (by decide) ?_
    exact r_zret (v := (0 : Int32)) S hr hlk rfl hG hS h hk.1 hk.2 d_C_takeList_52
  · replace h := h.2 c9
    refine q_aload_n hx hb d_C_takeList_24 rfl (lv_at hl24 0 rfl) ?_
    refine q_ifnull (tgt := 47) hx hb d_C_takeList_25 (by decide) (fun e9 => ?_) (fun a25 e9 => ?_)
    · replace h := h.1 e9
      subst e9
      have hl26 : lv_has ls24 4 [(3, .null), (2, .int x14), (0, .ref this), (1, .int p0)] := hl24
      refine lv_iconst (v := (1 : Int32)) hx hb d_C_takeList_47 (by decide) ?_
      refine lv_goto (tgt := 52) hx hb d_C_takeList_48 (by decide) ?_
      exact r_zret (v := (1 : Int32)) S hr hlk rfl hG hS h hk.1 hk.2 d_C_takeList_52
    · replace h := h.2 a25 e9
      subst e9
      have hl27 : lv_has ls24 4 [(3, .ref a25), (2, .int x14), (0, .ref this), (1, .int p0)] := hl24
      refine lv_aload_n hx hb d_C_takeList_28 rfl (lv_at hl27 0 rfl) ?_
      refine r_getR (f := 6) S hZ hG rfl h.1 (hts _ tw_80) (fun _ h9 => h9) d_C_takeList_29 (fun o28 e9 => ?_)
      replace h := h.2 o28 e9
      obtain ⟨a29, e9, h⟩ := h
      subst e9
      obtain ⟨h9, h⟩ := h
      obtain ⟨c30, c31, k1, k2, h⟩ := h
      obtain ⟨n9, h9⟩ := isK1 h9
      refine q_callI (run_V (As := []) (rest := []) S hZ hG hS (s_AL_size h) tw_99 tw_247 tw_97 tw_98 tw_4 nk_AL_size h9 (by decide) rfl ⟨Nat.le_of_ble_eq_true rfl, Nat.le_of_ble_eq_true rfl⟩ rfl hl27.1 rfl (by decide) d_C_takeList_32 ⟨k1, k2⟩) hS (fun x33 g32 H locs h39 hG hS => ?_)
      have hk := And.intro k1 k2
      replace h := h39
      refine lv_aload_n hx hb d_C_takeList_35 rfl (lv_at hl27 2 rfl) ?_
      refine r_getR (f := 25) S hZ hG rfl h.1 (hts _ tw_156) (fun _ h9 => h9) d_C_takeList_36 (fun o34 e9 => ?_)
      replace h := h.2 o34 e9
      refine lv_aload_n hx hb d_C_takeList_39 rfl (lv_at hl27 0 rfl) ?_
      refine r_getI (f := 5) S hZ hG rfl h.1 (hts _ tw_77) (fun _ h9 => h9) d_C_takeList_40 (fun x35 e9 => ?_)
      replace h := h.2 x35 e9
      obtain ⟨a36, e9, h⟩ := h
      subst e9
      obtain ⟨j37, h9, h⟩ := h
      refine r_iald S hZ hG h9 d_C_takeList_43 (fun x38 e9 => ?_)
      replace h := h x38 e9
      refine lv_icmp_ne (tgt := 51) hx hb d_C_takeList_44 (by decide) (fun c9 => ?_) (fun c9 => ?_)
      · replace h := h.1 c9
        refine lv_iconst (v := (0 : Int32)) hx hb d_C_takeList_51 (by decide) ?_
        exact r_zret (v := (0 : Int32)) S hr hlk rfl hG hS h hk.1 hk.2 d_C_takeList_52
      · replace h := h.2 c9
        refine lv_iconst (v := (1 : Int32)) hx hb d_C_takeList_47 (by decide) ?_
        refine lv_goto (tgt := 52) hx hb d_C_takeList_48 (by decide) ?_
        exact r_zret (v := (1 : Int32)) S hr hlk rfl hG hS h hk.1 hk.2 d_C_takeList_52
def w_C_hasRoom (z mi mc ms : Nat) (post : Int32 → Sg → Prop) (g : Sg) (this : Nat) (p0 : Int32) (p1 : Int32) : Prop := (hasR g this 22 ∧ ∀ o11 : Option Nat, o11 = fR g 22 this → ∃ a12, o11 = some a12 ∧ (isK g a12 [0] ∧ ∃ c13 c14 : Nat, 0 + c13 ≤ mc ∧ 0 + c14 ≤ ms ∧ w_AL_size z mi c13 c14 (fun (x16 : Int32) (g15 : Sg) => ((8192 : Int32) < (x16 + p1) → post (0 : Int32) g15) ∧ (¬ (8192 : Int32) < (x16 + p1) → (hasI g15 this 26 ∧ ∀ x17 : Int32, x17 = fI g15 26 this → (x17 < (16 : Int32) → post (1 : Int32) g15) ∧ (¬ x17 < (16 : Int32) → (isK g15 this [4] ∧ ∃ c18 c19 : Nat, (0 + c13) + c18 ≤ mc ∧ (0 + c14) + c19 ≤ ms ∧ w_C_findAgent z mi c18 c19 (fun (o21 : Option Nat) (g20 : Sg) => (o21 = none → post (0 : Int32) g20) ∧ (∀ a22, o21 = some a22 → post (1 : Int32) g20)) g15 this p0))))) g a12))
set_option maxHeartbeats 4000000 in
set_option maxRecDepth 100000 in
theorem s_C_hasRoom {l : Launch} {D : va_G} {cA : Nat → ClassId} {sz z mi mc ms : Nat} {g : Sg} {post : Int32 → Sg → Prop} {this : Nat} {p0 : Int32} {p1 : Int32} (h : w_C_hasRoom z mi mc ms post g this p0 p1) : Met l y_C_hasRoom (Cond.code y_C_hasRoom b_C_hasRoom 3 (some FieldType.boolean) :: TBL) ({ frames := 1, cells := mc, slots := ms, locals := 22 } : Room) (Pg D cA sz z mi [.ref this, .int p0, .int p1] g) (Qg D cA sz (pI post)) mc ms (oA sz) := by
  refine m_code (lv := [(0, .ref this), (1, .int p0), (2, .int p1)]) (by decide +kernel) (Nat.le_of_ble_eq_true rfl) rfl ?_
  intro p e s m below meth c ls S hr hlk hnm hZ hG hS hl
  obtain ⟨hx, hb, hml, hown, hts⟩ := id S
  have hk : 0 ≤ mc ∧ 0 ≤ ms := ⟨Nat.zero_le _, Nat.zero_le _⟩
  refine lv_aload_n hx hb d_C_hasRoom_0 rfl (lv_at hl 0 rfl) ?_
  refine r_getR (f := 22) S hZ hG rfl h.1 (hts _ tw_153) (fun _ h9 => h9) d_C_hasRoom_1 (fun o11 e9 => ?_)
  replace h := h.2 o11 e9
  obtain ⟨a12, e9, h⟩ := h
  subst e9
  obtain ⟨h9, h⟩ := h
  obtain ⟨c13, c14, k1, k2, h⟩ := h
  obtain ⟨n9, h9⟩ := isK1 h9
  refine q_callI (run_V (As := []) (rest := []) S hZ hG hS (s_AL_size h) tw_99 tw_247 tw_97 tw_98 tw_4 nk_AL_size h9 (by decide) rfl ⟨Nat.le_of_ble_eq_true rfl, Nat.le_of_ble_eq_true rfl⟩ rfl hl.1 rfl (by decide) d_C_hasRoom_4 ⟨k1, k2⟩) hS (fun x16 g15 H locs h24 hG hS => ?_)
  have hk := And.intro k1 k2
  replace h := h24
  refine lv_iload_n hx hb d_C_hasRoom_7 rfl (lv_at hl 2 rfl) ?_
  refine lv_iadd hx hb d_C_hasRoom_8 ?_
  refine lv_sipush (v := (8192 : Int32)) hx hb d_C_hasRoom_9 (by decide) ?_
  refine lv_icmp_gt (tgt := 36) hx hb d_C_hasRoom_12 (by decide) (fun c9 => ?_) (fun c9 => ?_)
  · replace h := h.1 c9
    refine lv_iconst (v := (0 : Int32)) hx hb d_C_hasRoom_36 (by decide) ?_
    exact r_zret (v := (0 : Int32)) S hr hlk rfl hG hS h hk.1 hk.2 d_C_hasRoom_37
  · replace h := h.2 c9
    refine lv_aload_n hx hb d_C_hasRoom_15 rfl (lv_at hl 0 rfl) ?_
    refine r_getI (f := 26) S hZ hG rfl h.1 (hts _ tw_157) (fun _ h9 => h9) d_C_hasRoom_16 (fun x17 e9 => ?_)
    replace h := h.2 x17 e9
    refine lv_bipush (v := (16 : Int32)) hx hb d_C_hasRoom_19 (by decide) ?_
    refine lv_icmp_lt (tgt := 32) hx hb d_C_hasRoom_21 (by decide) (fun c9 => ?_) (fun c9 => ?_)
    · replace h := h.1 c9
      refine lv_iconst (v := (1 : Int32)) hx hb d_C_hasRoom_32 (by decide) ?_
      refine lv_goto (tgt := 37) hx hb d_C_hasRoom_33 (by decide) ?_
      exact r_zret (v := (1 : Int32)) S hr hlk rfl hG hS h hk.1 hk.2 d_C_hasRoom_37
    · replace h := h.2 c9
      refine lv_aload_n hx hb d_C_hasRoom_24 rfl (lv_at hl 0 rfl) ?_
      refine lv_iload_n hx hb d_C_hasRoom_25 rfl (lv_at hl 1 rfl) ?_
      obtain ⟨h9, h⟩ := h
      obtain ⟨c18, c19, k1, k2, h⟩ := h
      obtain ⟨n9, h9⟩ := isK1 h9
      refine q_callR (run_V (As := [.int p0]) (rest := []) S hZ hG hS (s_C_findAgent h) tw_246 tw_243 tw_245 tp_3 tw_1 nk_C_findAgent h9 (by decide) rfl ⟨Nat.le_of_ble_eq_true rfl, Nat.le_of_ble_eq_true rfl⟩ rfl hl.1 rfl (by decide) d_C_hasRoom_26 ⟨k1, k2⟩) hS (fun o21 g20 H locs h23 hG hS => ?_)
      have hk := And.intro k1 k2
      replace h := h23
      refine q_ifnull (tgt := 36) hx hb d_C_hasRoom_29 (by decide) (fun e9 => ?_) (fun a22 e9 => ?_)
      · replace h := h.1 e9
        subst e9
        refine lv_iconst (v := (0 : Int32)) hx hb d_C_hasRoom_36 (by decide) ?_
        exact r_zret (v := (0 : Int32)) S hr hlk rfl hG hS h hk.1 hk.2 d_C_hasRoom_37
      · replace h := h.2 a22 e9
        subst e9
        refine lv_iconst (v := (1 : Int32)) hx hb d_C_hasRoom_32 (by decide) ?_
        refine lv_goto (tgt := 37) hx hb d_C_hasRoom_33 (by decide) ?_
        exact r_zret (v := (1 : Int32)) S hr hlk rfl hG hS h hk.1 hk.2 d_C_hasRoom_37
def w_C_authorNamed (z mi mc ms : Nat) (post : Option Nat → Sg → Prop) (g : Sg) (this : Nat) (p0 : Int32) : Prop := (isK g this [4] ∧ ∃ c11 c12 : Nat, 0 + c11 ≤ mc ∧ 0 + c12 ≤ ms ∧ w_C_findAgent z mi c11 c12 (fun (o14 : Option Nat) (g13 : Sg) => (o14 = none → ((0 + c11) + 1 ≤ mc ∧ (0 + c12) + 3 ≤ ms ∧ ∀ a19 : Nat, hT g13 a19 = none → ∀ g20 : Sg, g20 = nO g13 a19 1 3 → (hasI g20 this 26 ∧ ∀ x21 : Int32, x21 = fI g20 26 this → (∃ c22 c23 : Nat, ((0 + c11) + 1) + c22 ≤ mc ∧ ((0 + c12) + 3) + c23 ≤ ms ∧ w_A_init z mi c22 c23 (fun (g24 : Sg) => (hasR g24 this 21 ∧ ∀ o26 : Option Nat, o26 = fR g24 21 this → (hasI g24 this 26 ∧ ∀ x27 : Int32, x27 = fI g24 26 this → ∃ a28, o26 = some a28 ∧ (∃ j29 : Nat, inA g24 a28 104 x27 j29 ∧ isK g24 a19 [1] ∧ ∀ g30 : Sg, g30 = sR g24 a28 j29 (some a19) → (hasI g30 this 26 ∧ ∀ x31 : Int32, x31 = fI g30 26 this → (hasI g30 this 26 ∧ ∀ g32 : Sg, g32 = wI g30 26 this (x31 + (1 : Int32)) → post (some a19) g32)))))) g20 a19 p0 x21)))) ∧ (∀ a16, o14 = some a16 → post (some a16) g13)) g this p0)
set_option maxHeartbeats 4000000 in
set_option maxRecDepth 100000 in
theorem s_C_authorNamed {l : Launch} {D : va_G} {cA : Nat → ClassId} {sz z mi mc ms : Nat} {g : Sg} {post : Option Nat → Sg → Prop} {this : Nat} {p0 : Int32} (h : w_C_authorNamed z mi mc ms post g this p0) : Met l y_C_authorNamed (Cond.code y_C_authorNamed b_C_authorNamed 3 (some (FieldType.object "WeaveCore$Agent")) :: TBL) ({ frames := 5, cells := mc, slots := ms, locals := 104 } : Room) (Pg D cA sz z mi [.ref this, .int p0] g) (Qg D cA sz (pR post)) mc ms (oA sz) := by
  refine m_code (lv := [(0, .ref this), (1, .int p0)]) (by decide +kernel) (Nat.le_of_ble_eq_true rfl) rfl ?_
  intro p e s m below meth c ls S hr hlk hnm hZ hG hS hl
  obtain ⟨hx, hb, hml, hown, hts⟩ := id S
  have hk : 0 ≤ mc ∧ 0 ≤ ms := ⟨Nat.zero_le _, Nat.zero_le _⟩
  refine lv_aload_n hx hb d_C_authorNamed_0 rfl (lv_at hl 0 rfl) ?_
  refine lv_iload_n hx hb d_C_authorNamed_1 rfl (lv_at hl 1 rfl) ?_
  obtain ⟨h9, h⟩ := h
  obtain ⟨c11, c12, k1, k2, h⟩ := h
  obtain ⟨n9, h9⟩ := isK1 h9
  refine q_callR (run_V (As := [.int p0]) (rest := []) S hZ hG hS (s_C_findAgent h) tw_246 tw_243 tw_245 tp_3 tw_1 nk_C_findAgent h9 (by decide) rfl ⟨Nat.le_of_ble_eq_true rfl, Nat.le_of_ble_eq_true rfl⟩ rfl hl.1 rfl (by decide) d_C_authorNamed_2 ⟨k1, k2⟩) hS (fun o14 g13 H locs h35 hG hS => ?_)
  have hk := And.intro k1 k2
  replace h := h35
  refine q_astore_n (o := o14) (lv' := [(2, va_rf o14), (0, .ref this), (1, .int p0)]) hx hb d_C_authorNamed_5 rfl hl (by decide) (.n (.k 0 rfl (by decide) (by decide) (.c 1 rfl (by decide) rfl .e))) (fun ls15 hl15 => ?_)
  refine q_aload_n hx hb d_C_authorNamed_6 rfl (lv_at hl15 0 rfl) ?_
  refine q_ifnonnull (tgt := 43) hx hb d_C_authorNamed_7 (by decide) (fun a16 e9 => ?_) (fun e9 => ?_)
  · replace h := h.2 a16 e9
    subst e9
    have hl18 : lv_has ls15 3 [(2, .ref a16), (0, .ref this), (1, .int p0)] := hl15
    refine lv_aload_n hx hb d_C_authorNamed_43 rfl (lv_at hl18 0 rfl) ?_
    exact r_aret (o := (some a16)) S hr (Or.inl ⟨_, rfl⟩) hlk hG hS h hk.1 hk.2 d_C_authorNamed_44
  · replace h := h.1 e9
    subst e9
    have hl17 : lv_has ls15 3 [(2, .null), (0, .ref this), (1, .int p0)] := hl15
    refine r_new (k := 1) S hZ hG hS (by decide) rfl (hts _ tw_33) (hts _ tw_65) (hts _ tw_7) h.1 h.2.1 d_C_authorNamed_10 (fun a19 g20 H f9 e9 hG hS => ?_)
    have hk := And.intro h.1 h.2.1
    replace h := h.2.2 a19 f9 g20 e9
    refine lv_dup hx hb d_C_authorNamed_13 rfl ?_
    refine lv_iload_n hx hb d_C_authorNamed_14 rfl (lv_at hl17 2 rfl) ?_
    refine lv_aload_n hx hb d_C_authorNamed_15 rfl (lv_at hl17 1 rfl) ?_
    refine r_getI (f := 26) S hZ hG rfl h.1 (hts _ tw_157) (fun _ h9 => h9) d_C_authorNamed_16 (fun x21 e9 => ?_)
    replace h := h.2 x21 e9
    obtain ⟨c22, c23, k1, k2, h⟩ := h
    refine q_callV (run_I (As := [.int p0, .int x21]) (rest := [.ref a19]) S hZ hG hS (s_A_init h) tw_68 tw_66 tw_67 tw_7 rfl nk_A_init ⟨Nat.le_of_ble_eq_true rfl, Nat.le_of_ble_eq_true rfl⟩ rfl hl17.1 rfl (Nat.le_of_ble_eq_true rfl) d_C_authorNamed_19 ⟨k1, k2⟩) hS (fun g24 H locs h34 hG hS => ?_)
    have hk := And.intro k1 k2
    replace h := h34
    refine q_astore_n (o := (some a19)) (lv' := [(2, .ref a19), (0, .ref this), (1, .int p0)]) hx hb d_C_authorNamed_22 rfl hl17 (by decide) (.n (.k 1 rfl (by decide) (by decide) (.c 2 rfl (by decide) rfl .e))) (fun ls25 hl25 => ?_)
    refine lv_aload_n hx hb d_C_authorNamed_23 rfl (lv_at hl25 1 rfl) ?_
    refine r_getR (f := 21) S hZ hG rfl h.1 (hts _ tw_152) (fun _ h9 => h9) d_C_authorNamed_24 (fun o26 e9 => ?_)
    replace h := h.2 o26 e9
    refine lv_aload_n hx hb d_C_authorNamed_27 rfl (lv_at hl25 1 rfl) ?_
    refine r_getI (f := 26) S hZ hG rfl h.1 (hts _ tw_157) (fun _ h9 => h9) d_C_authorNamed_28 (fun x27 e9 => ?_)
    replace h := h.2 x27 e9
    refine lv_aload_n hx hb d_C_authorNamed_31 rfl (lv_at hl25 0 rfl) ?_
    obtain ⟨a28, e9, h⟩ := h
    subst e9
    obtain ⟨j29, h9, h8, h⟩ := h
    refine r_aast104 S hZ hG hS h9 h8 d_C_authorNamed_32 (fun g30 H locs e9 hG hS => ?_)
    replace h := h g30 e9
    refine lv_aload_n hx hb d_C_authorNamed_33 rfl (lv_at hl25 1 rfl) ?_
    refine lv_dup hx hb d_C_authorNamed_34 rfl ?_
    refine r_getI (f := 26) S hZ hG rfl h.1 (hts _ tw_157) (fun _ h9 => h9) d_C_authorNamed_35 (fun x31 e9 => ?_)
    replace h := h.2 x31 e9
    refine lv_iconst (v := (1 : Int32)) hx hb d_C_authorNamed_38 (by decide) ?_
    refine lv_iadd hx hb d_C_authorNamed_39 ?_
    refine r_putI (f := 26) S hZ hG hS rfl h.1 (hts _ tw_157) (fun _ h9 => h9) (Or.inl rfl) d_C_authorNamed_40 (fun g32 H locs e9 hG hS => ?_)
    replace h := h.2 g32 e9
    refine lv_aload_n hx hb d_C_authorNamed_43 rfl (lv_at hl25 0 rfl) ?_
    exact r_aret (o := (some a19)) S hr (Or.inl ⟨_, rfl⟩) hlk hG hS h hk.1 hk.2 d_C_authorNamed_44
def w_C_seenNode_7 (z mi mc ms : Nat) (post : Option Nat → Sg → Prop) : Nat → Nat → Nat → Sg → Nat → Int32 → Option Nat → Int32 → Prop
  | 0 => fun _ _ _ _ _ _ _ => False
  | n + 1 => fun kc ks g this v1 v2 v3 => (v1 ≤ v3 → post v2 g) ∧ (¬ v1 ≤ v3 → (v2 = none → post none g) ∧ (∀ a14, v2 = some a14 → (isK g this [4] ∧ ∃ c17 c18 : Nat, kc + c17 ≤ mc ∧ ks + c18 ≤ ms ∧ w_C_nextSeen z mi c17 c18 (fun (o20 : Option Nat) (g19 : Sg) => w_C_seenNode_7 z mi mc ms post n (kc + c17) (ks + c18) g19 this v1 o20 (v3 + (1 : Int32))) g this (some a14))))
set_option maxHeartbeats 4000000 in
set_option maxRecDepth 100000 in
theorem s_C_seenNode_7 {p : Program} {l : Launch} {e : Env} {s : State} {m : MethodId} {args : Array Value} {below : List Frame} {meth : Method} {c : Code} {D : va_G} {cA : Nat → ClassId} {sz z mi mc ms : Nat} {post : Option Nat → Sg → Prop} (S : CallFix p m c b_C_seenNode 4 s args TBL "WeaveCore") (hZ : Ws D cA sz z mi s) (hr : meth.sig.returnType = (some (FieldType.object "WeaveCore$Node"))) (hlk : meth.locks = false) :
    ∀ n : Nat, ∀ (kc ks : Nat) (g : Sg) (this : Nat) (v1 : Int32) (v2 : Option Nat) (v3 : Int32) (H : Heap) (locs : List Loc) (ls : Array Slot), kc ≤ mc ∧ ks ≤ ms → w_C_seenNode_7 z mi mc ms post n kc ks g this v1 v2 v3 → WP D cA sz g H → va_S (oA sz) s.heap H locs → lv_has ls 4 [(0, .ref this), (1, .int v1), (2, va_rf v2), (3, .int v3)] → W p l e ({ frames := 3, cells := mc, slots := ms, locals := 65 } : Room) s m args below meth c H locs kc ks (MQ below (Qg D cA sz (pR post)) args s mc ms (oA sz)) (F0 m 7 ls []) := by
  obtain ⟨hx, hb, hml, hown, hts⟩ := id S
  intro n
  induction n with
  | zero =>
    intro kc ks g this v1 v2 v3 H locs ls hk h hG hS hl
    exact h.elim
  | succ n ih =>
    intro kc ks g this v1 v2 v3 H locs ls hk h hG hS hl
    refine lv_iload_n hx hb d_C_seenNode_7 rfl (lv_at hl 3 rfl) ?_
    refine lv_iload_n hx hb d_C_seenNode_8 rfl (lv_at hl 1 rfl) ?_
    refine lv_icmp_ge (tgt := 28) hx hb d_C_seenNode_9 (by decide) (fun c9 => ?_) (fun c9 => ?_)
    · replace h := h.1 c9
      refine q_aload_n hx hb d_C_seenNode_28 rfl (lv_at hl 2 rfl) ?_
      exact r_aret (o := v2) S hr (Or.inl ⟨_, rfl⟩) hlk hG hS h hk.1 hk.2 d_C_seenNode_29
    · replace h := h.2 c9
      refine q_aload_n hx hb d_C_seenNode_12 rfl (lv_at hl 2 rfl) ?_
      refine q_ifnull (tgt := 28) hx hb d_C_seenNode_13 (by decide) (fun e9 => ?_) (fun a14 e9 => ?_)
      · replace h := h.1 e9
        subst e9
        have hl15 : lv_has ls 4 [(0, .ref this), (1, .int v1), (2, .null), (3, .int v3)] := hl
        refine q_aload_n (o := none) hx hb d_C_seenNode_28 rfl (lv_at hl15 2 rfl) ?_
        exact r_aret (o := none) S hr (Or.inl ⟨_, rfl⟩) hlk hG hS h hk.1 hk.2 d_C_seenNode_29
      · replace h := h.2 a14 e9
        subst e9
        have hl16 : lv_has ls 4 [(0, .ref this), (1, .int v1), (2, .ref a14), (3, .int v3)] := hl
        refine lv_aload_n hx hb d_C_seenNode_16 rfl (lv_at hl16 0 rfl) ?_
        refine lv_aload_n hx hb d_C_seenNode_17 rfl (lv_at hl16 2 rfl) ?_
        obtain ⟨h9, h⟩ := h
        obtain ⟨c17, c18, k1, k2, h⟩ := h
        obtain ⟨n9, h9⟩ := isK1 h9
        refine q_callR (run_V (As := [va_rf (some a14)]) (rest := []) S hZ hG hS (s_C_nextSeen h) tw_382 tw_379 tw_381 tp_9 tw_1 nk_C_nextSeen h9 (by decide) rfl ⟨Nat.le_of_ble_eq_true rfl, Nat.le_of_ble_eq_true rfl⟩ rfl hl16.1 rfl (by decide) d_C_seenNode_18 ⟨k1, k2⟩) hS (fun o20 g19 H locs h23 hG hS => ?_)
        have hk := And.intro k1 k2
        replace h := h23
        refine q_astore_n (o := o20) (lv' := [(2, va_rf o20), (0, .ref this), (1, .int v1), (3, .int v3)]) hx hb d_C_seenNode_21 rfl hl16 (by decide) (.n (.k 0 rfl (by decide) (by decide) (.c 1 rfl (by decide) rfl (.k 3 rfl (by decide) (by decide) .e)))) (fun ls21 hl21 => ?_)
        refine q_iinc (k := 3) (v := v3 + (1 : Int32)) (lv' := [(3, .int (v3 + (1 : Int32))), (2, va_rf o20), (0, .ref this), (1, .int v1)]) hx hb d_C_seenNode_22 hl21 rfl rfl (by decide) (.n (.c 0 rfl (by decide) (rf_cat _) (.k 1 rfl (by decide) (by decide) (.k 2 rfl (by decide) (by decide) .e)))) (fun ls22 hl22 => ?_)
        refine lv_goto (tgt := 7) hx hb d_C_seenNode_25 (by decide) ?_
        exact ih _ _ _ _ _ _ _ _ _ _ hk h hG hS (lv_sub hl22 [2, 3, 1, 0] rfl)
def w_C_seenNode (z mi mc ms : Nat) (post : Option Nat → Sg → Prop) (g : Sg) (this : Nat) (p0 : Int32) : Prop := (hasR g this 23 ∧ ∀ o11 : Option Nat, o11 = fR g 23 this → (∃ n24 : Nat, w_C_seenNode_7 z mi mc ms post n24 0 0 g this p0 o11 (0 : Int32)))
set_option maxHeartbeats 4000000 in
set_option maxRecDepth 100000 in
theorem s_C_seenNode {l : Launch} {D : va_G} {cA : Nat → ClassId} {sz z mi mc ms : Nat} {g : Sg} {post : Option Nat → Sg → Prop} {this : Nat} {p0 : Int32} (h : w_C_seenNode z mi mc ms post g this p0) : Met l y_C_seenNode (Cond.code y_C_seenNode b_C_seenNode 4 (some (FieldType.object "WeaveCore$Node")) :: TBL) ({ frames := 3, cells := mc, slots := ms, locals := 65 } : Room) (Pg D cA sz z mi [.ref this, .int p0] g) (Qg D cA sz (pR post)) mc ms (oA sz) := by
  refine m_code (lv := [(0, .ref this), (1, .int p0)]) (by decide +kernel) (Nat.le_of_ble_eq_true rfl) rfl ?_
  intro p e s m below meth c ls S hr hlk hnm hZ hG hS hl
  obtain ⟨hx, hb, hml, hown, hts⟩ := id S
  have hk : 0 ≤ mc ∧ 0 ≤ ms := ⟨Nat.zero_le _, Nat.zero_le _⟩
  refine lv_aload_n hx hb d_C_seenNode_0 rfl (lv_at hl 0 rfl) ?_
  refine r_getR (f := 23) S hZ hG rfl h.1 (hts _ tw_154) (fun _ h9 => h9) d_C_seenNode_1 (fun o11 e9 => ?_)
  replace h := h.2 o11 e9
  refine q_astore_n (o := o11) (lv' := [(2, va_rf o11), (0, .ref this), (1, .int p0)]) hx hb d_C_seenNode_4 rfl hl (by decide) (.n (.k 0 rfl (by decide) (by decide) (.c 1 rfl (by decide) rfl .e))) (fun ls12 hl12 => ?_)
  refine lv_iconst (v := (0 : Int32)) hx hb d_C_seenNode_5 (by decide) ?_
  refine q_istore_n (lv' := [(3, .int ((0 : Int32))), (2, va_rf o11), (0, .ref this), (1, .int p0)]) hx hb d_C_seenNode_6 rfl hl12 (by decide) (.n (.c 0 rfl (by decide) (rf_cat _) (.k 1 rfl (by decide) (by decide) (.k 2 rfl (by decide) (by decide) .e)))) (fun ls13 hl13 => ?_)
  obtain ⟨n24, h⟩ := h
  exact s_C_seenNode_7 S hZ hr hlk n24 _ _ _ _ _ _ _ _ _ _ hk h hG hS (lv_sub hl13 [2, 3, 1, 0] rfl)
def w_N_hasRightIn_5 (z mi mc ms : Nat) (post : Int32 → Sg → Prop) : Nat → Nat → Nat → Sg → Option Nat → Option Nat → Prop
  | 0 => fun _ _ _ _ _ => False
  | n + 1 => fun kc ks g v1 v2 => (v2 = none → post (0 : Int32) g) ∧ (∀ a13, v2 = some a13 → (isK g a13 [3] ∧ ∃ c16 c17 : Nat, kc + c16 ≤ mc ∧ ks + c17 ≤ ms ∧ w_E_isIn z mi c16 c17 (fun (x19 : Int32) (g18 : Sg) => (x19 = 0 → (hasR g18 a13 16 ∧ ∀ o20 : Option Nat, o20 = fR g18 16 a13 → w_N_hasRightIn_5 z mi mc ms post n (kc + c16) (ks + c17) g18 v1 o20)) ∧ (¬ x19 = 0 → post (1 : Int32) g18)) g a13 v1))
set_option maxHeartbeats 4000000 in
set_option maxRecDepth 100000 in
theorem s_N_hasRightIn_5 {p : Program} {l : Launch} {e : Env} {s : State} {m : MethodId} {args : Array Value} {below : List Frame} {meth : Method} {c : Code} {D : va_G} {cA : Nat → ClassId} {sz z mi mc ms : Nat} {post : Int32 → Sg → Prop} (S : CallFix p m c b_N_hasRightIn 3 s args TBL "WeaveCore$Node") (hZ : Ws D cA sz z mi s) (hr : meth.sig.returnType = (some FieldType.boolean)) (hlk : meth.locks = false) :
    ∀ n : Nat, ∀ (kc ks : Nat) (g : Sg) (v1 : Option Nat) (v2 : Option Nat) (H : Heap) (locs : List Loc) (ls : Array Slot), kc ≤ mc ∧ ks ≤ ms → w_N_hasRightIn_5 z mi mc ms post n kc ks g v1 v2 → WP D cA sz g H → va_S (oA sz) s.heap H locs → lv_has ls 3 [(1, va_rf v1), (2, va_rf v2)] → W p l e ({ frames := 1, cells := mc, slots := ms, locals := 21 } : Room) s m args below meth c H locs kc ks (MQ below (Qg D cA sz (pI post)) args s mc ms (oA sz)) (F0 m 5 ls []) := by
  obtain ⟨hx, hb, hml, hown, hts⟩ := id S
  intro n
  induction n with
  | zero =>
    intro kc ks g v1 v2 H locs ls hk h hG hS hl
    exact h.elim
  | succ n ih =>
    intro kc ks g v1 v2 H locs ls hk h hG hS hl
    refine q_aload_n hx hb d_N_hasRightIn_5 rfl (lv_at hl 1 rfl) ?_
    refine q_ifnull (tgt := 27) hx hb d_N_hasRightIn_6 (by decide) (fun e9 => ?_) (fun a13 e9 => ?_)
    · replace h := h.1 e9
      subst e9
      have hl14 : lv_has ls 3 [(1, va_rf v1), (2, .null)] := hl
      refine lv_iconst (v := (0 : Int32)) hx hb d_N_hasRightIn_27 (by decide) ?_
      exact r_zret (v := (0 : Int32)) S hr hlk rfl hG hS h hk.1 hk.2 d_N_hasRightIn_28
    · replace h := h.2 a13 e9
      subst e9
      have hl15 : lv_has ls 3 [(1, va_rf v1), (2, .ref a13)] := hl
      refine lv_aload_n hx hb d_N_hasRightIn_9 rfl (lv_at hl15 1 rfl) ?_
      refine q_aload_n hx hb d_N_hasRightIn_10 rfl (lv_at hl15 0 rfl) ?_
      obtain ⟨h9, h⟩ := h
      obtain ⟨c16, c17, k1, k2, h⟩ := h
      obtain ⟨n9, h9⟩ := isK1 h9
      refine q_callI (run_U (As := [va_rf v1]) (rest := []) S hZ hG hS (s_E_isIn h) tw_220 tw_387 tw_388 tw_390 tw_216 tw_5 rfl nk_E_isIn h9 (by decide) rfl ⟨Nat.le_of_ble_eq_true rfl, Nat.le_of_ble_eq_true rfl⟩ rfl hl15.1 rfl (by decide) d_N_hasRightIn_11 ⟨k1, k2⟩) hS (fun x19 g18 H locs h22 hG hS => ?_)
      have hk := And.intro k1 k2
      replace h := h22
      refine lv_if_eq (tgt := 19) hx hb d_N_hasRightIn_14 (by decide) (fun c9 => ?_) (fun c9 => ?_)
      · replace h := h.1 c9
        refine lv_aload_n hx hb d_N_hasRightIn_19 rfl (lv_at hl15 1 rfl) ?_
        refine r_getR (f := 16) S hZ hG rfl h.1 (hts _ tw_105) (fun _ h9 => h9) d_N_hasRightIn_20 (fun o20 e9 => ?_)
        replace h := h.2 o20 e9
        refine q_astore_n (o := o20) (lv' := [(2, va_rf o20), (1, va_rf v1)]) hx hb d_N_hasRightIn_23 rfl hl15 (by decide) (.n (.c 0 rfl (by decide) (rf_cat _) .e)) (fun ls21 hl21 => ?_)
        refine lv_goto (tgt := 5) hx hb d_N_hasRightIn_24 (by decide) ?_
        exact ih _ _ _ _ _ _ _ _ hk h hG hS (lv_sub hl21 [1, 0] rfl)
      · replace h := h.2 c9
        refine lv_iconst (v := (1 : Int32)) hx hb d_N_hasRightIn_17 (by decide) ?_
        exact r_zret (v := (1 : Int32)) S hr hlk rfl hG hS h hk.1 hk.2 d_N_hasRightIn_18
def w_N_hasRightIn (z mi mc ms : Nat) (post : Int32 → Sg → Prop) (g : Sg) (this : Nat) (p0 : Option Nat) : Prop := (hasR g this 15 ∧ ∀ o11 : Option Nat, o11 = fR g 15 this → (∃ n23 : Nat, w_N_hasRightIn_5 z mi mc ms post n23 0 0 g p0 o11))
set_option maxHeartbeats 4000000 in
set_option maxRecDepth 100000 in
theorem s_N_hasRightIn {l : Launch} {D : va_G} {cA : Nat → ClassId} {sz z mi mc ms : Nat} {g : Sg} {post : Int32 → Sg → Prop} {this : Nat} {p0 : Option Nat} (h : w_N_hasRightIn z mi mc ms post g this p0) : Met l y_N_hasRightIn (Cond.code y_N_hasRightIn b_N_hasRightIn 3 (some FieldType.boolean) :: TBL) ({ frames := 1, cells := mc, slots := ms, locals := 21 } : Room) (Pg D cA sz z mi [.ref this, va_rf p0] g) (Qg D cA sz (pI post)) mc ms (oA sz) := by
  refine m_code (lv := [(0, .ref this), (1, va_rf p0)]) (by decide +kernel) (by simp [lg_sl, rf_cat, cat_i, cat_r, cat_l]) (by simp [lv_args, rf_cat, cat_i, cat_r, cat_l]) ?_
  intro p e s m below meth c ls S hr hlk hnm hZ hG hS hl
  obtain ⟨hx, hb, hml, hown, hts⟩ := id S
  have hk : 0 ≤ mc ∧ 0 ≤ ms := ⟨Nat.zero_le _, Nat.zero_le _⟩
  refine lv_aload_n hx hb d_N_hasRightIn_0 rfl (lv_at hl 0 rfl) ?_
  refine r_getR (f := 15) S hZ hG rfl h.1 (hts _ tw_104) (fun _ h9 => h9) d_N_hasRightIn_1 (fun o11 e9 => ?_)
  replace h := h.2 o11 e9
  refine q_astore_n (o := o11) (lv' := [(2, va_rf o11), (0, .ref this), (1, va_rf p0)]) hx hb d_N_hasRightIn_4 rfl hl (by decide) (.n (.k 0 rfl (by decide) (by decide) (.c 1 rfl (by decide) (rf_cat _) .e))) (fun ls12 hl12 => ?_)
  obtain ⟨n23, h⟩ := h
  exact s_N_hasRightIn_5 S hZ hr hlk n23 _ _ _ _ _ _ _ _ hk h hG hS (lv_sub hl12 [2, 0] rfl)
