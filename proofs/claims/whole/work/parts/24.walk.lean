def w_C_who (z mi mc ms : Nat) (post : Int64 → Sg → Prop) (px : Nat → Sg → Prop) (g : Sg) (this : Nat) (p0 : Int32) : Prop := (hasR g this 22 ∧ ∀ o11 : Option Nat, o11 = fR g 22 this → ∃ a12, o11 = some a12 ∧ (isK g a12 [0] ∧ ∃ c13 c14 : Nat, 0 + c13 ≤ mc ∧ 0 + c14 ≤ ms ∧ w_AL_size z mi c13 c14 (fun (x16 : Int32) (g15 : Sg) => (isK g15 this [4] ∧ ∃ c17 c18 : Nat, (0 + c13) + c17 ≤ mc ∧ (0 + c14) + c18 ≤ ms ∧ w_C_textNode z mi c17 c18 (fun (o20 : Option Nat) (g19 : Sg) => (o20 = none → ((0 + c13) + c17) + 1 ≤ mc ∧ ((0 + c14) + c18) + 6 ≤ ms ∧ px 4 g19) ∧ (∀ a22, o20 = some a22 → (hasR g19 a22 7 ∧ ∀ o25 : Option Nat, o25 = fR g19 7 a22 → ∃ a26, o25 = some a26 ∧ (hasI g19 a26 4 ∧ ∀ x27 : Int32, x27 = fI g19 4 a26 → (hasI g19 a22 8 ∧ ∀ x28 : Int32, x28 = fI g19 8 a22 → post ((((4294967296 : Int64)) * (x27.toInt64)) + (x28.toInt64)) g19))))) g15 this x16 p0)) g a12))
set_option maxHeartbeats 4000000 in
set_option maxRecDepth 100000 in
theorem s_C_who {l : Launch} {D : va_G} {cA : Nat → ClassId} {sz z mi mc ms : Nat} {g : Sg} {post : Int64 → Sg → Prop} {px : Nat → Sg → Prop} {this : Nat} {p0 : Int32} (hst : l.stackTraces = false) (h : w_C_who z mi mc ms post px g this p0) : vx_Met l y_C_who (Cond.code y_C_who b_C_who 3 (some FieldType.long) :: TBL) ({ frames := 6, cells := mc, slots := ms, locals := 169 } : Room) (Pg D cA sz z mi [.ref this, .int p0] g) (Qg D cA sz (pL post)) (Xg D cA sz px) mc ms (oA sz) := by
  refine m_codeX (lv := [(0, .ref this), (1, .int p0)]) (by decide +kernel) (Nat.le_of_ble_eq_true rfl) rfl ?_
  intro p e s m below meth c ls hxt S hr hlk hnm hZ hG hS hl
  obtain ⟨hx, hb, hml, hown, hts⟩ := id S
  have hk : 0 ≤ mc ∧ 0 ≤ ms := ⟨Nat.zero_le _, Nat.zero_le _⟩
  refine lv_aload_n hx hb d_C_who_0 rfl (lv_at hl 0 rfl) ?_
  refine lv_aload_n hx hb d_C_who_1 rfl (lv_at hl 0 rfl) ?_
  refine r_getR (f := 22) S hZ hG rfl h.1 (hts _ tw_153) (fun _ h9 => h9) d_C_who_2 (fun o11 e9 => ?_)
  replace h := h.2 o11 e9
  obtain ⟨a12, e9, h⟩ := h
  subst e9
  obtain ⟨h9, h⟩ := h
  obtain ⟨c13, c14, k1, k2, h⟩ := h
  obtain ⟨n9, h9⟩ := isK1 h9
  refine q_callI (run_V (As := []) (rest := [.ref this]) S hZ hG hS (s_AL_size h) tw_99 tw_247 tw_97 tw_98 tw_4 nk_AL_size h9 (by decide) rfl ⟨Nat.le_of_ble_eq_true rfl, Nat.le_of_ble_eq_true rfl⟩ rfl hl.1 rfl (Nat.le_of_ble_eq_true rfl) d_C_who_5 ⟨k1, k2⟩) hS (fun x16 g15 H locs h30 hG hS => ?_)
  have hk := And.intro k1 k2
  replace h := h30
  refine lv_iload_n hx hb d_C_who_8 rfl (lv_at hl 1 rfl) ?_
  obtain ⟨h9, h⟩ := h
  obtain ⟨c17, c18, k1, k2, h⟩ := h
  obtain ⟨n9, h9⟩ := isK1 h9
  refine q_callR (run_V (As := [.int x16, .int p0]) (rest := []) S hZ hG hS (s_C_textNode h) tw_623 tw_620 tw_622 tp_29 tw_1 nk_C_textNode h9 (by decide) rfl ⟨Nat.le_of_ble_eq_true rfl, Nat.le_of_ble_eq_true rfl⟩ rfl hl.1 rfl (by decide) d_C_who_9 ⟨k1, k2⟩) hS (fun o20 g19 H locs h29 hG hS => ?_)
  have hk := And.intro k1 k2
  replace h := h29
  refine q_astore_n (o := o20) (lv' := [(2, va_rf o20), (0, .ref this), (1, .int p0)]) hx hb d_C_who_12 rfl hl (by decide) (.n (.k 0 rfl (by decide) (by decide) (.c 1 rfl (by decide) rfl .e))) (fun ls21 hl21 => ?_)
  refine q_aload_n hx hb d_C_who_13 rfl (lv_at hl21 0 rfl) ?_
  refine q_ifnonnull (tgt := 25) hx hb d_C_who_14 (by decide) (fun a22 e9 => ?_) (fun e9 => ?_)
  · replace h := h.2 a22 e9
    subst e9
    have hl24 : lv_has ls21 3 [(2, .ref a22), (0, .ref this), (1, .int p0)] := hl21
    refine lv_ldc2 hx hb hown (hts _ tw_639) d_C_who_25 ?_
    refine lv_aload_n hx hb d_C_who_28 rfl (lv_at hl24 0 rfl) ?_
    refine r_getR (f := 7) S hZ hG rfl h.1 (hts _ tw_114) (fun x9 h9 => u_same (hts _ tw_115) x9 h9) d_C_who_29 (fun o25 e9 => ?_)
    replace h := h.2 o25 e9
    obtain ⟨a26, e9, h⟩ := h
    subst e9
    refine r_getI (f := 4) S hZ hG rfl h.1 (hts _ tw_74) (fun _ h9 => h9) d_C_who_32 (fun x27 e9 => ?_)
    replace h := h.2 x27 e9
    refine lv_i2l hx hb d_C_who_35 rfl ?_
    refine lv_lmul hx hb d_C_who_36 ?_
    refine lv_aload_n hx hb d_C_who_37 rfl (lv_at hl24 0 rfl) ?_
    refine r_getI (f := 8) S hZ hG rfl h.1 (hts _ tw_118) (fun x9 h9 => u_same (hts _ tw_119) x9 h9) d_C_who_38 (fun x28 e9 => ?_)
    replace h := h.2 x28 e9
    refine lv_i2l hx hb d_C_who_41 rfl ?_
    refine lv_ladd hx hb d_C_who_42 ?_
    exact vx_ret (r_lret (v := ((((4294967296 : Int64)) * (x27.toInt64)) + (x28.toInt64))) S hr hlk hG hS h hk.1 hk.2 d_C_who_43)
  · replace h := h.1 e9
    subst e9
    have hl23 : lv_has ls21 3 [(2, .null), (0, .ref this), (1, .int p0)] := hl21
    exact r_throw (i := 4) S hst hZ hG hS (by decide) tw_432 tw_21 xa_C_108_110 xb_C_108_110 xo_C_108_110 hl23.1 d_C_who_17 d_C_who_20 d_C_who_21 d_C_who_24 (fun x hx => (hxt x hx).elim) (Nat.le_of_ble_eq_true rfl) (Nat.le_of_ble_eq_true rfl) rfl rfl hlk h.2.2 h.1 h.2.1
def w_L_who (z mi mc ms : Nat) (post : Int32 → Sg → Prop) (g : Sg) (p0 : Option Nat) (p1 : Int32) (p2 : Option Nat) : Prop := ∃ a11, p0 = some a11 ∧ (isK g a11 [4] ∧ ∃ c13 c14 : Nat, 0 + c13 ≤ mc ∧ 0 + c14 ≤ ms ∧ w_C_who z mi c13 c14 (fun (x16 : Int64) (g15 : Sg) => ∃ a17, p2 = some a17 ∧ (∃ j19 : Nat, inA g15 a17 103 (0 : Int32) j19 ∧ ∀ g20 : Sg, g20 = sL g15 a17 j19 x16 → post (0 : Int32) g20)) (fun (i21 : Nat) (g22 : Sg) => (i21 = 4 ∧ post (1 : Int32) g22)) g a11 p1)
set_option maxHeartbeats 4000000 in
set_option maxRecDepth 100000 in
theorem s_L_who {l : Launch} {D : va_G} {cA : Nat → ClassId} {sz z mi mc ms : Nat} {g : Sg} {post : Int32 → Sg → Prop} {p0 : Option Nat} {p1 : Int32} {p2 : Option Nat} (hst : l.stackTraces = false) (h : w_L_who z mi mc ms post g p0 p1 p2) : Met l y_L_who (Cond.codeWith y_L_who b_L_who 4 (some FieldType.int) [(0, 8, 11, 29)] :: TBL) ({ frames := 7, cells := mc, slots := ms, locals := 191 } : Room) (Pg D cA sz z mi [va_rf p0, .int p1, va_rf p2] g) (Qg D cA sz (pI post)) mc ms (oA sz) := by
  refine m_codeW (lv := [(0, va_rf p0), (1, .int p1), (2, va_rf p2)]) (by decide +kernel) (by simp [lg_sl, rf_cat, cat_i, cat_r, cat_l]) (by simp [lv_args, rf_cat, cat_i, cat_r, cat_l]) ?_
  intro p e s m below meth c ls htb S hr hlk hnm hZ hG hS hl
  obtain ⟨hx, hb, hml, hown, hts⟩ := id S
  have hk : 0 ≤ mc ∧ 0 ≤ ms := ⟨Nat.zero_le _, Nat.zero_le _⟩
  refine q_aload_n hx hb d_L_who_0 rfl (lv_at hl 2 rfl) ?_
  refine lv_iconst (v := (0 : Int32)) hx hb d_L_who_1 (by decide) ?_
  refine q_aload_n hx hb d_L_who_2 rfl (lv_at hl 0 rfl) ?_
  refine lv_iload_n hx hb d_L_who_3 rfl (lv_at hl 1 rfl) ?_
  obtain ⟨a11, e9, h⟩ := h
  subst e9
  have hl12 : lv_has ls 4 [(0, .ref a11), (1, .int p1), (2, va_rf p2)] := hl
  obtain ⟨h9, h⟩ := h
  obtain ⟨c13, c14, k1, k2, h⟩ := h
  obtain ⟨n9, h9⟩ := isK1 h9
  refine x_callL (xrun_V (As := [.int p1]) (rest := [.int ((0 : Int32)), va_rf p2]) S hZ hG hS (s_C_who hst h) tw_638 tw_635 tw_636 tw_637 tw_1 nk_C_who h9 (by decide) rfl ⟨Nat.le_of_ble_eq_true rfl, Nat.le_of_ble_eq_true rfl⟩ rfl hl.1 rfl (by simp [rf_cat, cat_i, cat_r, cat_l]) d_L_who_4 ⟨k1, k2⟩) hS (fun i9 ce q9 g22 H locs hi h26 hG hS hq1 hq2 hq3 => ?_) (fun x16 g15 H locs h25 hG hS => ?_)
  · have hk := And.intro k1 k2
    replace h := h26
    obtain ⟨rfl, h⟩ := h
    refine r_catch (i := 4) S hZ (by decide) [] ⟨0, 8, 11, 29⟩ [] htb (fun y hy => nomatch hy) (by decide) (by decide) tw_398 hq1 hq2 hq3 ?_
    refine q_astore_n (o := (some q9)) (lv' := [(0, .ref a11), (1, .int p1), (2, va_rf p2)]) hx hb d_L_who_11 rfl hl12 (by decide) (.k 0 rfl (by decide) (by decide) (.k 1 rfl (by decide) (by decide) (.c 2 rfl (by decide) (rf_cat _) .e))) (fun ls24 hl24 => ?_)
    refine lv_iconst (v := (1 : Int32)) hx hb d_L_who_12 (by decide) ?_
    exact r_iret (v := (1 : Int32)) S hr hlk hG hS h hk.1 hk.2 d_L_who_13
  · have hk := And.intro k1 k2
    replace h := h25
    obtain ⟨a17, e9, h⟩ := h
    subst e9
    have hl18 : lv_has ls 4 [(0, .ref a11), (1, .int p1), (2, .ref a17)] := hl12
    obtain ⟨j19, h9, h⟩ := h
    refine r_last S hZ hG hS h9 d_L_who_7 (fun g20 H locs e9 hG hS => ?_)
    replace h := h g20 e9
    refine lv_goto (tgt := 14) hx hb d_L_who_8 (by decide) ?_
    refine lv_iconst (v := (0 : Int32)) hx hb d_L_who_14 (by decide) ?_
    exact r_iret (v := (0 : Int32)) S hr hlk hG hS h hk.1 hk.2 d_L_who_15
def w_C_countBefore_10 (z mi mc ms : Nat) (post : Int32 → Sg → Prop) : Nat → Nat → Nat → Sg → Option Nat → Int32 → Option Nat → Prop
  | 0 => fun _ _ _ _ _ _ => False
  | n + 1 => fun kc ks g v1 v2 v3 => (v3 = none → post v2 g) ∧ (∀ a16, v3 = some a16 → ((some a16) = v1 → post v2 g) ∧ (¬ (some a16) = v1 → (hasR g a16 18 ∧ ∀ o20 : Option Nat, o20 = fR g 18 a16 → w_C_countBefore_10 z mi mc ms post n kc ks g v1 (v2 + (1 : Int32)) o20)))
set_option maxHeartbeats 4000000 in
set_option maxRecDepth 100000 in
theorem s_C_countBefore_10 {p : Program} {l : Launch} {e : Env} {s : State} {m : MethodId} {args : Array Value} {below : List Frame} {meth : Method} {c : Code} {D : va_G} {cA : Nat → ClassId} {sz z mi mc ms : Nat} {post : Int32 → Sg → Prop} (S : CallFix p m c b_C_countBefore 4 s args TBL "WeaveCore") (hZ : Ws D cA sz z mi s) (hr : meth.sig.returnType = (some FieldType.int)) (hlk : meth.locks = false) :
    ∀ n : Nat, ∀ (kc ks : Nat) (g : Sg) (v1 : Option Nat) (v2 : Int32) (v3 : Option Nat) (H : Heap) (locs : List Loc) (ls : Array Slot), kc ≤ mc ∧ ks ≤ ms → w_C_countBefore_10 z mi mc ms post n kc ks g v1 v2 v3 → WP D cA sz g H → va_S (oA sz) s.heap H locs → lv_has ls 4 [(1, va_rf v1), (2, .int v2), (3, va_rf v3)] → W p l e ({ frames := 0, cells := mc, slots := ms, locals := 0 } : Room) s m args below meth c H locs kc ks (MQ below (Qg D cA sz (pI post)) args s mc ms (oA sz)) (F0 m 10 ls []) := by
  obtain ⟨hx, hb, hml, hown, hts⟩ := id S
  intro n
  induction n with
  | zero =>
    intro kc ks g v1 v2 v3 H locs ls hk h hG hS hl
    exact h.elim
  | succ n ih =>
    intro kc ks g v1 v2 v3 H locs ls hk h hG hS hl
    refine q_aload_n hx hb d_C_countBefore_10 rfl (lv_at hl 2 rfl) ?_
    refine q_ifnull (tgt := 30) hx hb d_C_countBefore_11 (by decide) (fun e9 => ?_) (fun a16 e9 => ?_)
    · replace h := h.1 e9
      subst e9
      have hl17 : lv_has ls 4 [(1, va_rf v1), (2, .int v2), (3, .null)] := hl
      refine lv_iload_n hx hb d_C_countBefore_30 rfl (lv_at hl17 1 rfl) ?_
      exact r_iret (v := v2) S hr hlk hG hS h hk.1 hk.2 d_C_countBefore_31
    · replace h := h.2 a16 e9
      subst e9
      have hl18 : lv_has ls 4 [(1, va_rf v1), (2, .int v2), (3, .ref a16)] := hl
      refine lv_aload_n hx hb d_C_countBefore_14 rfl (lv_at hl18 2 rfl) ?_
      refine q_aload_n hx hb d_C_countBefore_15 rfl (lv_at hl18 0 rfl) ?_
      refine lv_acmp_eq (rx := (some a16)) (ry := v1) (tgt := 30) hx hb d_C_countBefore_16 (by decide) (fun c9 => ?_) (fun c9 => ?_)
      · replace h := h.1 c9
        refine lv_iload_n hx hb d_C_countBefore_30 rfl (lv_at hl18 1 rfl) ?_
        exact r_iret (v := v2) S hr hlk hG hS h hk.1 hk.2 d_C_countBefore_31
      · replace h := h.2 c9
        refine q_iinc (k := 1) (v := v2 + (1 : Int32)) (lv' := [(2, .int (v2 + (1 : Int32))), (1, va_rf v1), (3, .ref a16)]) hx hb d_C_countBefore_19 hl18 rfl rfl (by decide) (.n (.c 0 rfl (by decide) (rf_cat _) (.k 2 rfl (by decide) (by decide) .e))) (fun ls19 hl19 => ?_)
        refine lv_aload_n hx hb d_C_countBefore_22 rfl (lv_at hl19 2 rfl) ?_
        refine r_getR (f := 18) S hZ hG rfl h.1 (hts _ tw_108) (fun _ h9 => h9) d_C_countBefore_23 (fun o20 e9 => ?_)
        replace h := h.2 o20 e9
        refine q_astore_n (o := o20) (lv' := [(3, va_rf o20), (2, .int (v2 + (1 : Int32))), (1, va_rf v1)]) hx hb d_C_countBefore_26 rfl hl19 (by decide) (.n (.c 0 rfl (by decide) rfl (.k 1 rfl (by decide) (by decide) .e))) (fun ls21 hl21 => ?_)
        refine lv_goto (tgt := 10) hx hb d_C_countBefore_27 (by decide) ?_
        exact ih _ _ _ _ _ _ _ _ _ hk h hG hS (lv_sub hl21 [2, 1, 0] rfl)
def w_C_countBefore (z mi mc ms : Nat) (post : Int32 → Sg → Prop) (g : Sg) (this : Nat) (p0 : Option Nat) : Prop := (hasR g this 23 ∧ ∀ o12 : Option Nat, o12 = fR g 23 this → ∃ a13, o12 = some a13 ∧ (hasR g a13 18 ∧ ∀ o14 : Option Nat, o14 = fR g 18 a13 → (∃ n22 : Nat, w_C_countBefore_10 z mi mc ms post n22 0 0 g p0 (0 : Int32) o14)))
set_option maxHeartbeats 4000000 in
set_option maxRecDepth 100000 in
theorem s_C_countBefore {l : Launch} {D : va_G} {cA : Nat → ClassId} {sz z mi mc ms : Nat} {g : Sg} {post : Int32 → Sg → Prop} {this : Nat} {p0 : Option Nat} (h : w_C_countBefore z mi mc ms post g this p0) : Met l y_C_countBefore (Cond.code y_C_countBefore b_C_countBefore 4 (some FieldType.int) :: TBL) ({ frames := 0, cells := mc, slots := ms, locals := 0 } : Room) (Pg D cA sz z mi [.ref this, va_rf p0] g) (Qg D cA sz (pI post)) mc ms (oA sz) := by
  refine m_code (lv := [(0, .ref this), (1, va_rf p0)]) (by decide +kernel) (by simp [lg_sl, rf_cat, cat_i, cat_r, cat_l]) (by simp [lv_args, rf_cat, cat_i, cat_r, cat_l]) ?_
  intro p e s m below meth c ls S hr hlk hnm hZ hG hS hl
  obtain ⟨hx, hb, hml, hown, hts⟩ := id S
  have hk : 0 ≤ mc ∧ 0 ≤ ms := ⟨Nat.zero_le _, Nat.zero_le _⟩
  refine lv_iconst (v := (0 : Int32)) hx hb d_C_countBefore_0 (by decide) ?_
  refine q_istore_n (lv' := [(2, .int ((0 : Int32))), (0, .ref this), (1, va_rf p0)]) hx hb d_C_countBefore_1 rfl hl (by decide) (.n (.k 0 rfl (by decide) (by decide) (.c 1 rfl (by decide) (rf_cat _) .e))) (fun ls11 hl11 => ?_)
  refine lv_aload_n hx hb d_C_countBefore_2 rfl (lv_at hl11 1 rfl) ?_
  refine r_getR (f := 23) S hZ hG rfl h.1 (hts _ tw_154) (fun _ h9 => h9) d_C_countBefore_3 (fun o12 e9 => ?_)
  replace h := h.2 o12 e9
  obtain ⟨a13, e9, h⟩ := h
  subst e9
  refine r_getR (f := 18) S hZ hG rfl h.1 (hts _ tw_108) (fun _ h9 => h9) d_C_countBefore_6 (fun o14 e9 => ?_)
  replace h := h.2 o14 e9
  refine q_astore_n (o := o14) (lv' := [(3, va_rf o14), (2, .int ((0 : Int32))), (0, .ref this), (1, va_rf p0)]) hx hb d_C_countBefore_9 rfl hl11 (by decide) (.n (.c 0 rfl (by decide) rfl (.k 1 rfl (by decide) (by decide) (.k 2 rfl (by decide) (by decide) .e)))) (fun ls15 hl15 => ?_)
  obtain ⟨n22, h⟩ := h
  exact s_C_countBefore_10 S hZ hr hlk n22 _ _ _ _ _ _ _ _ _ hk h hG hS (lv_sub hl15 [3, 1, 0] rfl)
def w_C_spot (z mi mc ms : Nat) (post : Int32 → Sg → Prop) (px : Nat → Sg → Prop) (g : Sg) (this : Nat) (p0 : Int32) (p1 : Int32) : Prop := (isK g this [4] ∧ ∃ c11 c12 : Nat, 0 + c11 ≤ mc ∧ 0 + c12 ≤ ms ∧ w_C_findEvent z mi c11 c12 (fun (o14 : Option Nat) (g13 : Sg) => (o14 = none → (0 + c11) + 1 ≤ mc ∧ (0 + c12) + 6 ≤ ms ∧ px 0 g13) ∧ (∀ a16, o14 = some a16 → (∃ n19 : Nat, (hT g13 a16 = some (3, n19) ∧ ((1 : Int32) = 0 → (0 + c11) + 1 ≤ mc ∧ (0 + c12) + 6 ≤ ms ∧ px 1 g13) ∧ (¬ (1 : Int32) = 0 → (isK g13 a16 [3] ∧ (isK g13 this [4] ∧ ∃ c21 c22 : Nat, (0 + c11) + c21 ≤ mc ∧ (0 + c12) + c22 ≤ ms ∧ w_C_countBefore z mi c21 c22 (fun (x24 : Int32) (g23 : Sg) => post x24 g23) g13 this (some a16))))) ∨ (hT g13 a16 = some (2, n19) ∧ ((0 : Int32) = 0 → (0 + c11) + 1 ≤ mc ∧ (0 + c12) + 6 ≤ ms ∧ px 1 g13) ∧ (¬ (0 : Int32) = 0 → (isK g13 a16 [3] ∧ (isK g13 this [4] ∧ ∃ c27 c28 : Nat, (0 + c11) + c27 ≤ mc ∧ (0 + c12) + c28 ≤ ms ∧ w_C_countBefore z mi c27 c28 (fun (x30 : Int32) (g29 : Sg) => post x30 g29) g13 this (some a16)))))))) g this p0 p1)
set_option maxHeartbeats 4000000 in
set_option maxRecDepth 100000 in
theorem s_C_spot {l : Launch} {D : va_G} {cA : Nat → ClassId} {sz z mi mc ms : Nat} {g : Sg} {post : Int32 → Sg → Prop} {px : Nat → Sg → Prop} {this : Nat} {p0 : Int32} {p1 : Int32} (hst : l.stackTraces = false) (h : w_C_spot z mi mc ms post px g this p0 p1) : vx_Met l y_C_spot (Cond.code y_C_spot b_C_spot 5 (some FieldType.int) :: TBL) ({ frames := 6, cells := mc, slots := ms, locals := 147 } : Room) (Pg D cA sz z mi [.ref this, .int p0, .int p1] g) (Qg D cA sz (pI post)) (Xg D cA sz px) mc ms (oA sz) := by
  refine m_codeX (lv := [(0, .ref this), (1, .int p0), (2, .int p1)]) (by decide +kernel) (Nat.le_of_ble_eq_true rfl) rfl ?_
  intro p e s m below meth c ls hxt S hr hlk hnm hZ hG hS hl
  obtain ⟨hx, hb, hml, hown, hts⟩ := id S
  have hk : 0 ≤ mc ∧ 0 ≤ ms := ⟨Nat.zero_le _, Nat.zero_le _⟩
  refine lv_aload_n hx hb d_C_spot_0 rfl (lv_at hl 0 rfl) ?_
  refine lv_iload_n hx hb d_C_spot_1 rfl (lv_at hl 1 rfl) ?_
  refine lv_iload_n hx hb d_C_spot_2 rfl (lv_at hl 2 rfl) ?_
  obtain ⟨h9, h⟩ := h
  obtain ⟨c11, c12, k1, k2, h⟩ := h
  obtain ⟨n9, h9⟩ := isK1 h9
  refine q_callR (run_V (As := [.int p0, .int p1]) (rest := []) S hZ hG hS (s_C_findEvent h) tw_242 tw_239 tw_241 tp_2 tw_1 nk_C_findEvent h9 (by decide) rfl ⟨Nat.le_of_ble_eq_true rfl, Nat.le_of_ble_eq_true rfl⟩ rfl hl.1 rfl (by decide) d_C_spot_3 ⟨k1, k2⟩) hS (fun o14 g13 H locs h32 hG hS => ?_)
  have hk := And.intro k1 k2
  replace h := h32
  refine q_astore_n (o := o14) (lv' := [(3, va_rf o14), (0, .ref this), (1, .int p0), (2, .int p1)]) hx hb d_C_spot_6 rfl hl (by decide) (.n (.k 0 rfl (by decide) (by decide) (.k 1 rfl (by decide) (by decide) (.c 2 rfl (by decide) rfl .e)))) (fun ls15 hl15 => ?_)
  refine q_aload_n hx hb d_C_spot_7 rfl (lv_at hl15 0 rfl) ?_
  refine q_ifnonnull (tgt := 19) hx hb d_C_spot_8 (by decide) (fun a16 e9 => ?_) (fun e9 => ?_)
  · replace h := h.2 a16 e9
    subst e9
    have hl18 : lv_has ls15 5 [(3, .ref a16), (0, .ref this), (1, .int p0), (2, .int p1)] := hl15
    refine lv_aload_n hx hb d_C_spot_19 rfl (lv_at hl18 0 rfl) ?_
    obtain ⟨n19, ⟨h9, h⟩ | ⟨h9, h⟩⟩ := h
    · refine r_inst S hZ hG tw_63 h9 (by decide) rfl (by decide) d_C_spot_20 ?_
      refine lv_if_eq (tgt := 39) hx hb d_C_spot_23 (by decide) (fun c9 => ?_) (fun c9 => ?_)
      · replace h := h.1 c9
        exact r_throw (i := 1) S hst hZ hG hS (by decide) tw_318 tw_16 xa_C_65_67 xb_C_65_67 xo_C_65_67 hl18.1 d_C_spot_39 d_C_spot_42 d_C_spot_43 d_C_spot_46 (fun x hx => (hxt x hx).elim) (Nat.le_of_ble_eq_true rfl) (Nat.le_of_ble_eq_true rfl) rfl rfl hlk h.2.2 h.1 h.2.1
      · replace h := h.2 c9
        refine lv_aload_n hx hb d_C_spot_26 rfl (lv_at hl18 0 rfl) ?_
        obtain ⟨h9, h⟩ := h
        refine r_castN S hZ hG tw_63 h9 d_C_spot_27 ?_
        refine q_astore (o := (some a16)) (lv' := [(4, .ref a16), (3, .ref a16), (0, .ref this), (1, .int p0), (2, .int p1)]) hx hb d_C_spot_30 hl18 (by decide) (.n (.c 0 rfl (by decide) rfl (.k 1 rfl (by decide) (by decide) (.k 2 rfl (by decide) (by decide) (.k 3 rfl (by decide) (by decide) .e))))) (fun ls20 hl20 => ?_)
        refine lv_aload_n hx hb d_C_spot_32 rfl (lv_at hl20 2 rfl) ?_
        refine lv_aload hx hb d_C_spot_33 (lv_at hl20 0 rfl) ?_
        obtain ⟨h9, h⟩ := h
        obtain ⟨c21, c22, k1, k2, h⟩ := h
        obtain ⟨n9, h9⟩ := isK1 h9
        refine q_callI (run_V (As := [va_rf (some a16)]) (rest := []) S hZ hG hS (s_C_countBefore h) tw_650 tw_647 tw_649 tp_31 tw_1 nk_C_countBefore h9 (by decide) rfl ⟨Nat.le_of_ble_eq_true rfl, Nat.le_of_ble_eq_true rfl⟩ rfl hl20.1 rfl (by decide) d_C_spot_35 ⟨k1, k2⟩) hS (fun x24 g23 H locs h25 hG hS => ?_)
        have hk := And.intro k1 k2
        replace h := h25
        exact vx_ret (r_iret (v := x24) S hr hlk hG hS h hk.1 hk.2 d_C_spot_38)
    · refine r_instN S hZ hG tw_63 h9 d_C_spot_20 ?_
      refine lv_if_eq (tgt := 39) hx hb d_C_spot_23 (by decide) (fun c9 => ?_) (fun c9 => ?_)
      · replace h := h.1 c9
        exact r_throw (i := 1) S hst hZ hG hS (by decide) tw_318 tw_16 xa_C_65_67 xb_C_65_67 xo_C_65_67 hl18.1 d_C_spot_39 d_C_spot_42 d_C_spot_43 d_C_spot_46 (fun x hx => (hxt x hx).elim) (Nat.le_of_ble_eq_true rfl) (Nat.le_of_ble_eq_true rfl) rfl rfl hlk h.2.2 h.1 h.2.1
      · replace h := h.2 c9
        refine lv_aload_n hx hb d_C_spot_26 rfl (lv_at hl18 0 rfl) ?_
        obtain ⟨h9, h⟩ := h
        refine r_castN S hZ hG tw_63 h9 d_C_spot_27 ?_
        refine q_astore (o := (some a16)) (lv' := [(4, .ref a16), (3, .ref a16), (0, .ref this), (1, .int p0), (2, .int p1)]) hx hb d_C_spot_30 hl18 (by decide) (.n (.c 0 rfl (by decide) rfl (.k 1 rfl (by decide) (by decide) (.k 2 rfl (by decide) (by decide) (.k 3 rfl (by decide) (by decide) .e))))) (fun ls26 hl26 => ?_)
        refine lv_aload_n hx hb d_C_spot_32 rfl (lv_at hl26 2 rfl) ?_
        refine lv_aload hx hb d_C_spot_33 (lv_at hl26 0 rfl) ?_
        obtain ⟨h9, h⟩ := h
        obtain ⟨c27, c28, k1, k2, h⟩ := h
        obtain ⟨n9, h9⟩ := isK1 h9
        refine q_callI (run_V (As := [va_rf (some a16)]) (rest := []) S hZ hG hS (s_C_countBefore h) tw_650 tw_647 tw_649 tp_31 tw_1 nk_C_countBefore h9 (by decide) rfl ⟨Nat.le_of_ble_eq_true rfl, Nat.le_of_ble_eq_true rfl⟩ rfl hl26.1 rfl (by decide) d_C_spot_35 ⟨k1, k2⟩) hS (fun x30 g29 H locs h31 hG hS => ?_)
        have hk := And.intro k1 k2
        replace h := h31
        exact vx_ret (r_iret (v := x30) S hr hlk hG hS h hk.1 hk.2 d_C_spot_38)
  · replace h := h.1 e9
    subst e9
    have hl17 : lv_has ls15 5 [(3, .null), (0, .ref this), (1, .int p0), (2, .int p1)] := hl15
    exact r_throw (i := 0) S hst hZ hG hS (by decide) tw_249 tw_15 xa_C_58_60 xb_C_58_60 xo_C_58_60 hl17.1 d_C_spot_11 d_C_spot_14 d_C_spot_15 d_C_spot_18 (fun x hx => (hxt x hx).elim) (Nat.le_of_ble_eq_true rfl) (Nat.le_of_ble_eq_true rfl) rfl rfl hlk h.2.2 h.1 h.2.1
def w_L_spot (z mi mc ms : Nat) (post : Int32 → Sg → Prop) (g : Sg) (p0 : Option Nat) (p1 : Int32) (p2 : Int32) (p3 : Option Nat) : Prop := ∃ a11, p0 = some a11 ∧ (isK g a11 [4] ∧ ∃ c13 c14 : Nat, 0 + c13 ≤ mc ∧ 0 + c14 ≤ ms ∧ w_C_spot z mi c13 c14 (fun (x16 : Int32) (g15 : Sg) => ∃ a17, p3 = some a17 ∧ (∃ j19 : Nat, inA g15 a17 103 (0 : Int32) j19 ∧ ∀ g20 : Sg, g20 = sL g15 a17 j19 (x16.toInt64) → post (0 : Int32) g20)) (fun (i21 : Nat) (g22 : Sg) => (i21 = 0 ∧ post (1 : Int32) g22) ∨ (i21 = 1 ∧ post (2 : Int32) g22)) g a11 p1 p2)
set_option maxHeartbeats 4000000 in
set_option maxRecDepth 100000 in
theorem s_L_spot {l : Launch} {D : va_G} {cA : Nat → ClassId} {sz z mi mc ms : Nat} {g : Sg} {post : Int32 → Sg → Prop} {p0 : Option Nat} {p1 : Int32} {p2 : Int32} {p3 : Option Nat} (hst : l.stackTraces = false) (h : w_L_spot z mi mc ms post g p0 p1 p2 p3) : Met l y_L_spot (Cond.codeWith y_L_spot b_L_spot 5 (some FieldType.int) [(0, 10, 13, 13), (0, 10, 17, 15)] :: TBL) ({ frames := 7, cells := mc, slots := ms, locals := 171 } : Room) (Pg D cA sz z mi [va_rf p0, .int p1, .int p2, va_rf p3] g) (Qg D cA sz (pI post)) mc ms (oA sz) := by
  refine m_codeW (lv := [(0, va_rf p0), (1, .int p1), (2, .int p2), (3, va_rf p3)]) (by decide +kernel) (by simp [lg_sl, rf_cat, cat_i, cat_r, cat_l]) (by simp [lv_args, rf_cat, cat_i, cat_r, cat_l]) ?_
  intro p e s m below meth c ls htb S hr hlk hnm hZ hG hS hl
  obtain ⟨hx, hb, hml, hown, hts⟩ := id S
  have hk : 0 ≤ mc ∧ 0 ≤ ms := ⟨Nat.zero_le _, Nat.zero_le _⟩
  refine q_aload_n hx hb d_L_spot_0 rfl (lv_at hl 3 rfl) ?_
  refine lv_iconst (v := (0 : Int32)) hx hb d_L_spot_1 (by decide) ?_
  refine q_aload_n hx hb d_L_spot_2 rfl (lv_at hl 0 rfl) ?_
  refine lv_iload_n hx hb d_L_spot_3 rfl (lv_at hl 1 rfl) ?_
  refine lv_iload_n hx hb d_L_spot_4 rfl (lv_at hl 2 rfl) ?_
  obtain ⟨a11, e9, h⟩ := h
  subst e9
  have hl12 : lv_has ls 5 [(0, .ref a11), (1, .int p1), (2, .int p2), (3, va_rf p3)] := hl
  obtain ⟨h9, h⟩ := h
  obtain ⟨c13, c14, k1, k2, h⟩ := h
  obtain ⟨n9, h9⟩ := isK1 h9
  refine x_callI (xrun_V (As := [.int p1, .int p2]) (rest := [.int ((0 : Int32)), va_rf p3]) S hZ hG hS (s_C_spot hst h) tw_646 tw_643 tw_644 tw_645 tw_1 nk_C_spot h9 (by decide) rfl ⟨Nat.le_of_ble_eq_true rfl, Nat.le_of_ble_eq_true rfl⟩ rfl hl.1 rfl (by simp [rf_cat, cat_i, cat_r, cat_l]) d_L_spot_5 ⟨k1, k2⟩) hS (fun i9 ce q9 g22 H locs hi h28 hG hS hq1 hq2 hq3 => ?_) (fun x16 g15 H locs h27 hG hS => ?_)
  · have hk := And.intro k1 k2
    replace h := h28
    rcases h with ⟨rfl, h⟩ | ⟨rfl, h⟩
    · refine r_catch (i := 0) S hZ (by decide) [] ⟨0, 10, 13, 13⟩ [⟨0, 10, 17, 15⟩] htb (fun y hy => nomatch hy) (by decide) (by decide) tw_232 hq1 hq2 hq3 ?_
      refine q_astore (o := (some q9)) (lv' := [(0, .ref a11), (1, .int p1), (2, .int p2), (3, va_rf p3)]) hx hb d_L_spot_13 hl12 (by decide) (.k 0 rfl (by decide) (by decide) (.k 1 rfl (by decide) (by decide) (.k 2 rfl (by decide) (by decide) (.c 3 rfl (by decide) (rf_cat _) .e)))) (fun ls24 hl24 => ?_)
      refine lv_iconst (v := (1 : Int32)) hx hb d_L_spot_15 (by decide) ?_
      exact r_iret (v := (1 : Int32)) S hr hlk hG hS h hk.1 hk.2 d_L_spot_16
    · refine r_catch (i := 1) S hZ (by decide) [⟨0, 10, 13, 13⟩] ⟨0, 10, 17, 15⟩ [] htb (List.forall_mem_cons.mpr ⟨⟨by decide, 0, by decide, by decide, tw_232⟩, (fun y hy => nomatch hy)⟩) (by decide) (by decide) tw_233 hq1 hq2 hq3 ?_
      refine q_astore (o := (some q9)) (lv' := [(0, .ref a11), (1, .int p1), (2, .int p2), (3, va_rf p3)]) hx hb d_L_spot_17 hl12 (by decide) (.k 0 rfl (by decide) (by decide) (.k 1 rfl (by decide) (by decide) (.k 2 rfl (by decide) (by decide) (.c 3 rfl (by decide) (rf_cat _) .e)))) (fun ls26 hl26 => ?_)
      refine lv_iconst (v := (2 : Int32)) hx hb d_L_spot_19 (by decide) ?_
      exact r_iret (v := (2 : Int32)) S hr hlk hG hS h hk.1 hk.2 d_L_spot_20
  · have hk := And.intro k1 k2
    replace h := h27
    refine lv_i2l hx hb d_L_spot_8 rfl ?_
    obtain ⟨a17, e9, h⟩ := h
    subst e9
    have hl18 : lv_has ls 5 [(0, .ref a11), (1, .int p1), (2, .int p2), (3, .ref a17)] := hl12
    obtain ⟨j19, h9, h⟩ := h
    refine r_last S hZ hG hS h9 d_L_spot_9 (fun g20 H locs e9 hG hS => ?_)
    replace h := h g20 e9
    refine lv_goto (tgt := 21) hx hb d_L_spot_10 (by decide) ?_
    refine lv_iconst (v := (0 : Int32)) hx hb d_L_spot_21 (by decide) ?_
    exact r_iret (v := (0 : Int32)) S hr hlk hG hS h hk.1 hk.2 d_L_spot_22
def w_C_haveCome (z mi mc ms : Nat) (post : Int32 → Sg → Prop) (g : Sg) (this : Nat) (p0 : Int32) : Prop := (p0 < 0 → post (0 : Int32) g) ∧ (¬ p0 < 0 → (hasR g this 22 ∧ ∀ o11 : Option Nat, o11 = fR g 22 this → ∃ a12, o11 = some a12 ∧ (isK g a12 [0] ∧ ∃ c13 c14 : Nat, 0 + c13 ≤ mc ∧ 0 + c14 ≤ ms ∧ w_AL_size z mi c13 c14 (fun (x16 : Int32) (g15 : Sg) => (x16 < p0 → post (0 : Int32) g15) ∧ (¬ x16 < p0 → post (1 : Int32) g15)) g a12)))
set_option maxHeartbeats 4000000 in
set_option maxRecDepth 100000 in
theorem s_C_haveCome {l : Launch} {D : va_G} {cA : Nat → ClassId} {sz z mi mc ms : Nat} {g : Sg} {post : Int32 → Sg → Prop} {this : Nat} {p0 : Int32} (h : w_C_haveCome z mi mc ms post g this p0) : Met l y_C_haveCome (Cond.code y_C_haveCome b_C_haveCome 2 (some FieldType.boolean) :: TBL) ({ frames := 1, cells := mc, slots := ms, locals := 20 } : Room) (Pg D cA sz z mi [.ref this, .int p0] g) (Qg D cA sz (pI post)) mc ms (oA sz) := by
  refine m_code (lv := [(0, .ref this), (1, .int p0)]) (by decide +kernel) (Nat.le_of_ble_eq_true rfl) rfl ?_
  intro p e s m below meth c ls S hr hlk hnm hZ hG hS hl
  obtain ⟨hx, hb, hml, hown, hts⟩ := id S
  have hk : 0 ≤ mc ∧ 0 ≤ ms := ⟨Nat.zero_le _, Nat.zero_le _⟩
  refine lv_iload_n hx hb d_C_haveCome_0 rfl (lv_at hl 1 rfl) ?_
  refine lv_if_lt (tgt := 19) hx hb d_C_haveCome_1 (by decide) (fun c9 => ?_) (fun c9 => ?_)
  · replace h := h.1 c9
    refine lv_iconst (v := (0 : Int32)) hx hb d_C_haveCome_19 (by decide) ?_
    exact r_zret (v := (0 : Int32)) S hr hlk rfl hG hS h hk.1 hk.2 d_C_haveCome_20
  · replace h := h.2 c9
    refine lv_iload_n hx hb d_C_haveCome_4 rfl (lv_at hl 1 rfl) ?_
    refine lv_aload_n hx hb d_C_haveCome_5 rfl (lv_at hl 0 rfl) ?_
    refine r_getR (f := 22) S hZ hG rfl h.1 (hts _ tw_153) (fun _ h9 => h9) d_C_haveCome_6 (fun o11 e9 => ?_)
    replace h := h.2 o11 e9
    obtain ⟨a12, e9, h⟩ := h
    subst e9
    obtain ⟨h9, h⟩ := h
    obtain ⟨c13, c14, k1, k2, h⟩ := h
    obtain ⟨n9, h9⟩ := isK1 h9
    refine q_callI (run_V (As := []) (rest := [.int p0]) S hZ hG hS (s_AL_size h) tw_99 tw_247 tw_97 tw_98 tw_4 nk_AL_size h9 (by decide) rfl ⟨Nat.le_of_ble_eq_true rfl, Nat.le_of_ble_eq_true rfl⟩ rfl hl.1 rfl (Nat.le_of_ble_eq_true rfl) d_C_haveCome_9 ⟨k1, k2⟩) hS (fun x16 g15 H locs h17 hG hS => ?_)
    have hk := And.intro k1 k2
    replace h := h17
    refine lv_icmp_gt (tgt := 19) hx hb d_C_haveCome_12 (by decide) (fun c9 => ?_) (fun c9 => ?_)
    · replace h := h.1 c9
      refine lv_iconst (v := (0 : Int32)) hx hb d_C_haveCome_19 (by decide) ?_
      exact r_zret (v := (0 : Int32)) S hr hlk rfl hG hS h hk.1 hk.2 d_C_haveCome_20
    · replace h := h.2 c9
      refine lv_iconst (v := (1 : Int32)) hx hb d_C_haveCome_15 (by decide) ?_
      refine lv_goto (tgt := 20) hx hb d_C_haveCome_16 (by decide) ?_
      exact r_zret (v := (1 : Int32)) S hr hlk rfl hG hS h hk.1 hk.2 d_C_haveCome_20
def w_C_was (z mi mc ms : Nat) (post : Int32 → Sg → Prop) (px : Nat → Sg → Prop) (g : Sg) (this : Nat) (p0 : Int32) : Prop := (isK g this [4] ∧ ∃ c11 c12 : Nat, 0 + c11 ≤ mc ∧ 0 + c12 ≤ ms ∧ w_C_haveCome z mi c11 c12 (fun (x14 : Int32) (g13 : Sg) => (¬ x14 = 0 → (isK g13 this [4] ∧ ∃ c15 c16 : Nat, (0 + c11) + c15 ≤ mc ∧ (0 + c12) + c16 ≤ ms ∧ w_C_lengthAfter z mi c15 c16 (fun (x18 : Int32) (g17 : Sg) => post x18 g17) g13 this p0)) ∧ (x14 = 0 → (0 + c11) + 1 ≤ mc ∧ (0 + c12) + 6 ≤ ms ∧ px 4 g13)) g this p0)
set_option maxHeartbeats 4000000 in
set_option maxRecDepth 100000 in
theorem s_C_was {l : Launch} {D : va_G} {cA : Nat → ClassId} {sz z mi mc ms : Nat} {g : Sg} {post : Int32 → Sg → Prop} {px : Nat → Sg → Prop} {this : Nat} {p0 : Int32} (hst : l.stackTraces = false) (h : w_C_was z mi mc ms post px g this p0) : vx_Met l y_C_was (Cond.code y_C_was b_C_was 2 (some FieldType.int) :: TBL) ({ frames := 6, cells := mc, slots := ms, locals := 145 } : Room) (Pg D cA sz z mi [.ref this, .int p0] g) (Qg D cA sz (pI post)) (Xg D cA sz px) mc ms (oA sz) := by
  refine m_codeX (lv := [(0, .ref this), (1, .int p0)]) (by decide +kernel) (Nat.le_of_ble_eq_true rfl) rfl ?_
  intro p e s m below meth c ls hxt S hr hlk hnm hZ hG hS hl
  obtain ⟨hx, hb, hml, hown, hts⟩ := id S
  have hk : 0 ≤ mc ∧ 0 ≤ ms := ⟨Nat.zero_le _, Nat.zero_le _⟩
  refine lv_aload_n hx hb d_C_was_0 rfl (lv_at hl 0 rfl) ?_
  refine lv_iload_n hx hb d_C_was_1 rfl (lv_at hl 1 rfl) ?_
  obtain ⟨h9, h⟩ := h
  obtain ⟨c11, c12, k1, k2, h⟩ := h
  obtain ⟨n9, h9⟩ := isK1 h9
  refine q_callI (run_V (As := [.int p0]) (rest := []) S hZ hG hS (s_C_haveCome h) tw_661 tw_658 tw_660 tp_32 tw_1 nk_C_haveCome h9 (by decide) rfl ⟨Nat.le_of_ble_eq_true rfl, Nat.le_of_ble_eq_true rfl⟩ rfl hl.1 rfl (by decide) d_C_was_2 ⟨k1, k2⟩) hS (fun x14 g13 H locs h20 hG hS => ?_)
  have hk := And.intro k1 k2
  replace h := h20
  refine lv_if_ne (tgt := 16) hx hb d_C_was_5 (by decide) (fun c9 => ?_) (fun c9 => ?_)
  · replace h := h.1 c9
    refine lv_aload_n hx hb d_C_was_16 rfl (lv_at hl 0 rfl) ?_
    refine lv_iload_n hx hb d_C_was_17 rfl (lv_at hl 1 rfl) ?_
    obtain ⟨h9, h⟩ := h
    obtain ⟨c15, c16, k1, k2, h⟩ := h
    obtain ⟨n9, h9⟩ := isK1 h9
    refine q_callI (run_V (As := [.int p0]) (rest := []) S hZ hG hS (s_C_lengthAfter h) tw_627 tw_624 tw_626 tp_30 tw_1 nk_C_lengthAfter h9 (by decide) rfl ⟨Nat.le_of_ble_eq_true rfl, Nat.le_of_ble_eq_true rfl⟩ rfl hl.1 rfl (by decide) d_C_was_18 ⟨k1, k2⟩) hS (fun x18 g17 H locs h19 hG hS => ?_)
    have hk := And.intro k1 k2
    replace h := h19
    exact vx_ret (r_iret (v := x18) S hr hlk hG hS h hk.1 hk.2 d_C_was_21)
  · replace h := h.2 c9
    exact r_throw (i := 4) S hst hZ hG hS (by decide) tw_432 tw_21 xa_C_108_110 xb_C_108_110 xo_C_108_110 hl.1 d_C_was_8 d_C_was_11 d_C_was_12 d_C_was_15 (fun x hx => (hxt x hx).elim) (Nat.le_of_ble_eq_true rfl) (Nat.le_of_ble_eq_true rfl) rfl rfl hlk h.2.2 h.1 h.2.1
def w_L_was (z mi mc ms : Nat) (post : Int32 → Sg → Prop) (g : Sg) (p0 : Option Nat) (p1 : Int32) (p2 : Option Nat) : Prop := ∃ a11, p0 = some a11 ∧ (isK g a11 [4] ∧ ∃ c13 c14 : Nat, 0 + c13 ≤ mc ∧ 0 + c14 ≤ ms ∧ w_C_was z mi c13 c14 (fun (x16 : Int32) (g15 : Sg) => ∃ a17, p2 = some a17 ∧ (∃ j19 : Nat, inA g15 a17 103 (0 : Int32) j19 ∧ ∀ g20 : Sg, g20 = sL g15 a17 j19 (x16.toInt64) → post (0 : Int32) g20)) (fun (i21 : Nat) (g22 : Sg) => (i21 = 4 ∧ post (1 : Int32) g22)) g a11 p1)
set_option maxHeartbeats 4000000 in
set_option maxRecDepth 100000 in
theorem s_L_was {l : Launch} {D : va_G} {cA : Nat → ClassId} {sz z mi mc ms : Nat} {g : Sg} {post : Int32 → Sg → Prop} {p0 : Option Nat} {p1 : Int32} {p2 : Option Nat} (hst : l.stackTraces = false) (h : w_L_was z mi mc ms post g p0 p1 p2) : Met l y_L_was (Cond.codeWith y_L_was b_L_was 4 (some FieldType.int) [(0, 9, 12, 29)] :: TBL) ({ frames := 7, cells := mc, slots := ms, locals := 166 } : Room) (Pg D cA sz z mi [va_rf p0, .int p1, va_rf p2] g) (Qg D cA sz (pI post)) mc ms (oA sz) := by
  refine m_codeW (lv := [(0, va_rf p0), (1, .int p1), (2, va_rf p2)]) (by decide +kernel) (by simp [lg_sl, rf_cat, cat_i, cat_r, cat_l]) (by simp [lv_args, rf_cat, cat_i, cat_r, cat_l]) ?_
  intro p e s m below meth c ls htb S hr hlk hnm hZ hG hS hl
  obtain ⟨hx, hb, hml, hown, hts⟩ := id S
  have hk : 0 ≤ mc ∧ 0 ≤ ms := ⟨Nat.zero_le _, Nat.zero_le _⟩
  refine q_aload_n hx hb d_L_was_0 rfl (lv_at hl 2 rfl) ?_
  refine lv_iconst (v := (0 : Int32)) hx hb d_L_was_1 (by decide) ?_
  refine q_aload_n hx hb d_L_was_2 rfl (lv_at hl 0 rfl) ?_
  refine lv_iload_n hx hb d_L_was_3 rfl (lv_at hl 1 rfl) ?_
  obtain ⟨a11, e9, h⟩ := h
  subst e9
  have hl12 : lv_has ls 4 [(0, .ref a11), (1, .int p1), (2, va_rf p2)] := hl
  obtain ⟨h9, h⟩ := h
  obtain ⟨c13, c14, k1, k2, h⟩ := h
  obtain ⟨n9, h9⟩ := isK1 h9
  refine x_callI (xrun_V (As := [.int p1]) (rest := [.int ((0 : Int32)), va_rf p2]) S hZ hG hS (s_C_was hst h) tw_657 tw_654 tw_655 tw_656 tw_1 nk_C_was h9 (by decide) rfl ⟨Nat.le_of_ble_eq_true rfl, Nat.le_of_ble_eq_true rfl⟩ rfl hl.1 rfl (by simp [rf_cat, cat_i, cat_r, cat_l]) d_L_was_4 ⟨k1, k2⟩) hS (fun i9 ce q9 g22 H locs hi h26 hG hS hq1 hq2 hq3 => ?_) (fun x16 g15 H locs h25 hG hS => ?_)
  · have hk := And.intro k1 k2
    replace h := h26
    obtain ⟨rfl, h⟩ := h
    refine r_catch (i := 4) S hZ (by decide) [] ⟨0, 9, 12, 29⟩ [] htb (fun y hy => nomatch hy) (by decide) (by decide) tw_398 hq1 hq2 hq3 ?_
    refine q_astore_n (o := (some q9)) (lv' := [(0, .ref a11), (1, .int p1), (2, va_rf p2)]) hx hb d_L_was_12 rfl hl12 (by decide) (.k 0 rfl (by decide) (by decide) (.k 1 rfl (by decide) (by decide) (.c 2 rfl (by decide) (rf_cat _) .e))) (fun ls24 hl24 => ?_)
    refine lv_iconst (v := (1 : Int32)) hx hb d_L_was_13 (by decide) ?_
    exact r_iret (v := (1 : Int32)) S hr hlk hG hS h hk.1 hk.2 d_L_was_14
  · have hk := And.intro k1 k2
    replace h := h25
    refine lv_i2l hx hb d_L_was_7 rfl ?_
    obtain ⟨a17, e9, h⟩ := h
    subst e9
    have hl18 : lv_has ls 4 [(0, .ref a11), (1, .int p1), (2, .ref a17)] := hl12
    obtain ⟨j19, h9, h⟩ := h
    refine r_last S hZ hG hS h9 d_L_was_8 (fun g20 H locs e9 hG hS => ?_)
    replace h := h g20 e9
    refine lv_goto (tgt := 15) hx hb d_L_was_9 (by decide) ?_
    refine lv_iconst (v := (0 : Int32)) hx hb d_L_was_15 (by decide) ?_
    exact r_iret (v := (0 : Int32)) S hr hlk hG hS h hk.1 hk.2 d_L_was_16
def w_C_wasAt (z mi mc ms : Nat) (post : Int32 → Sg → Prop) (px : Nat → Sg → Prop) (g : Sg) (this : Nat) (p0 : Int32) (p1 : Int32) : Prop := (isK g this [4] ∧ ∃ c11 c12 : Nat, 0 + c11 ≤ mc ∧ 0 + c12 ≤ ms ∧ w_C_haveCome z mi c11 c12 (fun (x14 : Int32) (g13 : Sg) => (x14 = 0 → (0 + c11) + 1 ≤ mc ∧ (0 + c12) + 6 ≤ ms ∧ px 4 g13) ∧ (¬ x14 = 0 → (isK g13 this [4] ∧ ∃ c16 c17 : Nat, (0 + c11) + c16 ≤ mc ∧ (0 + c12) + c17 ≤ ms ∧ w_C_textNode z mi c16 c17 (fun (o19 : Option Nat) (g18 : Sg) => (o19 = none → ((0 + c11) + c16) + 1 ≤ mc ∧ ((0 + c12) + c17) + 6 ≤ ms ∧ px 4 g18) ∧ (∀ a21, o19 = some a21 → (hasI g18 a21 13 ∧ ∀ x24 : Int32, x24 = fI g18 13 a21 → post x24 g18))) g13 this p0 p1))) g this p0)
set_option maxHeartbeats 4000000 in
set_option maxRecDepth 100000 in
theorem s_C_wasAt {l : Launch} {D : va_G} {cA : Nat → ClassId} {sz z mi mc ms : Nat} {g : Sg} {post : Int32 → Sg → Prop} {px : Nat → Sg → Prop} {this : Nat} {p0 : Int32} {p1 : Int32} (hst : l.stackTraces = false) (h : w_C_wasAt z mi mc ms post px g this p0 p1) : vx_Met l y_C_wasAt (Cond.code y_C_wasAt b_C_wasAt 4 (some FieldType.int) :: TBL) ({ frames := 6, cells := mc, slots := ms, locals := 169 } : Room) (Pg D cA sz z mi [.ref this, .int p0, .int p1] g) (Qg D cA sz (pI post)) (Xg D cA sz px) mc ms (oA sz) := by
  refine m_codeX (lv := [(0, .ref this), (1, .int p0), (2, .int p1)]) (by decide +kernel) (Nat.le_of_ble_eq_true rfl) rfl ?_
  intro p e s m below meth c ls hxt S hr hlk hnm hZ hG hS hl
  obtain ⟨hx, hb, hml, hown, hts⟩ := id S
  have hk : 0 ≤ mc ∧ 0 ≤ ms := ⟨Nat.zero_le _, Nat.zero_le _⟩
  refine lv_aload_n hx hb d_C_wasAt_0 rfl (lv_at hl 0 rfl) ?_
  refine lv_iload_n hx hb d_C_wasAt_1 rfl (lv_at hl 1 rfl) ?_
  obtain ⟨h9, h⟩ := h
  obtain ⟨c11, c12, k1, k2, h⟩ := h
  obtain ⟨n9, h9⟩ := isK1 h9
  refine q_callI (run_V (As := [.int p0]) (rest := []) S hZ hG hS (s_C_haveCome h) tw_661 tw_658 tw_660 tp_32 tw_1 nk_C_haveCome h9 (by decide) rfl ⟨Nat.le_of_ble_eq_true rfl, Nat.le_of_ble_eq_true rfl⟩ rfl hl.1 rfl (by decide) d_C_wasAt_2 ⟨k1, k2⟩) hS (fun x14 g13 H locs h26 hG hS => ?_)
  have hk := And.intro k1 k2
  replace h := h26
  refine lv_if_eq (tgt := 17) hx hb d_C_wasAt_5 (by decide) (fun c9 => ?_) (fun c9 => ?_)
  · replace h := h.1 c9
    refine lv_null hx hb d_C_wasAt_17 ?_
    refine q_astore_n (o := none) (lv' := [(3, .null), (0, .ref this), (1, .int p0), (2, .int p1)]) hx hb d_C_wasAt_18 rfl hl (by decide) (.n (.k 0 rfl (by decide) (by decide) (.k 1 rfl (by decide) (by decide) (.c 2 rfl (by decide) rfl .e)))) (fun ls15 hl15 => ?_)
    refine q_aload_n (o := none) hx hb d_C_wasAt_19 rfl (lv_at hl15 0 rfl) ?_
    refine lv_ifnonnullN hx hb d_C_wasAt_20 ?_
    exact r_throw (i := 4) S hst hZ hG hS (by decide) tw_432 tw_21 xa_C_108_110 xb_C_108_110 xo_C_108_110 hl15.1 d_C_wasAt_23 d_C_wasAt_26 d_C_wasAt_27 d_C_wasAt_30 (fun x hx => (hxt x hx).elim) (Nat.le_of_ble_eq_true rfl) (Nat.le_of_ble_eq_true rfl) rfl rfl hlk h.2.2 h.1 h.2.1
  · replace h := h.2 c9
    refine lv_aload_n hx hb d_C_wasAt_8 rfl (lv_at hl 0 rfl) ?_
    refine lv_iload_n hx hb d_C_wasAt_9 rfl (lv_at hl 1 rfl) ?_
    refine lv_iload_n hx hb d_C_wasAt_10 rfl (lv_at hl 2 rfl) ?_
    obtain ⟨h9, h⟩ := h
    obtain ⟨c16, c17, k1, k2, h⟩ := h
    obtain ⟨n9, h9⟩ := isK1 h9
    refine q_callR (run_V (As := [.int p0, .int p1]) (rest := []) S hZ hG hS (s_C_textNode h) tw_623 tw_620 tw_622 tp_29 tw_1 nk_C_textNode h9 (by decide) rfl ⟨Nat.le_of_ble_eq_true rfl, Nat.le_of_ble_eq_true rfl⟩ rfl hl.1 rfl (by decide) d_C_wasAt_11 ⟨k1, k2⟩) hS (fun o19 g18 H locs h25 hG hS => ?_)
    have hk := And.intro k1 k2
    replace h := h25
    refine lv_goto (tgt := 18) hx hb d_C_wasAt_14 (by decide) ?_
    refine q_astore_n (o := o19) (lv' := [(3, va_rf o19), (0, .ref this), (1, .int p0), (2, .int p1)]) hx hb d_C_wasAt_18 rfl hl (by decide) (.n (.k 0 rfl (by decide) (by decide) (.k 1 rfl (by decide) (by decide) (.c 2 rfl (by decide) rfl .e)))) (fun ls20 hl20 => ?_)
    refine q_aload_n hx hb d_C_wasAt_19 rfl (lv_at hl20 0 rfl) ?_
    refine q_ifnonnull (tgt := 31) hx hb d_C_wasAt_20 (by decide) (fun a21 e9 => ?_) (fun e9 => ?_)
    · replace h := h.2 a21 e9
      subst e9
      have hl23 : lv_has ls20 4 [(3, .ref a21), (0, .ref this), (1, .int p0), (2, .int p1)] := hl20
      refine lv_aload_n hx hb d_C_wasAt_31 rfl (lv_at hl23 0 rfl) ?_
      refine r_getI (f := 13) S hZ hG rfl h.1 (hts _ tw_102) (fun _ h9 => h9) d_C_wasAt_32 (fun x24 e9 => ?_)
      replace h := h.2 x24 e9
      exact vx_ret (r_iret (v := x24) S hr hlk hG hS h hk.1 hk.2 d_C_wasAt_35)
    · replace h := h.1 e9
      subst e9
      have hl22 : lv_has ls20 4 [(3, .null), (0, .ref this), (1, .int p0), (2, .int p1)] := hl20
      exact r_throw (i := 4) S hst hZ hG hS (by decide) tw_432 tw_21 xa_C_108_110 xb_C_108_110 xo_C_108_110 hl22.1 d_C_wasAt_23 d_C_wasAt_26 d_C_wasAt_27 d_C_wasAt_30 (fun x hx => (hxt x hx).elim) (Nat.le_of_ble_eq_true rfl) (Nat.le_of_ble_eq_true rfl) rfl rfl hlk h.2.2 h.1 h.2.1
def w_L_wasAt (z mi mc ms : Nat) (post : Int32 → Sg → Prop) (g : Sg) (p0 : Option Nat) (p1 : Int32) (p2 : Int32) (p3 : Option Nat) : Prop := ∃ a11, p0 = some a11 ∧ (isK g a11 [4] ∧ ∃ c13 c14 : Nat, 0 + c13 ≤ mc ∧ 0 + c14 ≤ ms ∧ w_C_wasAt z mi c13 c14 (fun (x16 : Int32) (g15 : Sg) => ∃ a17, p3 = some a17 ∧ (∃ j19 : Nat, inA g15 a17 103 (0 : Int32) j19 ∧ ∀ g20 : Sg, g20 = sL g15 a17 j19 (x16.toInt64) → post (0 : Int32) g20)) (fun (i21 : Nat) (g22 : Sg) => (i21 = 4 ∧ post (1 : Int32) g22)) g a11 p1 p2)
set_option maxHeartbeats 4000000 in
set_option maxRecDepth 100000 in
theorem s_L_wasAt {l : Launch} {D : va_G} {cA : Nat → ClassId} {sz z mi mc ms : Nat} {g : Sg} {post : Int32 → Sg → Prop} {p0 : Option Nat} {p1 : Int32} {p2 : Int32} {p3 : Option Nat} (hst : l.stackTraces = false) (h : w_L_wasAt z mi mc ms post g p0 p1 p2 p3) : Met l y_L_wasAt (Cond.codeWith y_L_wasAt b_L_wasAt 5 (some FieldType.int) [(0, 10, 13, 29)] :: TBL) ({ frames := 7, cells := mc, slots := ms, locals := 192 } : Room) (Pg D cA sz z mi [va_rf p0, .int p1, .int p2, va_rf p3] g) (Qg D cA sz (pI post)) mc ms (oA sz) := by
  refine m_codeW (lv := [(0, va_rf p0), (1, .int p1), (2, .int p2), (3, va_rf p3)]) (by decide +kernel) (by simp [lg_sl, rf_cat, cat_i, cat_r, cat_l]) (by simp [lv_args, rf_cat, cat_i, cat_r, cat_l]) ?_
  intro p e s m below meth c ls htb S hr hlk hnm hZ hG hS hl
  obtain ⟨hx, hb, hml, hown, hts⟩ := id S
  have hk : 0 ≤ mc ∧ 0 ≤ ms := ⟨Nat.zero_le _, Nat.zero_le _⟩
  refine q_aload_n hx hb d_L_wasAt_0 rfl (lv_at hl 3 rfl) ?_
  refine lv_iconst (v := (0 : Int32)) hx hb d_L_wasAt_1 (by decide) ?_
  refine q_aload_n hx hb d_L_wasAt_2 rfl (lv_at hl 0 rfl) ?_
  refine lv_iload_n hx hb d_L_wasAt_3 rfl (lv_at hl 1 rfl) ?_
  refine lv_iload_n hx hb d_L_wasAt_4 rfl (lv_at hl 2 rfl) ?_
  obtain ⟨a11, e9, h⟩ := h
  subst e9
  have hl12 : lv_has ls 5 [(0, .ref a11), (1, .int p1), (2, .int p2), (3, va_rf p3)] := hl
  obtain ⟨h9, h⟩ := h
  obtain ⟨c13, c14, k1, k2, h⟩ := h
  obtain ⟨n9, h9⟩ := isK1 h9
  refine x_callI (xrun_V (As := [.int p1, .int p2]) (rest := [.int ((0 : Int32)), va_rf p3]) S hZ hG hS (s_C_wasAt hst h) tw_668 tw_665 tw_666 tw_667 tw_1 nk_C_wasAt h9 (by decide) rfl ⟨Nat.le_of_ble_eq_true rfl, Nat.le_of_ble_eq_true rfl⟩ rfl hl.1 rfl (by simp [rf_cat, cat_i, cat_r, cat_l]) d_L_wasAt_5 ⟨k1, k2⟩) hS (fun i9 ce q9 g22 H locs hi h26 hG hS hq1 hq2 hq3 => ?_) (fun x16 g15 H locs h25 hG hS => ?_)
  · have hk := And.intro k1 k2
    replace h := h26
    obtain ⟨rfl, h⟩ := h
    refine r_catch (i := 4) S hZ (by decide) [] ⟨0, 10, 13, 29⟩ [] htb (fun y hy => nomatch hy) (by decide) (by decide) tw_398 hq1 hq2 hq3 ?_
    refine q_astore (o := (some q9)) (lv' := [(0, .ref a11), (1, .int p1), (2, .int p2), (3, va_rf p3)]) hx hb d_L_wasAt_13 hl12 (by decide) (.k 0 rfl (by decide) (by decide) (.k 1 rfl (by decide) (by decide) (.k 2 rfl (by decide) (by decide) (.c 3 rfl (by decide) (rf_cat _) .e)))) (fun ls24 hl24 => ?_)
    refine lv_iconst (v := (1 : Int32)) hx hb d_L_wasAt_15 (by decide) ?_
    exact r_iret (v := (1 : Int32)) S hr hlk hG hS h hk.1 hk.2 d_L_wasAt_16
  · have hk := And.intro k1 k2
    replace h := h25
    refine lv_i2l hx hb d_L_wasAt_8 rfl ?_
    obtain ⟨a17, e9, h⟩ := h
    subst e9
    have hl18 : lv_has ls 5 [(0, .ref a11), (1, .int p1), (2, .int p2), (3, .ref a17)] := hl12
    obtain ⟨j19, h9, h⟩ := h
    refine r_last S hZ hG hS h9 d_L_wasAt_9 (fun g20 H locs e9 hG hS => ?_)
    replace h := h g20 e9
    refine lv_goto (tgt := 17) hx hb d_L_wasAt_10 (by decide) ?_
    refine lv_iconst (v := (0 : Int32)) hx hb d_L_wasAt_17 (by decide) ?_
    exact r_iret (v := (0 : Int32)) S hr hlk hG hS h hk.1 hk.2 d_L_wasAt_18
def w_C_line_19 (z mi mc ms : Nat) (post : Int32 → Sg → Prop) (px : Nat → Sg → Prop) : Nat → Nat → Nat → Sg → Nat → Int32 → Int32 → Int32 → Option Nat → Prop
  | 0 => fun _ _ _ _ _ _ _ _ => False
  | n + 1 => fun kc ks g this v1 v2 v3 v4 => (v4 = none → (¬ v1 = (-1 : Int32) → kc + 1 ≤ mc ∧ ks + 6 ≤ ms ∧ px 0 g) ∧ (v1 = (-1 : Int32) → post (v3 + (1 : Int32)) g)) ∧ (∀ a17, v4 = some a17 → (hasR g this 22 ∧ ∀ o20 : Option Nat, o20 = fR g 22 this → ∃ a21, o20 = some a21 ∧ (isK g a21 [0] ∧ ∃ c22 c23 : Nat, kc + c22 ≤ mc ∧ ks + c23 ≤ ms ∧ w_AL_size z mi c22 c23 (fun (x25 : Int32) (g24 : Sg) => (isK g24 a17 [3] ∧ ∃ c26 c27 : Nat, (kc + c22) + c26 ≤ mc ∧ (ks + c23) + c27 ≤ ms ∧ w_N_isInTextOf z mi c26 c27 (fun (x29 : Int32) (g28 : Sg) => (x29 = 0 → (hasR g28 a17 18 ∧ ∀ o30 : Option Nat, o30 = fR g28 18 a17 → w_C_line_19 z mi mc ms post px n ((kc + c22) + c26) ((ks + c23) + c27) g28 this v1 v2 v3 o30)) ∧ (¬ x29 = 0 → (hasI g28 a17 13 ∧ ∀ x33 : Int32, x33 = fI g28 13 a17 → (¬ x33 = (10 : Int32) → (hasR g28 a17 18 ∧ ∀ o34 : Option Nat, o34 = fR g28 18 a17 → w_C_line_19 z mi mc ms post px n ((kc + c22) + c26) ((ks + c23) + c27) g28 this v1 (v2 + (1 : Int32)) v3 o34)) ∧ (x33 = (10 : Int32) → (¬ (v3 + (1 : Int32)) = v1 → (hasR g28 a17 18 ∧ ∀ o37 : Option Nat, o37 = fR g28 18 a17 → w_C_line_19 z mi mc ms post px n ((kc + c22) + c26) ((ks + c23) + c27) g28 this v1 (v2 + (1 : Int32)) (v3 + (1 : Int32)) o37)) ∧ ((v3 + (1 : Int32)) = v1 → post (v2 + (1 : Int32)) g28))))) g24 a17 x25)) g a21)))
set_option maxHeartbeats 4000000 in
set_option maxRecDepth 100000 in
theorem s_C_line_19 {p : Program} {l : Launch} {e : Env} {s : State} {m : MethodId} {args : Array Value} {below : List Frame} {meth : Method} {c : Code} {D : va_G} {cA : Nat → ClassId} {sz z mi mc ms : Nat} {post : Int32 → Sg → Prop} {px : Nat → Sg → Prop} (S : CallFix p m c b_C_line 5 s args TBL "WeaveCore") (hst : l.stackTraces = false) (hZ : Ws D cA sz z mi s) (hr : meth.sig.returnType = (some FieldType.int)) (hlk : meth.locks = false) (hxt : ∀ x ∈ c.exceptionTable.toList, False) :
    ∀ n : Nat, ∀ (kc ks : Nat) (g : Sg) (this : Nat) (v1 : Int32) (v2 : Int32) (v3 : Int32) (v4 : Option Nat) (H : Heap) (locs : List Loc) (ls : Array Slot), kc ≤ mc ∧ ks ≤ ms → w_C_line_19 z mi mc ms post px n kc ks g this v1 v2 v3 v4 → WP D cA sz g H → va_S (oA sz) s.heap H locs → lv_has ls 5 [(0, .ref this), (1, .int v1), (2, .int v2), (3, .int v3), (4, va_rf v4)] → W p l e ({ frames := 6, cells := mc, slots := ms, locals := 90 } : Room) s m args below meth c H locs kc ks (vx_MQ below (Qg D cA sz (pI post)) (Xg D cA sz px) args s mc ms (oA sz)) (F0 m 19 ls []) := by
  obtain ⟨hx, hb, hml, hown, hts⟩ := id S
  intro n
  induction n with
  | zero =>
    intro kc ks g this v1 v2 v3 v4 H locs ls hk h hG hS hl
    exact h.elim
  | succ n ih =>
    intro kc ks g this v1 v2 v3 v4 H locs ls hk h hG hS hl
    refine q_aload hx hb d_C_line_19 (lv_at hl 4 rfl) ?_
    refine q_ifnull (tgt := 72) hx hb d_C_line_21 (by decide) (fun e9 => ?_) (fun a17 e9 => ?_)
    · replace h := h.1 e9
      subst e9
      have hl18 : lv_has ls 5 [(0, .ref this), (1, .int v1), (2, .int v2), (3, .int v3), (4, .null)] := hl
      refine lv_iload_n hx hb d_C_line_72 rfl (lv_at hl18 1 rfl) ?_
      refine lv_iconst (v := (-1 : Int32)) hx hb d_C_line_73 (by decide) ?_
      refine lv_icmp_ne (tgt := 81) hx hb d_C_line_74 (by decide) (fun c9 => ?_) (fun c9 => ?_)
      · replace h := h.1 c9
        exact r_throw (i := 0) S hst hZ hG hS (by decide) tw_249 tw_15 xa_C_58_60 xb_C_58_60 xo_C_58_60 hl18.1 d_C_line_81 d_C_line_84 d_C_line_85 d_C_line_88 (fun x hx => (hxt x hx).elim) (Nat.le_of_ble_eq_true rfl) (Nat.le_of_ble_eq_true rfl) rfl rfl hlk h.2.2 h.1 h.2.1
      · replace h := h.2 c9
        refine lv_iload_n hx hb d_C_line_77 rfl (lv_at hl18 3 rfl) ?_
        refine lv_iconst (v := (1 : Int32)) hx hb d_C_line_78 (by decide) ?_
        refine lv_iadd hx hb d_C_line_79 ?_
        exact vx_ret (r_iret (v := (v3 + (1 : Int32))) S hr hlk hG hS h hk.1 hk.2 d_C_line_80)
    · replace h := h.2 a17 e9
      subst e9
      have hl19 : lv_has ls 5 [(0, .ref this), (1, .int v1), (2, .int v2), (3, .int v3), (4, .ref a17)] := hl
      refine lv_aload hx hb d_C_line_24 (lv_at hl19 4 rfl) ?_
      refine lv_aload_n hx hb d_C_line_26 rfl (lv_at hl19 0 rfl) ?_
      refine r_getR (f := 22) S hZ hG rfl h.1 (hts _ tw_153) (fun _ h9 => h9) d_C_line_27 (fun o20 e9 => ?_)
      replace h := h.2 o20 e9
      obtain ⟨a21, e9, h⟩ := h
      subst e9
      obtain ⟨h9, h⟩ := h
      obtain ⟨c22, c23, k1, k2, h⟩ := h
      obtain ⟨n9, h9⟩ := isK1 h9
      refine q_callI (run_V (As := []) (rest := [.ref a17]) S hZ hG hS (s_AL_size h) tw_99 tw_247 tw_97 tw_98 tw_4 nk_AL_size h9 (by decide) rfl ⟨Nat.le_of_ble_eq_true rfl, Nat.le_of_ble_eq_true rfl⟩ rfl hl19.1 rfl (Nat.le_of_ble_eq_true rfl) d_C_line_30 ⟨k1, k2⟩) hS (fun x25 g24 H locs h40 hG hS => ?_)
      have hk := And.intro k1 k2
      replace h := h40
      obtain ⟨h9, h⟩ := h
      obtain ⟨c26, c27, k1, k2, h⟩ := h
      obtain ⟨n9, h9⟩ := isK1 h9
      refine q_callI (run_V (As := [.int x25]) (rest := []) S hZ hG hS (s_N_isInTextOf h) tw_631 tw_628 tw_629 tw_630 tw_6 nk_N_isInTextOf h9 (by decide) rfl ⟨Nat.le_of_ble_eq_true rfl, Nat.le_of_ble_eq_true rfl⟩ rfl hl19.1 rfl (by decide) d_C_line_33 ⟨k1, k2⟩) hS (fun x29 g28 H locs h39 hG hS => ?_)
      have hk := And.intro k1 k2
      replace h := h39
      refine lv_if_eq (tgt := 62) hx hb d_C_line_36 (by decide) (fun c9 => ?_) (fun c9 => ?_)
      · replace h := h.1 c9
        refine lv_aload hx hb d_C_line_62 (lv_at hl19 4 rfl) ?_
        refine r_getR (f := 18) S hZ hG rfl h.1 (hts _ tw_108) (fun _ h9 => h9) d_C_line_64 (fun o30 e9 => ?_)
        replace h := h.2 o30 e9
        refine q_astore (o := o30) (lv' := [(4, va_rf o30), (0, .ref this), (1, .int v1), (2, .int v2), (3, .int v3)]) hx hb d_C_line_67 hl19 (by decide) (.n (.k 0 rfl (by decide) (by decide) (.k 1 rfl (by decide) (by decide) (.k 2 rfl (by decide) (by decide) (.c 3 rfl (by decide) rfl .e))))) (fun ls31 hl31 => ?_)
        refine lv_goto (tgt := 19) hx hb d_C_line_69 (by decide) ?_
        exact ih _ _ _ _ _ _ _ _ _ _ _ hk h hG hS (lv_sub hl31 [1, 2, 3, 4, 0] rfl)
      · replace h := h.2 c9
        refine q_iinc (k := 2) (v := v2 + (1 : Int32)) (lv' := [(2, .int (v2 + (1 : Int32))), (0, .ref this), (1, .int v1), (3, .int v3), (4, .ref a17)]) hx hb d_C_line_39 hl19 rfl rfl (by decide) (.n (.k 0 rfl (by decide) (by decide) (.c 1 rfl (by decide) rfl (.k 3 rfl (by decide) (by decide) (.k 4 rfl (by decide) (by decide) .e))))) (fun ls32 hl32 => ?_)
        refine lv_aload hx hb d_C_line_42 (lv_at hl32 4 rfl) ?_
        refine r_getI (f := 13) S hZ hG rfl h.1 (hts _ tw_102) (fun _ h9 => h9) d_C_line_44 (fun x33 e9 => ?_)
        replace h := h.2 x33 e9
        refine lv_bipush (v := (10 : Int32)) hx hb d_C_line_47 (by decide) ?_
        refine lv_icmp_ne (tgt := 62) hx hb d_C_line_49 (by decide) (fun c9 => ?_) (fun c9 => ?_)
        · replace h := h.1 c9
          refine lv_aload hx hb d_C_line_62 (lv_at hl32 4 rfl) ?_
          refine r_getR (f := 18) S hZ hG rfl h.1 (hts _ tw_108) (fun _ h9 => h9) d_C_line_64 (fun o34 e9 => ?_)
          replace h := h.2 o34 e9
          refine q_astore (o := o34) (lv' := [(4, va_rf o34), (2, .int (v2 + (1 : Int32))), (0, .ref this), (1, .int v1), (3, .int v3)]) hx hb d_C_line_67 hl32 (by decide) (.n (.k 0 rfl (by decide) (by decide) (.k 1 rfl (by decide) (by decide) (.k 2 rfl (by decide) (by decide) (.c 3 rfl (by decide) rfl .e))))) (fun ls35 hl35 => ?_)
          refine lv_goto (tgt := 19) hx hb d_C_line_69 (by decide) ?_
          exact ih _ _ _ _ _ _ _ _ _ _ _ hk h hG hS (lv_sub hl35 [2, 3, 1, 4, 0] rfl)
        · replace h := h.2 c9
          refine q_iinc (k := 3) (v := v3 + (1 : Int32)) (lv' := [(3, .int (v3 + (1 : Int32))), (2, .int (v2 + (1 : Int32))), (0, .ref this), (1, .int v1), (4, .ref a17)]) hx hb d_C_line_52 hl32 rfl rfl (by decide) (.n (.c 0 rfl (by decide) rfl (.k 1 rfl (by decide) (by decide) (.k 2 rfl (by decide) (by decide) (.k 4 rfl (by decide) (by decide) .e))))) (fun ls36 hl36 => ?_)
          refine lv_iload_n hx hb d_C_line_55 rfl (lv_at hl36 0 rfl) ?_
          refine lv_iload_n hx hb d_C_line_56 rfl (lv_at hl36 3 rfl) ?_
          refine lv_icmp_ne (tgt := 62) hx hb d_C_line_57 (by decide) (fun c9 => ?_) (fun c9 => ?_)
          · replace h := h.1 c9
            refine lv_aload hx hb d_C_line_62 (lv_at hl36 4 rfl) ?_
            refine r_getR (f := 18) S hZ hG rfl h.1 (hts _ tw_108) (fun _ h9 => h9) d_C_line_64 (fun o37 e9 => ?_)
            replace h := h.2 o37 e9
            refine q_astore (o := o37) (lv' := [(4, va_rf o37), (3, .int (v3 + (1 : Int32))), (2, .int (v2 + (1 : Int32))), (0, .ref this), (1, .int v1)]) hx hb d_C_line_67 hl36 (by decide) (.n (.c 0 rfl (by decide) rfl (.k 1 rfl (by decide) (by decide) (.k 2 rfl (by decide) (by decide) (.k 3 rfl (by decide) (by decide) .e))))) (fun ls38 hl38 => ?_)
            refine lv_goto (tgt := 19) hx hb d_C_line_69 (by decide) ?_
            exact ih _ _ _ _ _ _ _ _ _ _ _ hk h hG hS (lv_sub hl38 [3, 4, 2, 1, 0] rfl)
          · replace h := h.2 c9
            refine lv_iload_n hx hb d_C_line_60 rfl (lv_at hl36 1 rfl) ?_
            exact vx_ret (r_iret (v := (v2 + (1 : Int32))) S hr hlk hG hS h hk.1 hk.2 d_C_line_61)
def w_C_line (z mi mc ms : Nat) (post : Int32 → Sg → Prop) (px : Nat → Sg → Prop) (g : Sg) (this : Nat) (p0 : Int32) : Prop := (¬ p0 = 0 → (hasR g this 23 ∧ ∀ o13 : Option Nat, o13 = fR g 23 this → ∃ a14, o13 = some a14 ∧ (hasR g a14 18 ∧ ∀ o15 : Option Nat, o15 = fR g 18 a14 → (∃ n41 : Nat, w_C_line_19 z mi mc ms post px n41 0 0 g this p0 (0 : Int32) (0 : Int32) o15)))) ∧ (p0 = 0 → post (0 : Int32) g)
set_option maxHeartbeats 4000000 in
set_option maxRecDepth 100000 in
theorem s_C_line {l : Launch} {D : va_G} {cA : Nat → ClassId} {sz z mi mc ms : Nat} {g : Sg} {post : Int32 → Sg → Prop} {px : Nat → Sg → Prop} {this : Nat} {p0 : Int32} (hst : l.stackTraces = false) (h : w_C_line z mi mc ms post px g this p0) : vx_Met l y_C_line (Cond.code y_C_line b_C_line 5 (some FieldType.int) :: TBL) ({ frames := 6, cells := mc, slots := ms, locals := 90 } : Room) (Pg D cA sz z mi [.ref this, .int p0] g) (Qg D cA sz (pI post)) (Xg D cA sz px) mc ms (oA sz) := by
  refine m_codeX (lv := [(0, .ref this), (1, .int p0)]) (by decide +kernel) (Nat.le_of_ble_eq_true rfl) rfl ?_
  intro p e s m below meth c ls hxt S hr hlk hnm hZ hG hS hl
  obtain ⟨hx, hb, hml, hown, hts⟩ := id S
  have hk : 0 ≤ mc ∧ 0 ≤ ms := ⟨Nat.zero_le _, Nat.zero_le _⟩
  refine lv_iload_n hx hb d_C_line_0 rfl (lv_at hl 1 rfl) ?_
  refine lv_if_ne (tgt := 6) hx hb d_C_line_1 (by decide) (fun c9 => ?_) (fun c9 => ?_)
  · replace h := h.1 c9
    refine lv_iconst (v := (0 : Int32)) hx hb d_C_line_6 (by decide) ?_
    refine q_istore_n (lv' := [(2, .int ((0 : Int32))), (0, .ref this), (1, .int p0)]) hx hb d_C_line_7 rfl hl (by decide) (.n (.k 0 rfl (by decide) (by decide) (.c 1 rfl (by decide) rfl .e))) (fun ls11 hl11 => ?_)
    refine lv_iconst (v := (0 : Int32)) hx hb d_C_line_8 (by decide) ?_
    refine q_istore_n (lv' := [(3, .int ((0 : Int32))), (2, .int ((0 : Int32))), (0, .ref this), (1, .int p0)]) hx hb d_C_line_9 rfl hl11 (by decide) (.n (.c 0 rfl (by decide) rfl (.k 1 rfl (by decide) (by decide) (.k 2 rfl (by decide) (by decide) .e)))) (fun ls12 hl12 => ?_)
    refine lv_aload_n hx hb d_C_line_10 rfl (lv_at hl12 2 rfl) ?_
    refine r_getR (f := 23) S hZ hG rfl h.1 (hts _ tw_154) (fun _ h9 => h9) d_C_line_11 (fun o13 e9 => ?_)
    replace h := h.2 o13 e9
    obtain ⟨a14, e9, h⟩ := h
    subst e9
    refine r_getR (f := 18) S hZ hG rfl h.1 (hts _ tw_108) (fun _ h9 => h9) d_C_line_14 (fun o15 e9 => ?_)
    replace h := h.2 o15 e9
    refine q_astore (o := o15) (lv' := [(4, va_rf o15), (3, .int ((0 : Int32))), (2, .int ((0 : Int32))), (0, .ref this), (1, .int p0)]) hx hb d_C_line_17 hl12 (by decide) (.n (.c 0 rfl (by decide) rfl (.k 1 rfl (by decide) (by decide) (.k 2 rfl (by decide) (by decide) (.k 3 rfl (by decide) (by decide) .e))))) (fun ls16 hl16 => ?_)
    obtain ⟨n41, h⟩ := h
    exact s_C_line_19 S hst hZ hr hlk hxt n41 _ _ _ _ _ _ _ _ _ _ _ hk h hG hS (lv_sub hl16 [3, 4, 2, 1, 0] rfl)
  · replace h := h.2 c9
    refine lv_iconst (v := (0 : Int32)) hx hb d_C_line_4 (by decide) ?_
    exact vx_ret (r_iret (v := (0 : Int32)) S hr hlk hG hS h hk.1 hk.2 d_C_line_5)
def w_L_line (z mi mc ms : Nat) (post : Int32 → Sg → Prop) (g : Sg) (p0 : Option Nat) (p1 : Int32) (p2 : Option Nat) : Prop := ∃ a11, p0 = some a11 ∧ (isK g a11 [4] ∧ ∃ c13 c14 : Nat, 0 + c13 ≤ mc ∧ 0 + c14 ≤ ms ∧ w_C_line z mi c13 c14 (fun (x16 : Int32) (g15 : Sg) => ∃ a17, p2 = some a17 ∧ (∃ j19 : Nat, inA g15 a17 103 (0 : Int32) j19 ∧ ∀ g20 : Sg, g20 = sL g15 a17 j19 (x16.toInt64) → post (0 : Int32) g20)) (fun (i21 : Nat) (g22 : Sg) => (i21 = 0 ∧ post (1 : Int32) g22)) g a11 p1)
set_option maxHeartbeats 4000000 in
set_option maxRecDepth 100000 in
theorem s_L_line {l : Launch} {D : va_G} {cA : Nat → ClassId} {sz z mi mc ms : Nat} {g : Sg} {post : Int32 → Sg → Prop} {p0 : Option Nat} {p1 : Int32} {p2 : Option Nat} (hst : l.stackTraces = false) (h : w_L_line z mi mc ms post g p0 p1 p2) : Met l y_L_line (Cond.codeWith y_L_line b_L_line 4 (some FieldType.int) [(0, 9, 12, 13)] :: TBL) ({ frames := 7, cells := mc, slots := ms, locals := 114 } : Room) (Pg D cA sz z mi [va_rf p0, .int p1, va_rf p2] g) (Qg D cA sz (pI post)) mc ms (oA sz) := by
  refine m_codeW (lv := [(0, va_rf p0), (1, .int p1), (2, va_rf p2)]) (by decide +kernel) (by simp [lg_sl, rf_cat, cat_i, cat_r, cat_l]) (by simp [lv_args, rf_cat, cat_i, cat_r, cat_l]) ?_
  intro p e s m below meth c ls htb S hr hlk hnm hZ hG hS hl
  obtain ⟨hx, hb, hml, hown, hts⟩ := id S
  have hk : 0 ≤ mc ∧ 0 ≤ ms := ⟨Nat.zero_le _, Nat.zero_le _⟩
  refine q_aload_n hx hb d_L_line_0 rfl (lv_at hl 2 rfl) ?_
  refine lv_iconst (v := (0 : Int32)) hx hb d_L_line_1 (by decide) ?_
  refine q_aload_n hx hb d_L_line_2 rfl (lv_at hl 0 rfl) ?_
  refine lv_iload_n hx hb d_L_line_3 rfl (lv_at hl 1 rfl) ?_
  obtain ⟨a11, e9, h⟩ := h
  subst e9
  have hl12 : lv_has ls 4 [(0, .ref a11), (1, .int p1), (2, va_rf p2)] := hl
  obtain ⟨h9, h⟩ := h
  obtain ⟨c13, c14, k1, k2, h⟩ := h
  obtain ⟨n9, h9⟩ := isK1 h9
  refine x_callI (xrun_V (As := [.int p1]) (rest := [.int ((0 : Int32)), va_rf p2]) S hZ hG hS (s_C_line hst h) tw_675 tw_672 tw_673 tw_674 tw_1 nk_C_line h9 (by decide) rfl ⟨Nat.le_of_ble_eq_true rfl, Nat.le_of_ble_eq_true rfl⟩ rfl hl.1 rfl (by simp [rf_cat, cat_i, cat_r, cat_l]) d_L_line_4 ⟨k1, k2⟩) hS (fun i9 ce q9 g22 H locs hi h26 hG hS hq1 hq2 hq3 => ?_) (fun x16 g15 H locs h25 hG hS => ?_)
  · have hk := And.intro k1 k2
    replace h := h26
    obtain ⟨rfl, h⟩ := h
    refine r_catch (i := 0) S hZ (by decide) [] ⟨0, 9, 12, 13⟩ [] htb (fun y hy => nomatch hy) (by decide) (by decide) tw_232 hq1 hq2 hq3 ?_
    refine q_astore_n (o := (some q9)) (lv' := [(0, .ref a11), (1, .int p1), (2, va_rf p2)]) hx hb d_L_line_12 rfl hl12 (by decide) (.k 0 rfl (by decide) (by decide) (.k 1 rfl (by decide) (by decide) (.c 2 rfl (by decide) (rf_cat _) .e))) (fun ls24 hl24 => ?_)
    refine lv_iconst (v := (1 : Int32)) hx hb d_L_line_13 (by decide) ?_
    exact r_iret (v := (1 : Int32)) S hr hlk hG hS h hk.1 hk.2 d_L_line_14
  · have hk := And.intro k1 k2
    replace h := h25
    refine lv_i2l hx hb d_L_line_7 rfl ?_
    obtain ⟨a17, e9, h⟩ := h
    subst e9
    have hl18 : lv_has ls 4 [(0, .ref a11), (1, .int p1), (2, .ref a17)] := hl12
    obtain ⟨j19, h9, h⟩ := h
    refine r_last S hZ hG hS h9 d_L_line_8 (fun g20 H locs e9 hG hS => ?_)
    replace h := h g20 e9
    refine lv_goto (tgt := 15) hx hb d_L_line_9 (by decide) ?_
    refine lv_iconst (v := (0 : Int32)) hx hb d_L_line_15 (by decide) ?_
    exact r_iret (v := (0 : Int32)) S hr hlk hG hS h hk.1 hk.2 d_L_line_16
def w_C_events (z mi mc ms : Nat) (post : Int32 → Sg → Prop) (px : Nat → Sg → Prop) (g : Sg) (this : Nat) (p0 : Int32) : Prop := (¬ p0 = (-1 : Int32) → (∃ c11 c12 : Nat, 0 + c11 ≤ mc ∧ 0 + c12 ≤ ms ∧ w_C_isName z mi c11 c12 (fun (x14 : Int32) (g13 : Sg) => (¬ x14 = 0 → (isK g13 this [4] ∧ ∃ c15 c16 : Nat, (0 + c11) + c15 ≤ mc ∧ (0 + c12) + c16 ≤ ms ∧ w_C_findAgent z mi c15 c16 (fun (o18 : Option Nat) (g17 : Sg) => (o18 = none → post (0 : Int32) g17) ∧ (∀ a20, o18 = some a20 → (hasR g17 a20 6 ∧ ∀ o23 : Option Nat, o23 = fR g17 6 a20 → ∃ a24, o23 = some a24 ∧ (isK g17 a24 [0] ∧ ∃ c25 c26 : Nat, ((0 + c11) + c15) + c25 ≤ mc ∧ ((0 + c12) + c16) + c26 ≤ ms ∧ w_AL_size z mi c25 c26 (fun (x28 : Int32) (g27 : Sg) => post x28 g27) g17 a24)))) g13 this p0)) ∧ (x14 = 0 → (0 + c11) + 1 ≤ mc ∧ (0 + c12) + 6 ≤ ms ∧ px 3 g13)) g p0)) ∧ (p0 = (-1 : Int32) → (hasR g this 22 ∧ ∀ o32 : Option Nat, o32 = fR g 22 this → ∃ a33, o32 = some a33 ∧ (isK g a33 [0] ∧ ∃ c34 c35 : Nat, 0 + c34 ≤ mc ∧ 0 + c35 ≤ ms ∧ w_AL_size z mi c34 c35 (fun (x37 : Int32) (g36 : Sg) => post x37 g36) g a33)))
set_option maxHeartbeats 4000000 in
set_option maxRecDepth 100000 in
theorem s_C_events {l : Launch} {D : va_G} {cA : Nat → ClassId} {sz z mi mc ms : Nat} {g : Sg} {post : Int32 → Sg → Prop} {px : Nat → Sg → Prop} {this : Nat} {p0 : Int32} (hst : l.stackTraces = false) (h : w_C_events z mi mc ms post px g this p0) : vx_Met l y_C_events (Cond.code y_C_events b_C_events 3 (some FieldType.int) :: TBL) ({ frames := 6, cells := mc, slots := ms, locals := 90 } : Room) (Pg D cA sz z mi [.ref this, .int p0] g) (Qg D cA sz (pI post)) (Xg D cA sz px) mc ms (oA sz) := by
  refine m_codeX (lv := [(0, .ref this), (1, .int p0)]) (by decide +kernel) (Nat.le_of_ble_eq_true rfl) rfl ?_
  intro p e s m below meth c ls hxt S hr hlk hnm hZ hG hS hl
  obtain ⟨hx, hb, hml, hown, hts⟩ := id S
  have hk : 0 ≤ mc ∧ 0 ≤ ms := ⟨Nat.zero_le _, Nat.zero_le _⟩
  refine lv_iload_n hx hb d_C_events_0 rfl (lv_at hl 1 rfl) ?_
  refine lv_iconst (v := (-1 : Int32)) hx hb d_C_events_1 (by decide) ?_
  refine lv_icmp_ne (tgt := 13) hx hb d_C_events_2 (by decide) (fun c9 => ?_) (fun c9 => ?_)
  · replace h := h.1 c9
    refine lv_iload_n hx hb d_C_events_13 rfl (lv_at hl 1 rfl) ?_
    obtain ⟨c11, c12, k1, k2, h⟩ := h
    refine q_callI (run_S (As := [.int p0]) (rest := []) S hZ hG hS (s_C_isName h) tw_408 tw_406 tw_407 tw_1 nk_C_isName ⟨Nat.le_of_ble_eq_true rfl, Nat.le_of_ble_eq_true rfl⟩ rfl hl.1 rfl (by decide) d_C_events_14 ⟨k1, k2⟩) hS (fun x14 g13 H locs h31 hG hS => ?_)
    have hk := And.intro k1 k2
    replace h := h31
    refine lv_if_ne (tgt := 28) hx hb d_C_events_17 (by decide) (fun c9 => ?_) (fun c9 => ?_)
    · replace h := h.1 c9
      refine lv_aload_n hx hb d_C_events_28 rfl (lv_at hl 0 rfl) ?_
      refine lv_iload_n hx hb d_C_events_29 rfl (lv_at hl 1 rfl) ?_
      obtain ⟨h9, h⟩ := h
      obtain ⟨c15, c16, k1, k2, h⟩ := h
      obtain ⟨n9, h9⟩ := isK1 h9
      refine q_callR (run_V (As := [.int p0]) (rest := []) S hZ hG hS (s_C_findAgent h) tw_246 tw_243 tw_245 tp_3 tw_1 nk_C_findAgent h9 (by decide) rfl ⟨Nat.le_of_ble_eq_true rfl, Nat.le_of_ble_eq_true rfl⟩ rfl hl.1 rfl (by decide) d_C_events_30 ⟨k1, k2⟩) hS (fun o18 g17 H locs h30 hG hS => ?_)
      have hk := And.intro k1 k2
      replace h := h30
      refine q_astore_n (o := o18) (lv' := [(2, va_rf o18), (0, .ref this), (1, .int p0)]) hx hb d_C_events_33 rfl hl (by decide) (.n (.k 0 rfl (by decide) (by decide) (.c 1 rfl (by decide) rfl .e))) (fun ls19 hl19 => ?_)
      refine q_aload_n hx hb d_C_events_34 rfl (lv_at hl19 0 rfl) ?_
      refine q_ifnonnull (tgt := 42) hx hb d_C_events_35 (by decide) (fun a20 e9 => ?_) (fun e9 => ?_)
      · replace h := h.2 a20 e9
        subst e9
        have hl22 : lv_has ls19 3 [(2, .ref a20), (0, .ref this), (1, .int p0)] := hl19
        refine lv_aload_n hx hb d_C_events_42 rfl (lv_at hl22 0 rfl) ?_
        refine r_getR (f := 6) S hZ hG rfl h.1 (hts _ tw_80) (fun _ h9 => h9) d_C_events_43 (fun o23 e9 => ?_)
        replace h := h.2 o23 e9
        obtain ⟨a24, e9, h⟩ := h
        subst e9
        obtain ⟨h9, h⟩ := h
        obtain ⟨c25, c26, k1, k2, h⟩ := h
        obtain ⟨n9, h9⟩ := isK1 h9
        refine q_callI (run_V (As := []) (rest := []) S hZ hG hS (s_AL_size h) tw_99 tw_247 tw_97 tw_98 tw_4 nk_AL_size h9 (by decide) rfl ⟨Nat.le_of_ble_eq_true rfl, Nat.le_of_ble_eq_true rfl⟩ rfl hl22.1 rfl (by decide) d_C_events_46 ⟨k1, k2⟩) hS (fun x28 g27 H locs h29 hG hS => ?_)
        have hk := And.intro k1 k2
        replace h := h29
        exact vx_ret (r_iret (v := x28) S hr hlk hG hS h hk.1 hk.2 d_C_events_49)
      · replace h := h.1 e9
        subst e9
        have hl21 : lv_has ls19 3 [(2, .null), (0, .ref this), (1, .int p0)] := hl19
        refine lv_iconst (v := (0 : Int32)) hx hb d_C_events_38 (by decide) ?_
        refine lv_goto (tgt := 49) hx hb d_C_events_39 (by decide) ?_
        exact vx_ret (r_iret (v := (0 : Int32)) S hr hlk hG hS h hk.1 hk.2 d_C_events_49)
    · replace h := h.2 c9
      exact r_throw (i := 3) S hst hZ hG hS (by decide) tw_413 tw_20 xa_C_101_103 xb_C_101_103 xo_C_101_103 hl.1 d_C_events_20 d_C_events_23 d_C_events_24 d_C_events_27 (fun x hx => (hxt x hx).elim) (Nat.le_of_ble_eq_true rfl) (Nat.le_of_ble_eq_true rfl) rfl rfl hlk h.2.2 h.1 h.2.1
  · replace h := h.2 c9
    refine lv_aload_n hx hb d_C_events_5 rfl (lv_at hl 0 rfl) ?_
    refine r_getR (f := 22) S hZ hG rfl h.1 (hts _ tw_153) (fun _ h9 => h9) d_C_events_6 (fun o32 e9 => ?_)
    replace h := h.2 o32 e9
    obtain ⟨a33, e9, h⟩ := h
    subst e9
    obtain ⟨h9, h⟩ := h
    obtain ⟨c34, c35, k1, k2, h⟩ := h
    obtain ⟨n9, h9⟩ := isK1 h9
    refine q_callI (run_V (As := []) (rest := []) S hZ hG hS (s_AL_size h) tw_99 tw_247 tw_97 tw_98 tw_4 nk_AL_size h9 (by decide) rfl ⟨Nat.le_of_ble_eq_true rfl, Nat.le_of_ble_eq_true rfl⟩ rfl hl.1 rfl (by decide) d_C_events_9 ⟨k1, k2⟩) hS (fun x37 g36 H locs h38 hG hS => ?_)
    have hk := And.intro k1 k2
    replace h := h38
    exact vx_ret (r_iret (v := x37) S hr hlk hG hS h hk.1 hk.2 d_C_events_12)
def w_L_events (z mi mc ms : Nat) (post : Int32 → Sg → Prop) (g : Sg) (p0 : Option Nat) (p1 : Int32) (p2 : Option Nat) : Prop := ∃ a11, p0 = some a11 ∧ (isK g a11 [4] ∧ ∃ c13 c14 : Nat, 0 + c13 ≤ mc ∧ 0 + c14 ≤ ms ∧ w_C_events z mi c13 c14 (fun (x16 : Int32) (g15 : Sg) => ∃ a17, p2 = some a17 ∧ (∃ j19 : Nat, inA g15 a17 103 (0 : Int32) j19 ∧ ∀ g20 : Sg, g20 = sL g15 a17 j19 (x16.toInt64) → post (0 : Int32) g20)) (fun (i21 : Nat) (g22 : Sg) => (i21 = 3 ∧ post (1 : Int32) g22)) g a11 p1)
set_option maxHeartbeats 4000000 in
set_option maxRecDepth 100000 in
theorem s_L_events {l : Launch} {D : va_G} {cA : Nat → ClassId} {sz z mi mc ms : Nat} {g : Sg} {post : Int32 → Sg → Prop} {p0 : Option Nat} {p1 : Int32} {p2 : Option Nat} (hst : l.stackTraces = false) (h : w_L_events z mi mc ms post g p0 p1 p2) : Met l y_L_events (Cond.codeWith y_L_events b_L_events 4 (some FieldType.int) [(0, 9, 12, 27)] :: TBL) ({ frames := 7, cells := mc, slots := ms, locals := 112 } : Room) (Pg D cA sz z mi [va_rf p0, .int p1, va_rf p2] g) (Qg D cA sz (pI post)) mc ms (oA sz) := by
  refine m_codeW (lv := [(0, va_rf p0), (1, .int p1), (2, va_rf p2)]) (by decide +kernel) (by simp [lg_sl, rf_cat, cat_i, cat_r, cat_l]) (by simp [lv_args, rf_cat, cat_i, cat_r, cat_l]) ?_
  intro p e s m below meth c ls htb S hr hlk hnm hZ hG hS hl
  obtain ⟨hx, hb, hml, hown, hts⟩ := id S
  have hk : 0 ≤ mc ∧ 0 ≤ ms := ⟨Nat.zero_le _, Nat.zero_le _⟩
  refine q_aload_n hx hb d_L_events_0 rfl (lv_at hl 2 rfl) ?_
  refine lv_iconst (v := (0 : Int32)) hx hb d_L_events_1 (by decide) ?_
  refine q_aload_n hx hb d_L_events_2 rfl (lv_at hl 0 rfl) ?_
  refine lv_iload_n hx hb d_L_events_3 rfl (lv_at hl 1 rfl) ?_
  obtain ⟨a11, e9, h⟩ := h
  subst e9
  have hl12 : lv_has ls 4 [(0, .ref a11), (1, .int p1), (2, va_rf p2)] := hl
  obtain ⟨h9, h⟩ := h
  obtain ⟨c13, c14, k1, k2, h⟩ := h
  obtain ⟨n9, h9⟩ := isK1 h9
  refine x_callI (xrun_V (As := [.int p1]) (rest := [.int ((0 : Int32)), va_rf p2]) S hZ hG hS (s_C_events hst h) tw_682 tw_679 tw_680 tw_681 tw_1 nk_C_events h9 (by decide) rfl ⟨Nat.le_of_ble_eq_true rfl, Nat.le_of_ble_eq_true rfl⟩ rfl hl.1 rfl (by simp [rf_cat, cat_i, cat_r, cat_l]) d_L_events_4 ⟨k1, k2⟩) hS (fun i9 ce q9 g22 H locs hi h26 hG hS hq1 hq2 hq3 => ?_) (fun x16 g15 H locs h25 hG hS => ?_)
  · have hk := And.intro k1 k2
    replace h := h26
    obtain ⟨rfl, h⟩ := h
    refine r_catch (i := 3) S hZ (by decide) [] ⟨0, 9, 12, 27⟩ [] htb (fun y hy => nomatch hy) (by decide) (by decide) tw_397 hq1 hq2 hq3 ?_
    refine q_astore_n (o := (some q9)) (lv' := [(0, .ref a11), (1, .int p1), (2, va_rf p2)]) hx hb d_L_events_12 rfl hl12 (by decide) (.k 0 rfl (by decide) (by decide) (.k 1 rfl (by decide) (by decide) (.c 2 rfl (by decide) (rf_cat _) .e))) (fun ls24 hl24 => ?_)
    refine lv_iconst (v := (1 : Int32)) hx hb d_L_events_13 (by decide) ?_
    exact r_iret (v := (1 : Int32)) S hr hlk hG hS h hk.1 hk.2 d_L_events_14
  · have hk := And.intro k1 k2
    replace h := h25
    refine lv_i2l hx hb d_L_events_7 rfl ?_
    obtain ⟨a17, e9, h⟩ := h
    subst e9
    have hl18 : lv_has ls 4 [(0, .ref a11), (1, .int p1), (2, .ref a17)] := hl12
    obtain ⟨j19, h9, h⟩ := h
    refine r_last S hZ hG hS h9 d_L_events_8 (fun g20 H locs e9 hG hS => ?_)
    replace h := h g20 e9
    refine lv_goto (tgt := 15) hx hb d_L_events_9 (by decide) ?_
    refine lv_iconst (v := (0 : Int32)) hx hb d_L_events_15 (by decide) ?_
    exact r_iret (v := (0 : Int32)) S hr hlk hG hS h hk.1 hk.2 d_L_events_16
def w_G_init (z mi mc ms : Nat) (post : Sg → Prop) (g : Sg) (this : Nat) : Prop := (∃ n13 : Nat, (16 : Int32) = nI n13 ∧ n13 ≤ 1000000 ∧ 0 + 1 ≤ mc ∧ 0 + n13 ≤ ms ∧ ∀ a11 : Nat, hT g a11 = none → ∀ g12 : Sg, g12 = nO g a11 100 n13 → (hasR g12 this 32 ∧ ∀ g14 : Sg, g14 = wR g12 32 this (some a11) → (∃ n17 : Nat, (16 : Int32) = nI n17 ∧ n17 ≤ 1000000 ∧ (0 + 1) + 1 ≤ mc ∧ (0 + n13) + n17 ≤ ms ∧ ∀ a15 : Nat, hT g14 a15 = none → ∀ g16 : Sg, g16 = nO g14 a15 100 n17 → (hasR g16 this 33 ∧ ∀ g18 : Sg, g18 = wR g16 33 this (some a15) → ((8 : Int32) = 8 ∧ (16 : Int32) = 16 ∧ ((0 + 1) + 1) + 17 ≤ mc ∧ ((0 + n13) + n17) + 144 ≤ ms ∧ ∀ a19 : Nat, (∀ i, i < 17 → hT g18 (a19 + i) = none) → ∀ g20 : Sg, g20 = nM g18 a19 → (hasR g20 this 34 ∧ ∀ g21 : Sg, g21 = wR g20 34 this (some a19) → (∃ n24 : Nat, (8192 : Int32) = nI n24 ∧ n24 ≤ 1000000 ∧ (((0 + 1) + 1) + 17) + 1 ≤ mc ∧ (((0 + n13) + n17) + 144) + n24 ≤ ms ∧ ∀ a22 : Nat, hT g21 a22 = none → ∀ g23 : Sg, g23 = nO g21 a22 100 n24 → (hasR g23 this 35 ∧ ∀ g25 : Sg, g25 = wR g23 35 this (some a22) → (∃ n28 : Nat, (8192 : Int32) = nI n28 ∧ n28 ≤ 1000000 ∧ ((((0 + 1) + 1) + 17) + 1) + 1 ≤ mc ∧ ((((0 + n13) + n17) + 144) + n24) + n28 ≤ ms ∧ ∀ a26 : Nat, hT g25 a26 = none → ∀ g27 : Sg, g27 = nO g25 a26 100 n28 → (hasR g27 this 36 ∧ ∀ g29 : Sg, g29 = wR g27 36 this (some a26) → (∃ n32 : Nat, (131072 : Int32) = nI n32 ∧ n32 ≤ 1000000 ∧ (((((0 + 1) + 1) + 17) + 1) + 1) + 1 ≤ mc ∧ (((((0 + n13) + n17) + 144) + n24) + n28) + n32 ≤ ms ∧ ∀ a30 : Nat, hT g29 a30 = none → ∀ g31 : Sg, g31 = nO g29 a30 101 n32 → (hasR g31 this 37 ∧ ∀ g33 : Sg, g33 = wR g31 37 this (some a30) → (∃ n36 : Nat, (8192 : Int32) = nI n36 ∧ n36 ≤ 1000000 ∧ ((((((0 + 1) + 1) + 17) + 1) + 1) + 1) + 1 ≤ mc ∧ ((((((0 + n13) + n17) + 144) + n24) + n28) + n32) + n36 ≤ ms ∧ ∀ a34 : Nat, hT g33 a34 = none → ∀ g35 : Sg, g35 = nO g33 a34 102 n36 → (hasR g35 this 38 ∧ ∀ g37 : Sg, g37 = wR g35 38 this (some a34) → (∃ n40 : Nat, (8192 : Int32) = nI n40 ∧ n40 ≤ 1000000 ∧ (((((((0 + 1) + 1) + 17) + 1) + 1) + 1) + 1) + 1 ≤ mc ∧ (((((((0 + n13) + n17) + 144) + n24) + n28) + n32) + n36) + n40 ≤ ms ∧ ∀ a38 : Nat, hT g37 a38 = none → ∀ g39 : Sg, g39 = nO g37 a38 100 n40 → (hasR g39 this 39 ∧ ∀ g41 : Sg, g41 = wR g39 39 this (some a38) → (∃ n44 : Nat, (8192 : Int32) = nI n44 ∧ n44 ≤ 1000000 ∧ ((((((((0 + 1) + 1) + 17) + 1) + 1) + 1) + 1) + 1) + 1 ≤ mc ∧ ((((((((0 + n13) + n17) + 144) + n24) + n28) + n32) + n36) + n40) + n44 ≤ ms ∧ ∀ a42 : Nat, hT g41 a42 = none → ∀ g43 : Sg, g43 = nO g41 a42 100 n44 → (hasR g43 this 40 ∧ ∀ g45 : Sg, g45 = wR g43 40 this (some a42) → (∃ n48 : Nat, (8192 : Int32) = nI n48 ∧ n48 ≤ 1000000 ∧ (((((((((0 + 1) + 1) + 17) + 1) + 1) + 1) + 1) + 1) + 1) + 1 ≤ mc ∧ (((((((((0 + n13) + n17) + 144) + n24) + n28) + n32) + n36) + n40) + n44) + n48 ≤ ms ∧ ∀ a46 : Nat, hT g45 a46 = none → ∀ g47 : Sg, g47 = nO g45 a46 100 n48 → (hasR g47 this 41 ∧ ∀ g49 : Sg, g49 = wR g47 41 this (some a46) → (∃ n52 : Nat, (8192 : Int32) = nI n52 ∧ n52 ≤ 1000000 ∧ ((((((((((0 + 1) + 1) + 17) + 1) + 1) + 1) + 1) + 1) + 1) + 1) + 1 ≤ mc ∧ ((((((((((0 + n13) + n17) + 144) + n24) + n28) + n32) + n36) + n40) + n44) + n48) + n52 ≤ ms ∧ ∀ a50 : Nat, hT g49 a50 = none → ∀ g51 : Sg, g51 = nO g49 a50 100 n52 → (hasR g51 this 42 ∧ ∀ g53 : Sg, g53 = wR g51 42 this (some a50) → (∃ n56 : Nat, (8192 : Int32) = nI n56 ∧ n56 ≤ 1000000 ∧ (((((((((((0 + 1) + 1) + 17) + 1) + 1) + 1) + 1) + 1) + 1) + 1) + 1) + 1 ≤ mc ∧ (((((((((((0 + n13) + n17) + 144) + n24) + n28) + n32) + n36) + n40) + n44) + n48) + n52) + n56 ≤ ms ∧ ∀ a54 : Nat, hT g53 a54 = none → ∀ g55 : Sg, g55 = nO g53 a54 100 n56 → (hasR g55 this 43 ∧ ∀ g57 : Sg, g57 = wR g55 43 this (some a54) → (∃ n60 : Nat, (8192 : Int32) = nI n60 ∧ n60 ≤ 1000000 ∧ ((((((((((((0 + 1) + 1) + 17) + 1) + 1) + 1) + 1) + 1) + 1) + 1) + 1) + 1) + 1 ≤ mc ∧ ((((((((((((0 + n13) + n17) + 144) + n24) + n28) + n32) + n36) + n40) + n44) + n48) + n52) + n56) + n60 ≤ ms ∧ ∀ a58 : Nat, hT g57 a58 = none → ∀ g59 : Sg, g59 = nO g57 a58 100 n60 → (hasR g59 this 44 ∧ ∀ g61 : Sg, g61 = wR g59 44 this (some a58) → (∃ n64 : Nat, (8192 : Int32) = nI n64 ∧ n64 ≤ 1000000 ∧ (((((((((((((0 + 1) + 1) + 17) + 1) + 1) + 1) + 1) + 1) + 1) + 1) + 1) + 1) + 1) + 1 ≤ mc ∧ (((((((((((((0 + n13) + n17) + 144) + n24) + n28) + n32) + n36) + n40) + n44) + n48) + n52) + n56) + n60) + n64 ≤ ms ∧ ∀ a62 : Nat, hT g61 a62 = none → ∀ g63 : Sg, g63 = nO g61 a62 102 n64 → (hasR g63 this 45 ∧ ∀ g65 : Sg, g65 = wR g63 45 this (some a62) → (hasI g65 this 46 ∧ ∀ g66 : Sg, g66 = wI g65 46 this (-1 : Int32) → (∃ n69 : Nat, (8192 : Int32) = nI n69 ∧ n69 ≤ 1000000 ∧ ((((((((((((((0 + 1) + 1) + 17) + 1) + 1) + 1) + 1) + 1) + 1) + 1) + 1) + 1) + 1) + 1) + 1 ≤ mc ∧ ((((((((((((((0 + n13) + n17) + 144) + n24) + n28) + n32) + n36) + n40) + n44) + n48) + n52) + n56) + n60) + n64) + n69 ≤ ms ∧ ∀ a67 : Nat, hT g66 a67 = none → ∀ g68 : Sg, g68 = nO g66 a67 100 n69 → (hasR g68 this 47 ∧ ∀ g70 : Sg, g70 = wR g68 47 this (some a67) → (∃ n73 : Nat, (8192 : Int32) = nI n73 ∧ n73 ≤ 1000000 ∧ (((((((((((((((0 + 1) + 1) + 17) + 1) + 1) + 1) + 1) + 1) + 1) + 1) + 1) + 1) + 1) + 1) + 1) + 1 ≤ mc ∧ (((((((((((((((0 + n13) + n17) + 144) + n24) + n28) + n32) + n36) + n40) + n44) + n48) + n52) + n56) + n60) + n64) + n69) + n73 ≤ ms ∧ ∀ a71 : Nat, hT g70 a71 = none → ∀ g72 : Sg, g72 = nO g70 a71 100 n73 → (hasR g72 this 48 ∧ ∀ g74 : Sg, g74 = wR g72 48 this (some a71) → (∃ n77 : Nat, (8192 : Int32) = nI n77 ∧ n77 ≤ 1000000 ∧ ((((((((((((((((0 + 1) + 1) + 17) + 1) + 1) + 1) + 1) + 1) + 1) + 1) + 1) + 1) + 1) + 1) + 1) + 1) + 1 ≤ mc ∧ ((((((((((((((((0 + n13) + n17) + 144) + n24) + n28) + n32) + n36) + n40) + n44) + n48) + n52) + n56) + n60) + n64) + n69) + n73) + n77 ≤ ms ∧ ∀ a75 : Nat, hT g74 a75 = none → ∀ g76 : Sg, g76 = nO g74 a75 100 n77 → (hasR g76 this 49 ∧ ∀ g78 : Sg, g78 = wR g76 49 this (some a75) → (∃ n81 : Nat, (8192 : Int32) = nI n81 ∧ n81 ≤ 1000000 ∧ (((((((((((((((((0 + 1) + 1) + 17) + 1) + 1) + 1) + 1) + 1) + 1) + 1) + 1) + 1) + 1) + 1) + 1) + 1) + 1) + 1 ≤ mc ∧ (((((((((((((((((0 + n13) + n17) + 144) + n24) + n28) + n32) + n36) + n40) + n44) + n48) + n52) + n56) + n60) + n64) + n69) + n73) + n77) + n81 ≤ ms ∧ ∀ a79 : Nat, hT g78 a79 = none → ∀ g80 : Sg, g80 = nO g78 a79 100 n81 → (hasR g80 this 50 ∧ ∀ g82 : Sg, g82 = wR g80 50 this (some a79) → post g82)))))))))))))))))))))))))))))))))))))
set_option maxHeartbeats 4000000 in
set_option maxRecDepth 100000 in
theorem s_G_init {l : Launch} {D : va_G} {cA : Nat → ClassId} {sz z mi mc ms : Nat} {g : Sg} {post : Sg → Prop} {this : Nat} (h : w_G_init z mi mc ms post g this) : Met l y_G_init (Cond.code y_G_init b_G_init 1 none :: TBL) ({ frames := 1, cells := mc, slots := ms, locals := 22 } : Room) (Pg D cA sz z mi [.ref this] g) (Qg D cA sz (pV post)) mc ms (oA sz) := by
  refine m_code (lv := [(0, .ref this)]) (by decide +kernel) (Nat.le_of_ble_eq_true rfl) rfl ?_
  intro p e s m below meth c ls S hr hlk hnm hZ hG hS hl
  obtain ⟨hx, hb, hml, hown, hts⟩ := id S
  have hk : 0 ≤ mc ∧ 0 ≤ ms := ⟨Nat.zero_le _, Nat.zero_le _⟩
  refine lv_aload_n hx hb d_G_init_0 rfl (lv_at hl 0 rfl) ?_
  refine W.objInit hx hb hown (hts _ tw_694) (hts _ tw_31) (hts _ tw_32) rfl (by rw [hml]; exact hl.1) rfl d_G_init_1 (Nat.le_of_ble_eq_true rfl) (Nat.le_of_ble_eq_true rfl) ?_
  refine W.eq (g2 := F0 m 4 ls []) rfl ?_
  refine lv_aload_n hx hb d_G_init_4 rfl (lv_at hl 0 rfl) ?_
  refine lv_bipush (v := (16 : Int32)) hx hb d_G_init_5 (by decide) ?_
  obtain ⟨n13, e9, n9, h⟩ := h
  refine r_newa (k := 100) (n := n13) (ty := .int) S hZ hG hS (hts _ tw_88) rfl ⟨by decide, by decide⟩ rfl e9 n9 (de_100 _ 0 _) (by decide) h.1 h.2.1 d_G_init_7 (fun a11 g12 H f9 e9 hG hS => ?_)
  have hk := And.intro h.1 h.2.1
  replace h := h.2.2 a11 f9 g12 e9
  refine r_putR (f := 32) (v := (some a11)) S hZ hG hS rfl h.1 (hts _ tw_704) (fun _ h9 => h9) (Or.inr ⟨rfl, hnm, rfl⟩) d_G_init_9 (fun g14 H locs e9 hG hS => ?_)
  replace h := h.2 g14 e9
  refine lv_aload_n hx hb d_G_init_12 rfl (lv_at hl 0 rfl) ?_
  refine lv_bipush (v := (16 : Int32)) hx hb d_G_init_13 (by decide) ?_
  obtain ⟨n17, e9, n9, h⟩ := h
  refine r_newa (k := 100) (n := n17) (ty := .int) S hZ hG hS (hts _ tw_88) rfl ⟨by decide, by decide⟩ rfl e9 n9 (de_100 _ 0 _) (by decide) h.1 h.2.1 d_G_init_15 (fun a15 g16 H f9 e9 hG hS => ?_)
  have hk := And.intro h.1 h.2.1
  replace h := h.2.2 a15 f9 g16 e9
  refine r_putR (f := 33) (v := (some a15)) S hZ hG hS rfl h.1 (hts _ tw_706) (fun _ h9 => h9) (Or.inr ⟨rfl, hnm, rfl⟩) d_G_init_17 (fun g18 H locs e9 hG hS => ?_)
  replace h := h.2 g18 e9
  refine lv_aload_n hx hb d_G_init_20 rfl (lv_at hl 0 rfl) ?_
  refine lv_bipush (v := (16 : Int32)) hx hb d_G_init_21 (by decide) ?_
  refine lv_bipush (v := (8 : Int32)) hx hb d_G_init_23 (by decide) ?_
  refine r_mna S hZ hG hS (hts _ tw_695) (hts _ tw_88) h.1 h.2.1 h.2.2.1 h.2.2.2.1 d_G_init_25 (fun a19 g20 H f9 e9 hG hS => ?_)
  have hk := And.intro h.2.2.1 h.2.2.2.1
  replace h := h.2.2.2.2 a19 f9 g20 e9
  refine r_putR (f := 34) (v := (some a19)) S hZ hG hS rfl h.1 (hts _ tw_708) (fun _ h9 => h9) (Or.inr ⟨rfl, hnm, rfl⟩) d_G_init_29 (fun g21 H locs e9 hG hS => ?_)
  replace h := h.2 g21 e9
  refine lv_aload_n hx hb d_G_init_32 rfl (lv_at hl 0 rfl) ?_
  refine lv_sipush (v := (8192 : Int32)) hx hb d_G_init_33 (by decide) ?_
  obtain ⟨n24, e9, n9, h⟩ := h
  refine r_newa (k := 100) (n := n24) (ty := .int) S hZ hG hS (hts _ tw_88) rfl ⟨by decide, by decide⟩ rfl e9 n9 (de_100 _ 0 _) (by decide) h.1 h.2.1 d_G_init_36 (fun a22 g23 H f9 e9 hG hS => ?_)
  have hk := And.intro h.1 h.2.1
  replace h := h.2.2 a22 f9 g23 e9
  refine r_putR (f := 35) (v := (some a22)) S hZ hG hS rfl h.1 (hts _ tw_709) (fun _ h9 => h9) (Or.inl rfl) d_G_init_38 (fun g25 H locs e9 hG hS => ?_)
  replace h := h.2 g25 e9
  refine lv_aload_n hx hb d_G_init_41 rfl (lv_at hl 0 rfl) ?_
  refine lv_sipush (v := (8192 : Int32)) hx hb d_G_init_42 (by decide) ?_
  obtain ⟨n28, e9, n9, h⟩ := h
  refine r_newa (k := 100) (n := n28) (ty := .int) S hZ hG hS (hts _ tw_88) rfl ⟨by decide, by decide⟩ rfl e9 n9 (de_100 _ 0 _) (by decide) h.1 h.2.1 d_G_init_45 (fun a26 g27 H f9 e9 hG hS => ?_)
  have hk := And.intro h.1 h.2.1
  replace h := h.2.2 a26 f9 g27 e9
  refine r_putR (f := 36) (v := (some a26)) S hZ hG hS rfl h.1 (hts _ tw_711) (fun _ h9 => h9) (Or.inl rfl) d_G_init_47 (fun g29 H locs e9 hG hS => ?_)
  replace h := h.2 g29 e9
  refine lv_aload_n hx hb d_G_init_50 rfl (lv_at hl 0 rfl) ?_
  refine lv_ldc hx hb hown (hts _ tw_697) d_G_init_51 ?_
  obtain ⟨n32, e9, n9, h⟩ := h
  refine r_newa (k := 101) (n := n32) (ty := .short) S hZ hG hS (hts _ tw_778) rfl ⟨by decide, by decide⟩ rfl e9 n9 (de_101 _ 0 _) (by decide) h.1 h.2.1 d_G_init_53 (fun a30 g31 H f9 e9 hG hS => ?_)
  have hk := And.intro h.1 h.2.1
  replace h := h.2.2 a30 f9 g31 e9
  refine r_putR (f := 37) (v := (some a30)) S hZ hG hS rfl h.1 (hts _ tw_713) (fun _ h9 => h9) (Or.inl rfl) d_G_init_55 (fun g33 H locs e9 hG hS => ?_)
  replace h := h.2 g33 e9
  refine lv_aload_n hx hb d_G_init_58 rfl (lv_at hl 0 rfl) ?_
  refine lv_sipush (v := (8192 : Int32)) hx hb d_G_init_59 (by decide) ?_
  obtain ⟨n36, e9, n9, h⟩ := h
  refine r_newa (k := 102) (n := n36) (ty := .boolean) S hZ hG hS (hts _ tw_779) rfl ⟨by decide, by decide⟩ rfl e9 n9 (de_102 _ 0 _) (by decide) h.1 h.2.1 d_G_init_62 (fun a34 g35 H f9 e9 hG hS => ?_)
  have hk := And.intro h.1 h.2.1
  replace h := h.2.2 a34 f9 g35 e9
  refine r_putR (f := 38) (v := (some a34)) S hZ hG hS rfl h.1 (hts _ tw_715) (fun _ h9 => h9) (Or.inl rfl) d_G_init_64 (fun g37 H locs e9 hG hS => ?_)
  replace h := h.2 g37 e9
  refine lv_aload_n hx hb d_G_init_67 rfl (lv_at hl 0 rfl) ?_
  refine lv_sipush (v := (8192 : Int32)) hx hb d_G_init_68 (by decide) ?_
  obtain ⟨n40, e9, n9, h⟩ := h
  refine r_newa (k := 100) (n := n40) (ty := .int) S hZ hG hS (hts _ tw_88) rfl ⟨by decide, by decide⟩ rfl e9 n9 (de_100 _ 0 _) (by decide) h.1 h.2.1 d_G_init_71 (fun a38 g39 H f9 e9 hG hS => ?_)
  have hk := And.intro h.1 h.2.1
  replace h := h.2.2 a38 f9 g39 e9
  refine r_putR (f := 39) (v := (some a38)) S hZ hG hS rfl h.1 (hts _ tw_717) (fun _ h9 => h9) (Or.inl rfl) d_G_init_73 (fun g41 H locs e9 hG hS => ?_)
  replace h := h.2 g41 e9
  refine lv_aload_n hx hb d_G_init_76 rfl (lv_at hl 0 rfl) ?_
  refine lv_sipush (v := (8192 : Int32)) hx hb d_G_init_77 (by decide) ?_
  obtain ⟨n44, e9, n9, h⟩ := h
  refine r_newa (k := 100) (n := n44) (ty := .int) S hZ hG hS (hts _ tw_88) rfl ⟨by decide, by decide⟩ rfl e9 n9 (de_100 _ 0 _) (by decide) h.1 h.2.1 d_G_init_80 (fun a42 g43 H f9 e9 hG hS => ?_)
  have hk := And.intro h.1 h.2.1
  replace h := h.2.2 a42 f9 g43 e9
  refine r_putR (f := 40) (v := (some a42)) S hZ hG hS rfl h.1 (hts _ tw_718) (fun _ h9 => h9) (Or.inl rfl) d_G_init_82 (fun g45 H locs e9 hG hS => ?_)
  replace h := h.2 g45 e9
  refine lv_aload_n hx hb d_G_init_85 rfl (lv_at hl 0 rfl) ?_
  refine lv_sipush (v := (8192 : Int32)) hx hb d_G_init_86 (by decide) ?_
  obtain ⟨n48, e9, n9, h⟩ := h
  refine r_newa (k := 100) (n := n48) (ty := .int) S hZ hG hS (hts _ tw_88) rfl ⟨by decide, by decide⟩ rfl e9 n9 (de_100 _ 0 _) (by decide) h.1 h.2.1 d_G_init_89 (fun a46 g47 H f9 e9 hG hS => ?_)
  have hk := And.intro h.1 h.2.1
  replace h := h.2.2 a46 f9 g47 e9
  refine r_putR (f := 41) (v := (some a46)) S hZ hG hS rfl h.1 (hts _ tw_720) (fun _ h9 => h9) (Or.inl rfl) d_G_init_91 (fun g49 H locs e9 hG hS => ?_)
  replace h := h.2 g49 e9
  refine lv_aload_n hx hb d_G_init_94 rfl (lv_at hl 0 rfl) ?_
  refine lv_sipush (v := (8192 : Int32)) hx hb d_G_init_95 (by decide) ?_
  obtain ⟨n52, e9, n9, h⟩ := h
  refine r_newa (k := 100) (n := n52) (ty := .int) S hZ hG hS (hts _ tw_88) rfl ⟨by decide, by decide⟩ rfl e9 n9 (de_100 _ 0 _) (by decide) h.1 h.2.1 d_G_init_98 (fun a50 g51 H f9 e9 hG hS => ?_)
  have hk := And.intro h.1 h.2.1
  replace h := h.2.2 a50 f9 g51 e9
  refine r_putR (f := 42) (v := (some a50)) S hZ hG hS rfl h.1 (hts _ tw_721) (fun _ h9 => h9) (Or.inl rfl) d_G_init_100 (fun g53 H locs e9 hG hS => ?_)
  replace h := h.2 g53 e9
  refine lv_aload_n hx hb d_G_init_103 rfl (lv_at hl 0 rfl) ?_
  refine lv_sipush (v := (8192 : Int32)) hx hb d_G_init_104 (by decide) ?_
  obtain ⟨n56, e9, n9, h⟩ := h
  refine r_newa (k := 100) (n := n56) (ty := .int) S hZ hG hS (hts _ tw_88) rfl ⟨by decide, by decide⟩ rfl e9 n9 (de_100 _ 0 _) (by decide) h.1 h.2.1 d_G_init_107 (fun a54 g55 H f9 e9 hG hS => ?_)
  have hk := And.intro h.1 h.2.1
  replace h := h.2.2 a54 f9 g55 e9
  refine r_putR (f := 43) (v := (some a54)) S hZ hG hS rfl h.1 (hts _ tw_722) (fun _ h9 => h9) (Or.inl rfl) d_G_init_109 (fun g57 H locs e9 hG hS => ?_)
  replace h := h.2 g57 e9
  refine lv_aload_n hx hb d_G_init_112 rfl (lv_at hl 0 rfl) ?_
  refine lv_sipush (v := (8192 : Int32)) hx hb d_G_init_113 (by decide) ?_
  obtain ⟨n60, e9, n9, h⟩ := h
  refine r_newa (k := 100) (n := n60) (ty := .int) S hZ hG hS (hts _ tw_88) rfl ⟨by decide, by decide⟩ rfl e9 n9 (de_100 _ 0 _) (by decide) h.1 h.2.1 d_G_init_116 (fun a58 g59 H f9 e9 hG hS => ?_)
  have hk := And.intro h.1 h.2.1
  replace h := h.2.2 a58 f9 g59 e9
  refine r_putR (f := 44) (v := (some a58)) S hZ hG hS rfl h.1 (hts _ tw_723) (fun _ h9 => h9) (Or.inl rfl) d_G_init_118 (fun g61 H locs e9 hG hS => ?_)
  replace h := h.2 g61 e9
  refine lv_aload_n hx hb d_G_init_121 rfl (lv_at hl 0 rfl) ?_
  refine lv_sipush (v := (8192 : Int32)) hx hb d_G_init_122 (by decide) ?_
  obtain ⟨n64, e9, n9, h⟩ := h
  refine r_newa (k := 102) (n := n64) (ty := .boolean) S hZ hG hS (hts _ tw_779) rfl ⟨by decide, by decide⟩ rfl e9 n9 (de_102 _ 0 _) (by decide) h.1 h.2.1 d_G_init_125 (fun a62 g63 H f9 e9 hG hS => ?_)
  have hk := And.intro h.1 h.2.1
  replace h := h.2.2 a62 f9 g63 e9
  refine r_putR (f := 45) (v := (some a62)) S hZ hG hS rfl h.1 (hts _ tw_724) (fun _ h9 => h9) (Or.inl rfl) d_G_init_127 (fun g65 H locs e9 hG hS => ?_)
  replace h := h.2 g65 e9
  refine lv_aload_n hx hb d_G_init_130 rfl (lv_at hl 0 rfl) ?_
  refine lv_iconst (v := (-1 : Int32)) hx hb d_G_init_131 (by decide) ?_
  refine r_putI (f := 46) S hZ hG hS rfl h.1 (hts _ tw_725) (fun _ h9 => h9) (Or.inl rfl) d_G_init_132 (fun g66 H locs e9 hG hS => ?_)
  replace h := h.2 g66 e9
  refine lv_aload_n hx hb d_G_init_135 rfl (lv_at hl 0 rfl) ?_
  refine lv_sipush (v := (8192 : Int32)) hx hb d_G_init_136 (by decide) ?_
  obtain ⟨n69, e9, n9, h⟩ := h
  refine r_newa (k := 100) (n := n69) (ty := .int) S hZ hG hS (hts _ tw_88) rfl ⟨by decide, by decide⟩ rfl e9 n9 (de_100 _ 0 _) (by decide) h.1 h.2.1 d_G_init_139 (fun a67 g68 H f9 e9 hG hS => ?_)
  have hk := And.intro h.1 h.2.1
  replace h := h.2.2 a67 f9 g68 e9
  refine r_putR (f := 47) (v := (some a67)) S hZ hG hS rfl h.1 (hts _ tw_726) (fun _ h9 => h9) (Or.inl rfl) d_G_init_141 (fun g70 H locs e9 hG hS => ?_)
  replace h := h.2 g70 e9
  refine lv_aload_n hx hb d_G_init_144 rfl (lv_at hl 0 rfl) ?_
  refine lv_sipush (v := (8192 : Int32)) hx hb d_G_init_145 (by decide) ?_
  obtain ⟨n73, e9, n9, h⟩ := h
  refine r_newa (k := 100) (n := n73) (ty := .int) S hZ hG hS (hts _ tw_88) rfl ⟨by decide, by decide⟩ rfl e9 n9 (de_100 _ 0 _) (by decide) h.1 h.2.1 d_G_init_148 (fun a71 g72 H f9 e9 hG hS => ?_)
  have hk := And.intro h.1 h.2.1
  replace h := h.2.2 a71 f9 g72 e9
  refine r_putR (f := 48) (v := (some a71)) S hZ hG hS rfl h.1 (hts _ tw_727) (fun _ h9 => h9) (Or.inl rfl) d_G_init_150 (fun g74 H locs e9 hG hS => ?_)
  replace h := h.2 g74 e9
  refine lv_aload_n hx hb d_G_init_153 rfl (lv_at hl 0 rfl) ?_
  refine lv_sipush (v := (8192 : Int32)) hx hb d_G_init_154 (by decide) ?_
  obtain ⟨n77, e9, n9, h⟩ := h
  refine r_newa (k := 100) (n := n77) (ty := .int) S hZ hG hS (hts _ tw_88) rfl ⟨by decide, by decide⟩ rfl e9 n9 (de_100 _ 0 _) (by decide) h.1 h.2.1 d_G_init_157 (fun a75 g76 H f9 e9 hG hS => ?_)
  have hk := And.intro h.1 h.2.1
  replace h := h.2.2 a75 f9 g76 e9
  refine r_putR (f := 49) (v := (some a75)) S hZ hG hS rfl h.1 (hts _ tw_729) (fun _ h9 => h9) (Or.inl rfl) d_G_init_159 (fun g78 H locs e9 hG hS => ?_)
  replace h := h.2 g78 e9
  refine lv_aload_n hx hb d_G_init_162 rfl (lv_at hl 0 rfl) ?_
  refine lv_sipush (v := (8192 : Int32)) hx hb d_G_init_163 (by decide) ?_
  obtain ⟨n81, e9, n9, h⟩ := h
  refine r_newa (k := 100) (n := n81) (ty := .int) S hZ hG hS (hts _ tw_88) rfl ⟨by decide, by decide⟩ rfl e9 n9 (de_100 _ 0 _) (by decide) h.1 h.2.1 d_G_init_166 (fun a79 g80 H f9 e9 hG hS => ?_)
  have hk := And.intro h.1 h.2.1
  replace h := h.2.2 a79 f9 g80 e9
  refine r_putR (f := 50) (v := (some a79)) S hZ hG hS rfl h.1 (hts _ tw_731) (fun _ h9 => h9) (Or.inl rfl) d_G_init_168 (fun g82 H locs e9 hG hS => ?_)
  replace h := h.2 g82 e9
  exact r_vret S hr hlk hG hS h hk.1 hk.2 d_G_init_171
def w_M_init (z mi mc ms : Nat) (post : Sg → Prop) (g : Sg) (this : Nat) : Prop := (0 + 1 ≤ mc ∧ 0 + 22 ≤ ms ∧ ∀ a11 : Nat, hT g a11 = none → ∀ g12 : Sg, g12 = nO g a11 5 22 → (∃ c13 c14 : Nat, (0 + 1) + c13 ≤ mc ∧ (0 + 22) + c14 ≤ ms ∧ w_G_init z mi c13 c14 (fun (g15 : Sg) => (hasR g15 this 51 ∧ ∀ g16 : Sg, g16 = wR g15 51 this (some a11) → (∃ n19 : Nat, (16 : Int32) = nI n19 ∧ n19 ≤ 1000000 ∧ ((0 + 1) + c13) + 1 ≤ mc ∧ ((0 + 22) + c14) + n19 ≤ ms ∧ ∀ a17 : Nat, hT g16 a17 = none → ∀ g18 : Sg, g18 = nO g16 a17 100 n19 → (hasR g18 this 52 ∧ ∀ g20 : Sg, g20 = wR g18 52 this (some a17) → (∃ n23 : Nat, (16 : Int32) = nI n23 ∧ n23 ≤ 1000000 ∧ (((0 + 1) + c13) + 1) + 1 ≤ mc ∧ (((0 + 22) + c14) + n19) + n23 ≤ ms ∧ ∀ a21 : Nat, hT g20 a21 = none → ∀ g22 : Sg, g22 = nO g20 a21 100 n23 → (hasR g22 this 53 ∧ ∀ g24 : Sg, g24 = wR g22 53 this (some a21) → (∃ n27 : Nat, (16 : Int32) = nI n27 ∧ n27 ≤ 1000000 ∧ ((((0 + 1) + c13) + 1) + 1) + 1 ≤ mc ∧ ((((0 + 22) + c14) + n19) + n23) + n27 ≤ ms ∧ ∀ a25 : Nat, hT g24 a25 = none → ∀ g26 : Sg, g26 = nO g24 a25 101 n27 → (hasR g26 this 55 ∧ ∀ g28 : Sg, g28 = wR g26 55 this (some a25) → post g28)))))))) g12 a11))
set_option maxHeartbeats 4000000 in
set_option maxRecDepth 100000 in
theorem s_M_init {l : Launch} {D : va_G} {cA : Nat → ClassId} {sz z mi mc ms : Nat} {g : Sg} {post : Sg → Prop} {this : Nat} (h : w_M_init z mi mc ms post g this) : Met l y_M_init (Cond.code y_M_init b_M_init 1 none :: TBL) ({ frames := 2, cells := mc, slots := ms, locals := 42 } : Room) (Pg D cA sz z mi [.ref this] g) (Qg D cA sz (pV post)) mc ms (oA sz) := by
  refine m_code (lv := [(0, .ref this)]) (by decide +kernel) (Nat.le_of_ble_eq_true rfl) rfl ?_
  intro p e s m below meth c ls S hr hlk hnm hZ hG hS hl
  obtain ⟨hx, hb, hml, hown, hts⟩ := id S
  have hk : 0 ≤ mc ∧ 0 ≤ ms := ⟨Nat.zero_le _, Nat.zero_le _⟩
  refine lv_aload_n hx hb d_M_init_0 rfl (lv_at hl 0 rfl) ?_
  refine W.objInit hx hb hown (hts _ tw_688) (hts _ tw_31) (hts _ tw_32) rfl (by rw [hml]; exact hl.1) rfl d_M_init_1 (Nat.le_of_ble_eq_true rfl) (Nat.le_of_ble_eq_true rfl) ?_
  refine W.eq (g2 := F0 m 4 ls []) rfl ?_
  refine lv_aload_n hx hb d_M_init_4 rfl (lv_at hl 0 rfl) ?_
  refine r_new (k := 5) S hZ hG hS (by decide) rfl (hts _ tw_689) (hts _ tw_690) (hts _ tw_9) h.1 h.2.1 d_M_init_5 (fun a11 g12 H f9 e9 hG hS => ?_)
  have hk := And.intro h.1 h.2.1
  replace h := h.2.2 a11 f9 g12 e9
  refine lv_dup hx hb d_M_init_8 rfl ?_
  obtain ⟨c13, c14, k1, k2, h⟩ := h
  refine q_callV (run_IN (As := []) (rest := [.ref a11, .ref this]) S hZ hG hS (s_G_init h) tw_693 hZ.2.2.2.2.2.2.2.2.2.2.2.1 tw_692 tw_9 rfl nk_G_init ⟨Nat.le_of_ble_eq_true rfl, Nat.le_of_ble_eq_true rfl⟩ rfl hl.1 rfl (Nat.le_of_ble_eq_true rfl) d_M_init_9 ⟨k1, k2⟩) hS (fun g15 H locs h29 hG hS => ?_)
  have hk := And.intro k1 k2
  replace h := h29
  refine r_putR (f := 51) (v := (some a11)) S hZ hG hS rfl h.1 (hts _ tw_780) (fun _ h9 => h9) (Or.inr ⟨rfl, hnm, rfl⟩) d_M_init_12 (fun g16 H locs e9 hG hS => ?_)
  replace h := h.2 g16 e9
  refine lv_aload_n hx hb d_M_init_15 rfl (lv_at hl 0 rfl) ?_
  refine lv_bipush (v := (16 : Int32)) hx hb d_M_init_16 (by decide) ?_
  obtain ⟨n19, e9, n9, h⟩ := h
  refine r_newa (k := 100) (n := n19) (ty := .int) S hZ hG hS (hts _ tw_88) rfl ⟨by decide, by decide⟩ rfl e9 n9 (de_100 _ 0 _) (by decide) h.1 h.2.1 d_M_init_18 (fun a17 g18 H f9 e9 hG hS => ?_)
  have hk := And.intro h.1 h.2.1
  replace h := h.2.2 a17 f9 g18 e9
  refine r_putR (f := 52) (v := (some a17)) S hZ hG hS rfl h.1 (hts _ tw_781) (fun _ h9 => h9) (Or.inr ⟨rfl, hnm, rfl⟩) d_M_init_20 (fun g20 H locs e9 hG hS => ?_)
  replace h := h.2 g20 e9
  refine lv_aload_n hx hb d_M_init_23 rfl (lv_at hl 0 rfl) ?_
  refine lv_bipush (v := (16 : Int32)) hx hb d_M_init_24 (by decide) ?_
  obtain ⟨n23, e9, n9, h⟩ := h
  refine r_newa (k := 100) (n := n23) (ty := .int) S hZ hG hS (hts _ tw_88) rfl ⟨by decide, by decide⟩ rfl e9 n9 (de_100 _ 0 _) (by decide) h.1 h.2.1 d_M_init_26 (fun a21 g22 H f9 e9 hG hS => ?_)
  have hk := And.intro h.1 h.2.1
  replace h := h.2.2 a21 f9 g22 e9
  refine r_putR (f := 53) (v := (some a21)) S hZ hG hS rfl h.1 (hts _ tw_782) (fun _ h9 => h9) (Or.inr ⟨rfl, hnm, rfl⟩) d_M_init_28 (fun g24 H locs e9 hG hS => ?_)
  replace h := h.2 g24 e9
  refine lv_aload_n hx hb d_M_init_31 rfl (lv_at hl 0 rfl) ?_
  refine lv_bipush (v := (16 : Int32)) hx hb d_M_init_32 (by decide) ?_
  obtain ⟨n27, e9, n9, h⟩ := h
  refine r_newa (k := 101) (n := n27) (ty := .short) S hZ hG hS (hts _ tw_778) rfl ⟨by decide, by decide⟩ rfl e9 n9 (de_101 _ 0 _) (by decide) h.1 h.2.1 d_M_init_34 (fun a25 g26 H f9 e9 hG hS => ?_)
  have hk := And.intro h.1 h.2.1
  replace h := h.2.2 a25 f9 g26 e9
  refine r_putR (f := 55) (v := (some a25)) S hZ hG hS rfl h.1 (hts _ tw_784) (fun _ h9 => h9) (Or.inr ⟨rfl, hnm, rfl⟩) d_M_init_36 (fun g28 H locs e9 hG hS => ?_)
  replace h := h.2 g28 e9
  exact r_vret S hr hlk hG hS h hk.1 hk.2 d_M_init_39
